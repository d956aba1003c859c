/-! seen: the reference -/
def HSt (mi : pm_I) (z ks : Nat) (q : Nat → Int32) : Prop := ks < 2 ∧ mi z 49 = nI ks ∧ ∀ j, j < 31 → mi (z + 9) (31 * ks + j) = q j
section SEENZ
variable {l : Launch} {d h o o2 x z T : Nat} {kd : pm_K} {mr : pm_R} {mi : pm_I} {ml : pm_L} {k ks ms : Nat} {r q : Nat → Int32}
theorem HSt.hand {mi' : pm_I} (H : HSt mi z ks q) (g1 : mi' (z + 9) = mi (z + 9)) (g2 : mi' z 49 = mi z 49) : HSt mi' z ks q := by
  unfold HSt at H ⊢
  rw [g2, g1]
  exact H
theorem s_factsZ {K : Int32 → pm_I → pm_L → Prop} (tz : TX12s kd mr z) (H : HSt mi z ks q) (k9 : K (q 0) mi ml) : wI l M_X12_facts d [.ref z] kd mr mi ml K := by
  obtain ⟨h1, h2, h3⟩ := H
  have ed : (31 : Int32) * nI ks = nI (31 * ks) := z_mul 31 ks
  refine w_X12_facts tz ?_
  rw [h2, ed, z_cl (by omega)]
  refine ⟨z_in (by omega) (by omega), ?_⟩
  have e0 : mi (z + 9) (31 * ks) = q 0 := h3 0 (by omega)
  rw [e0]; exact k9
theorem s_factOfZ {i a : Nat} {u v : Int32} {K : Int32 → pm_I → pm_L → Prop} (tz : TX12s kd mr z) (H : HSt mi z ks q) (hu : u = nI i) (hv : v = nI a) (hi : i < 10) (ha : a < 3) (k9 : K (q (1 + a + 3 * i)) mi ml) : wI l M_X12_factOf d [.ref z, .int u, .int v] kd mr mi ml K := by
  subst hu; subst hv
  obtain ⟨h1, h2, h3⟩ := H
  have ed : (31 : Int32) * nI ks = nI (31 * ks) := z_mul 31 ks
  have ea : (31 : Int32) * nI ks + 1 + 3 * nI i + nI a = nI (31 * ks + (1 + a + 3 * i)) := by
    rw [ed, nI_1, show (3 : Int32) * nI i = nI (3 * i) from z_mul 3 i, nI_add, nI_add]
    congr 1; omega
  refine w_X12_factOf tz ?_
  rw [h2, ea, z_cl (by omega), h3 _ (by omega)]
  exact ⟨z_in (by omega) (by omega), k9⟩
theorem okS.n {q : Nat → Int32} (N : okS q) {o2 : Nat} (R : RR mi o2 0 q) : q 0 = nI (gN q 0) ∧ gN q 0 ≤ 10 := ⟨R.n.2.1, N.1⟩
theorem s_isSeenZ {S : Nat} {u : Int32} {K : Bool → pm_I → pm_L → Prop} (tz : TX12s kd mr z) (H : Hd mi z k r) (O : okC r) (hh : hZ r z ml) (HS : HSt mi z ks q) (N : okS q) (n0 : q 0 = nI (gN q 0)) (ho : hoP r q) (hu : u = nI S) (hS : S < 256) (k9 : K (snB r q S) mi ml) : wB l M_X12_isSeen (d + 2) [.ref z, .int u] kd mr mi ml K := by
  subst hu
  have hw := O.w
  have hn := N.1
  have e26 : mi z 26 = nI (gN r 0) := H.2.2.1
  have loop : ∀ (u i : Nat), i + u = gN q 0 → (∀ j, j < i → (q (1 + 3 * j) = 1 ↔ hb r S (clC r (fx q j) (fy q j)))) → c_X12_isSeen_2 l (d + 2) kd mr z (nI S) (nI i) mi ml K := by
    intro u
    induction u with
    | zero =>
      intro i hi hj
      have : i = gN q 0 := by omega
      subst this
      have e : snB r q S = true := pb_iff.mpr hj
      rw [e] at k9
      refine w_X12_isSeen_2 tz (s_factsZ tz HS ?_)
      rw [n0]
      exact ⟨fun _ => k9, fun h => absurd (nI_le (Nat.le_refl _) (by omega)) h⟩
    | succ u ih =>
      intro i hi hj
      have hi2 : i < gN q 0 := by omega
      obtain ⟨a1, a2, a3, a4, a5⟩ := N.at hi2
      obtain ⟨b1, b2⟩ := ho i hi2
      have hcl := clC_lt b1 b2
      refine w_X12_isSeen_2 tz (s_factsZ tz HS ?_)
      rw [n0]
      refine ⟨fun h => absurd h (nI_ge (by omega) (by omega)), fun _ => s_heardBy tz H O hh rfl hS fun w hw2 => s_factOfZ (a := 2) tz HS rfl rfl (by omega) (by omega) (s_factOfZ (a := 1) tz HS rfl rfl (by omega) (by omega) ?_)⟩
      rw [show 1 + 2 + 3 * i = 3 + 3 * i by omega, show 1 + 1 + 3 * i = 2 + 3 * i by omega, a3, a4, e26]
      have ec : nI (gN r 0) * nI (fy q i) + nI (fx q i) = nI (clC r (fx q i) (fy q i)) := by rw [z_mul, nI_add]; rfl
      rw [ec]
      refine s_isIn rfl (by omega) (s_factOfZ (a := 0) tz HS rfl rfl (by omega) (by omega) ?_)
      rw [show 1 + 0 + 3 * i = 1 + 3 * i by omega]
      have hbw := hw2.at O hcl
      have key : (b2i (bl w (clC r (fx q i) (fy q i))) = b2i (decide (q (1 + 3 * i) = 1))) ↔ (q (1 + 3 * i) = 1 ↔ hb r S (clC r (fx q i) (fy q i))) := by
        rw [← hbw]
        cases e1 : bl w (clC r (fx q i) (fy q i)) <;> by_cases e2 : q (1 + 3 * i) = 1
        · rw [decide_eq_true e2]; exact ⟨fun e => absurd e (by decide), fun e => absurd (e.mp e2) (by decide)⟩
        · rw [decide_eq_false e2]; exact ⟨fun _ => ⟨fun e => absurd e e2, fun e => by cases e⟩, fun _ => rfl⟩
        · rw [decide_eq_true e2]; exact ⟨fun _ => ⟨fun _ => rfl, fun _ => e2⟩, fun _ => rfl⟩
        · rw [decide_eq_false e2]; exact ⟨fun e => absurd e (by decide), fun e => absurd (e.mpr rfl) e2⟩
      refine ⟨fun h => ?_, fun h => ?_⟩
      · rw [nI_1]
        refine ih (i + 1) (by omega) fun j hj2 => ?_
        by_cases e : j = i
        · subst e; exact key.mp h
        · exact hj j (by omega)
      · have e : snB r q S = false := by
          cases e3 : snB r q S with
          | false => rfl
          | true => exact absurd (key.mpr (pb_iff.mp e3 i hi2)) h
        rw [e] at k9
        exact k9
  exact w_X12_isSeen tz (loop (gN q 0) 0 (by omega) fun j hj => by omega)
theorem s_surelyZ {K : Int32 → pm_I → pm_L → Prop} (tz : TX12s kd mr z) (H : Hd mi z k r) (O : okC r) (hr : rowL (mi (z + 22)) (snL r q)) (h48 : mi z 48 = nI (snL r q).length) (k9 : K (andL id (snL r q) (nI (2 ^ gN r 3 - 1)) (snL r q).length) mi ml) : wI l M_X12_surely (d + 1) [.ref z] kd mr mi ml K := by
  have hL := snL_le O q
  have loop : ∀ (u i : Nat), i + u = (snL r q).length → c_X12_surely_7 l (d + 1) kd mr z (andL id (snL r q) (nI (2 ^ gN r 3 - 1)) i) (nI i) mi ml K := by
    intro u
    induction u with
    | zero =>
      intro i hi
      have : i = (snL r q).length := by omega
      subst this
      exact w_X12_surely_7 tz ⟨fun _ => k9, fun h => absurd (by rw [h48]; exact nI_le (Nat.le_refl _) (by omega)) h⟩
    | succ u ih =>
      intro i hi
      refine w_X12_surely_7 tz ⟨fun h => absurd h (by rw [h48]; exact nI_ge (by omega) (by omega)), fun _ => ⟨z_in (by omega) (by omega), ?_⟩⟩
      rw [nI_1, z_cl (by omega), hr i (by omega)]
      exact ih (i + 1) (by omega)
  exact w_X12_surely tz (s_everybody tz H O (loop _ 0 (Nat.zero_add _)))
theorem snL_get (O : okC r) {i : Nat} (hi : i < (snL r q).length) : (snL r q).getD i 0 < 64 := by
  have := (fl_get hi).1
  have hpw := pw_le O.2.2.2.2.1
  have e : snL r q = fl (snB r q) (2 ^ gN r 3) := rfl
  rw [e]; omega
theorem s_listenZ {K : Int32 → pm_I → pm_L → Prop} (tz : TX12s kd mr z) (H : Hd mi z k r) (O : okC r) (hh : hZ r z ml) (hr : rowL (mi (z + 22)) (snL r q)) (h48 : mi z 48 = nI (snL r q).length) (k9 : ∀ c, fmn (ldG r q) (cells r) c → K (nI c) mi ml) : wI l M_X12_listen (d + 2) [.ref z] kd mr mi ml K := by
  have hw := O.w
  have hL := snL_le O q
  have e27 : mi z 27 = nI (cells r) := H.2.2.2.1
  have loop : ∀ (u c : Nat) (x1 x2 : Int32), c + u = cells r → ((c = 0 ∧ x2 = 1000000) ∨ ∃ c0, fmn (ldG r q) c c0 ∧ x1 = nI c0 ∧ x2 = nI (ldG r q c0)) → c_X12_listen_8 l (d + 2) kd mr z x1 x2 (nI c) mi ml K := by
    intro u
    induction u with
    | zero =>
      intro c x1 x2 hc hx
      have : c = cells r := by omega
      subst this
      refine w_X12_listen_8 tz ⟨fun _ => ?_, fun h => absurd (by rw [e27]; exact nI_le (Nat.le_refl _) (by omega)) h⟩
      rcases hx with ⟨h1, -⟩ | ⟨c0, h1, rfl, -⟩
      · omega
      · exact k9 c0 h1
    | succ u ih =>
      intro c x1 x2 hc hx
      refine w_X12_listen_8 tz ⟨fun h => absurd h (by rw [e27]; exact nI_ge (by omega) (by omega)), fun _ => ?_⟩
      have inner : ∀ (u i : Nat), i + u = (snL r q).length → c_X12_listen_22 l (d + 2) kd mr z x1 x2 (nI c) (nI (cnt (fun k => pb (hb r ((snL r q).getD k 0) c)) i)) (nI i) mi ml K := by
        intro u
        induction u with
        | zero =>
          intro i hi
          have : i = (snL r q).length := by omega
          subst this
          refine w_X12_listen_22 tz ⟨fun _ => ?_, fun h => absurd (by rw [h48]; exact nI_le (Nat.le_refl _) (by omega)) h⟩
          have eL : cnt (fun k => pb (hb r ((snL r q).getD k 0) c)) (snL r q).length = ldN r q c := cnt_fl (snB r q) (fun S => pb (hb r S c)) (2 ^ gN r 3)
          rw [eL, h48]
          have hl := ldN_le r q c
          have hg := ldG_le r q c
          refine w_X12_greater (w_X12_lesser ?_)
          rw [z_sub hl, mx_Z9 _ _ (by omega) (by omega), nI_1]
          have eG : mx (ldN r q c) ((snL r q).length - ldN r q c) = ldG r q c := rfl
          rw [eG]
          rcases hx with ⟨rfl, rfl⟩ | ⟨c0, h1, rfl, rfl⟩
          · have c1 : ¬ (1000000 : Int32) ≤ nI (ldG r q 0) := by
              rw [Int32.le_iff_toInt_le, z_toInt (by omega)]
              have e1 : (1000000 : Int32).toInt = 1000000 := by decide
              omega
            have c2 : nI (ldG r q 0) ≤ (1000000 : Int32) := by
              rw [Int32.le_iff_toInt_le, z_toInt (by omega)]
              have e1 : (1000000 : Int32).toInt = 1000000 := by decide
              omega
            rw [if_neg c1, if_pos c2]
            exact ih 1 _ _ (by omega) (Or.inr ⟨0, fmn.one _, rfl, rfl⟩)
          · have hg0 := ldG_le r q c0
            have st := h1.step
            have q1 : (nI (ldG r q c0) ≤ nI (ldG r q c)) = (ldG r q c0 ≤ ldG r q c) := z_le (by omega) (by omega)
            have q2 : (nI (ldG r q c) ≤ nI (ldG r q c0)) = (ldG r q c ≤ ldG r q c0) := z_le (by omega) (by omega)
            by_cases q9 : ldG r q c < ldG r q c0
            · rw [if_neg (fun e => by have := q1.mp e; omega), if_pos (q2.mpr (by omega))]
              rw [if_pos q9] at st
              exact ih (c + 1) _ _ (by omega) (Or.inr ⟨c, st, rfl, rfl⟩)
            · rw [if_pos (q1.mpr (by omega))]
              rw [if_neg q9] at st
              refine ih (c + 1) _ _ (by omega) (Or.inr ⟨c0, st, rfl, ?_⟩)
              by_cases q8 : ldG r q c ≤ ldG r q c0
              · rw [if_pos (q2.mpr q8)]; congr 1; omega
              · rw [if_neg (fun e => q8 (q2.mp e))]
        | succ u ihu =>
          intro i hi
          have hS := snL_get O (show i < (snL r q).length by omega)
          refine w_X12_listen_22 tz ⟨fun h => absurd h (by rw [h48]; exact nI_ge (by omega) (by omega)), fun _ => ⟨z_in (by omega) (by omega), ?_⟩⟩
          rw [z_cl (by omega), hr i (by omega)]
          refine s_heardBy tz H O hh rfl (by omega) fun w hw2 => s_isIn rfl (by omega) ?_
          have nx := ihu (i + 1) (by omega)
          have e1 : cnt (fun k => pb (hb r ((snL r q).getD k 0) c)) (i + 1) = cnt (fun k => pb (hb r ((snL r q).getD k 0) c)) i + if pb (hb r ((snL r q).getD i 0) c) = true then 1 else 0 := rfl
          have hbw := hw2.at O (show c < cells r by omega)
          rw [nI_1]
          cases e2 : bl w c with
          | false =>
            rw [e1, if_neg (fun e => by rw [hbw.mpr (pb_iff.mp e)] at e2; cases e2)] at nx
            have e3 : nI (cnt (fun k => pb (hb r ((snL r q).getD k 0) c)) i) + b2i (decide (false = true)) = nI (cnt (fun k => pb (hb r ((snL r q).getD k 0) c)) i + 0) := by
              rw [show b2i (decide (false = true)) = nI 0 from rfl, nI_add]
            rw [e3]; exact nx
          | true =>
            rw [e1, if_pos (pb_iff.mpr (hbw.mp e2))] at nx
            have e3 : nI (cnt (fun k => pb (hb r ((snL r q).getD k 0) c)) i) + b2i (decide (true = true)) = nI (cnt (fun k => pb (hb r ((snL r q).getD k 0) c)) i + 1) := by
              rw [show b2i (decide (true = true)) = nI 1 from rfl, nI_add]
            rw [e3]; exact nx
      exact inner (snL r q).length 0 (by omega)
  exact w_X12_listen tz (loop (cells r) 0 (-1) _ (by omega) (Or.inl ⟨rfl, rfl⟩))
theorem s_seenZ {w : Int32} {K : Int32 → pm_I → pm_L → Prop} (tz : TX12s kd mr z) (H : Hd mi z k r) (O : okC r) (hh : hZ r z ml) (HS : HSt mi z ks q) (N : okS q) (n0 : q 0 = nI (gN q 0)) (ho : hoP r q) (k9 : ∀ v mi1, (∀ a, a ≠ z → a ≠ z + 22 → mi1 a = mi a) → vSeen r q w v → K v mi1 ml) : c_X12_seen_29 l (d + 3) kd mr z w 0 (pm_up mi z 48 0) ml K := by
  have h3 := O.2.2.2.2.1
  have hpw := pw_le h3
  have hL := snL_le O q
  have loop : ∀ (u n : Nat) (mi1 : pm_I), n + u = 2 ^ gN r 3 → (∀ a, a ≠ z → a ≠ z + 22 → mi1 a = mi a) → (∀ b, b ≠ 48 → mi1 z b = mi z b) → mi1 z 48 = nI (fl (snB r q) n).length → rowL (mi1 (z + 22)) (fl (snB r q) n) → c_X12_seen_29 l (d + 3) kd mr z w (nI n) mi1 ml K := by
    intro u
    induction u with
    | zero =>
      intro n mi1 hn g1 g2 g3 g4
      have : n = 2 ^ gN r 3 := by omega
      subst this
      have H1 : Hd mi1 z k r := by
        unfold Hd at H ⊢
        rw [g2 25 (by omega), g2 26 (by omega), g2 27 (by omega), g2 28 (by omega), g2 29 (by omega), g1 (z + 6) (by omega) (by omega)]
        exact H
      have k9 := fun v h => k9 v mi1 g1 h
      have g3 : mi1 z 48 = nI (snL r q).length := g3
      have g4 : rowL (mi1 (z + 22)) (snL r q) := g4
      refine w_X12_seen_29 tz (s_everybody tz H1 O ⟨fun _ => ⟨fun hlt => ⟨fun hw0 => ?_, fun hw0 => ?_⟩, fun hge => ?_⟩, fun h => absurd (nI_lt (by omega) (by omega)) h⟩)
      · refine w_X12_in ⟨fun ht => ⟨fun hl => ⟨fun hw1 => ?_, fun hw1 => ?_⟩, fun hl => ?_⟩, fun hf => k9 _ (vSeen.k4 hw0 ?_ ?_ (fun i hi e => ?_) rfl)⟩
        · have w2 : w = 2 := by
            rw [Bool.and_eq_true, Bool.not_eq_true', Bool.not_eq_true', decide_eq_false_iff_not, decide_eq_false_iff_not] at ht
            obtain ⟨t1, t2⟩ := ht
            obtain ⟨n, hn, rfl⟩ : ∃ n : Nat, n < 2147483648 ∧ w = nI n := by
              rcases z_cases w with q | q
              · exact absurd (z_ltm q (a := 1) (by omega)) t1
              · exact q
            have c1 : (nI n < 1) = (n < 1) := z_lt (b := 1) (by omega) (by omega)
            have c2 : (2 < nI n) = (2 < n) := z_lt (a := 2) (by omega) (by omega)
            have c3 : (nI n = 1) = (n = 1) := z_eq (b := 1) (by omega) (by omega)
            have d1 : ¬ n < 1 := fun e => t1 (c1.mpr e)
            have d2 : ¬ 2 < n := fun e => t2 (c2.mpr e)
            have d3 : ¬ n = 1 := fun e => hw1 (c3.mpr e)
            have : n = 2 := by omega
            subst this; rfl
          rw [g3] at hl
          have hl2 : ¬ (snL r q).length = 0 := fun e => hl (by rw [e]; rfl)
          exact s_listenZ tz H1 O hh g4 g3 fun c hc => k9 _ (vSeen.k2 O w2 (fun e => absurd e hl2) fun _ => ⟨c, hc, rfl⟩)
        · rw [g3] at hl
          have hl2 : ¬ (snL r q).length = 0 := fun e => hl (by rw [e]; rfl)
          exact s_surelyZ tz H1 O g4 g3 (k9 _ (vSeen.k1 O hw1 (fun e => absurd e hl2) fun _ => rfl))
        · rw [g3] at hl
          have ez : (nI (snL r q).length = 0) = ((snL r q).length = 0) := z_eq (b := 0) (by omega) (by omega)
          have hl2 := ez.mp hl
          by_cases hw1 : w = 1
          · exact k9 _ (vSeen.k1 O hw1 (fun _ => rfl) fun e => absurd hl2 e)
          · by_cases hw2 : w = 2
            · exact k9 _ (vSeen.k2 O hw2 (fun _ => rfl) fun e => absurd hl2 e)
            · exfalso
              rw [Bool.and_eq_true, Bool.not_eq_true', Bool.not_eq_true', decide_eq_false_iff_not, decide_eq_false_iff_not] at ht
              obtain ⟨t1, t2⟩ := ht
              obtain ⟨n, hn, rfl⟩ : ∃ n : Nat, n < 2147483648 ∧ w = nI n := by
                rcases z_cases w with q | q
                · exact absurd (z_ltm q (a := 1) (by omega)) t1
                · exact q
              have c1 : (nI n < 1) = (n < 1) := z_lt (b := 1) (by omega) (by omega)
              have c2 : (2 < nI n) = (2 < n) := z_lt (a := 2) (by omega) (by omega)
              have c3 : (nI n = 1) = (n = 1) := z_eq (b := 1) (by omega) (by omega)
              have c4 : (nI n = 2) = (n = 2) := z_eq (b := 2) (by omega) (by omega)
              have d1 : ¬ n < 1 := fun e => t1 (c1.mpr e)
              have d2 : ¬ 2 < n := fun e => t2 (c2.mpr e)
              have d3 : ¬ n = 1 := fun e => hw1 (c3.mpr e)
              have d4 : ¬ n = 2 := fun e => hw2 (c4.mpr e)
              omega
        · intro e
          rw [e] at hf
          exact absurd hf (by decide)
        · intro e
          rw [e] at hf
          exact absurd hf (by decide)
        · have c1 : (nI (10 + i) < 10) = (10 + i < 10) := z_lt (b := 10) (by omega) (by omega)
          rw [e] at hlt
          have := c1.mp hlt
          omega
      · rw [g3]
        exact k9 _ (vSeen.k0 O hw0 rfl)
      · obtain ⟨n, hn, rfl⟩ : ∃ n : Nat, n < 2147483648 ∧ w = nI n := by
          rcases z_cases w with q | q
          · exact absurd (z_ltm q (a := 10) (by omega)) hge
          · exact q
        have c1 : (nI n < 10) = (n < 10) := z_lt (b := 10) (by omega) (by omega)
        have hn10 : ¬ n < 10 := fun q => hge (c1.mpr q)
        have c2 : nI n - 10 = nI (n - 10) := z_sub (b := 10) (by omega)
        have ne : ∀ j, j < 10 → ¬ nI n = nI j := fun j hj e => by rw [z_eq (by omega) (by omega)] at e; omega
        rw [c2, g3, z_le (by omega) (by omega)]
        refine ⟨fun hl => k9 _ (vSeen.k4 (ne 0 (by omega)) (ne 1 (by omega)) (ne 2 (by omega)) (fun i hi e => ?_) rfl), fun hl => ⟨z_in (by omega) (by omega), ?_⟩⟩
        · rw [z_eq (by omega) (by omega)] at e
          omega
        · rw [z_cl (by omega), g4 _ (by omega)]
          exact k9 _ (vSeen.k3 O (i := n - 10) (by omega) (by rw [show 10 + (n - 10) = n by omega]) rfl)
    | succ u ih =>
      intro n mi1 hn g1 g2 g3 g4
      have H1 : Hd mi1 z k r := by
        unfold Hd at H ⊢
        rw [g2 25 (by omega), g2 26 (by omega), g2 27 (by omega), g2 28 (by omega), g2 29 (by omega), g1 (z + 6) (by omega) (by omega)]
        exact H
      have HS1 : HSt mi1 z ks q := HS.hand (g1 _ (by omega) (by omega)) (g2 49 (by omega))
      have hl : (fl (snB r q) n).length ≤ n := fl_len _ _
      refine w_X12_seen_29 tz (s_everybody tz H1 O ⟨fun h => absurd h (nI_nlt (by omega) (by omega)), fun _ => s_isSeenZ tz H1 O hh HS1 N n0 ho rfl (by omega) ⟨fun hf => w_X12_seen_68 tz ?_, fun ht => ⟨?_, w_X12_seen_68 tz ?_⟩⟩⟩)
      · have e : fl (snB r q) (n + 1) = fl (snB r q) n := if_neg (by rw [hf]; decide)
        rw [nI_1]
        exact ih (n + 1) mi1 (by omega) g1 g2 (by rw [e]; exact g3) (by rw [e]; exact g4)
      · rw [g3]; exact z_in (by omega) (by omega)
      · have e : fl (snB r q) (n + 1) = fl (snB r q) n ++ [n] := if_pos ht
        have ez : (mi1 z 48).toNatClampNeg = (fl (snB r q) n).length := by rw [g3, z_cl (by omega)]
        rw [nI_1, ez, g3, nI_1]
        refine ih (n + 1) _ (by omega) (fun a ha1 ha2 => ?_) (fun b hb => ?_) ?_ ?_
        · rw [pm_up_row _ _ ha1, pm_up_row _ _ ha2]; exact g1 a ha1 ha2
        · rw [pm_up_j _ _ hb, pm_up_row _ _ (by omega)]; exact g2 b hb
        · rw [pm_up_s, e, List.length_append]; rfl
        · rw [pm_up_row _ _ (by omega), e]
          exact rowL_up g4
  exact loop (2 ^ gN r 3) 0 _ (by omega) (fun a ha1 ha2 => pm_up_row _ _ ha1) (fun b hb => pm_up_j _ _ hb) (pm_up_s _ _ _ _) (rowL_nil _)
/-- a sighting is laid out -/
theorem q_sight {y : Int32} {K : Option Nat → pm_I → pm_L → Prop} (tx : TX11s kd mr x) (Is : tS mi (x + 1) z 0 ms) (k0 : isK y ms = false → K none mi ml)
    (k1 : ∀ ks q, q = (fun j => mi (z + 9) (2 * 31 * 0 + 31 * ks + j)) → ks < ms → y = nI ks → TX6s kd mr (x + 1 + 22 + 19 * ks) → RR mi (x + 1 + 22 + 19 * ks) 0 q → okS q → K (some (x + 1 + 22 + 19 * ks)) mi ml) : wR l M_X9_sightAt (d + 1) [.ref (x + 1), .int y] kd mr mi ml K := by
  obtain ⟨⟨hm, e1, -, e2⟩, e3⟩ := Is
  have tT := TX11s_a0 tx
  refine w_X9_sightAt tT (s_hasOne (s := 3) tT rfl (by omega) e1 hm ⟨k0, fun h => ?_⟩)
  obtain ⟨kn, hk, hk2, rfl⟩ := isK_iff.mp h
  have hobj : mr (x + 1 + 6) kn = some (x + 1 + 22 + 19 * kn) ∧ TX6s kd mr (x + 1 + 22 + 19 * kn) := by
    rcases (show kn = 0 ∨ kn = 1 by omega) with rfl | rfl
    · exact ⟨TX9s_e6_0 tT, TX9s_o6_0 tT⟩
    · exact ⟨TX9s_e6_1 tT, TX9s_o6_1 tT⟩
  exact ⟨z_in (by omega) (by omega), _, by rw [z_cl hk2]; exact hobj.1, hobj.2, k1 kn _ rfl hk rfl hobj.2 (e2 kn hk) (e3 kn hk)⟩
theorem s_laySight {mi0 : pm_I} {ml0 : pm_L} {a b : Int32} {m : Nat} {K : Bool → pm_I → pm_L → Prop} (tz : TX12s kd mr z) (Im : tC mi0 ml0 T z 0 m) (Is : tS mi0 T z 0 ms) (h5 : mi (z + 5) = mi0 (z + 5)) (h6 : mi (z + 6) = mi0 (z + 6)) (h9 : mi (z + 9) = mi0 (z + 9))
    (k0 : (isK a m = false ∨ isK b ms = false) → ∀ mi', frZ z mi mi' ml ml → K false mi' ml)
    (k1 : ∀ k ks r q, r = (fun j => mi0 (z + 6) (106 * 0 + 53 * k + j)) → q = (fun j => mi0 (z + 9) (2 * 31 * 0 + 31 * ks + j)) → k < m → ks < ms → a = nI k → b = nI ks → q 0 = nI (gN q 0) → ∀ mi', frZ z mi mi' ml ml → Hd mi' z k r → HSt mi' z ks q → okC r → okS q → (¬ hoP r q → K false mi' ml) ∧ (hoP r q → K true mi' ml)) : wB l M_X12_laySight (d + 4) [.ref z, .int a, .int b] kd mr mi ml K := by
  have f1 : frZ z mi (pm_up mi z 49 b) ml ml := frZ.upI (Or.inl rfl)
  obtain ⟨⟨hm, -, e1, e2⟩, e3⟩ := Is
  refine w_X12_laySight tz (w_X12_hasSight tz (s_is (s := 3) (m := ms) tz rfl (by omega) (by rw [pm_up_row _ _ (by omega), h5]; exact e1) (by omega) ⟨fun e => k0 (Or.inr e) _ f1, fun e => ?_⟩))
  obtain ⟨ks, hk, hk2, hb⟩ := isK_iff.mp e
  have N := e3 ks hk
  have HS : HSt (pm_up mi z 49 b) z ks (fun j => mi0 (z + 9) (2 * 31 * 0 + 31 * ks + j)) := ⟨by omega, by rw [pm_up_s]; exact hb, fun j _ => by
    show _ = mi0 (z + 9) (2 * 31 * 0 + 31 * ks + j)
    rw [pm_up_row _ _ (by omega), h9, show 2 * 31 * 0 + 31 * ks + j = 31 * ks + j by omega]⟩
  have n0 := (e2 ks hk).n.2.1
  cases ea : isK a m with
  | false => exact p_handN tz Im ea (by rw [pm_up_row _ _ (by omega)]; exact h5) (by rw [pm_up_row _ _ (by omega)]; exact h6) ⟨fun e => (by cases e), fun _ => k0 (Or.inl ea) _ f1⟩
  | true =>
    obtain ⟨k, hkk, hkk2, ha⟩ := isK_iff.mp ea
    refine q_hand tz Im rfl hkk ha (by rw [pm_up_row _ _ (by omega)]; exact h5) (by rw [pm_up_row _ _ (by omega)]; exact h6) fun mi' f g1 g2 H => ⟨fun _ => ?_, fun e => by cases e⟩
    have HS' := HS.hand (g1 (z + 9) (by omega)) (g2 49 (by omega))
    obtain ⟨c0, c1⟩ := k1 k ks _ _ rfl rfl hkk hk ha hb n0 mi' (f1.tr f) H HS' (Im.2.2.2 k hkk).1 N
    generalize hr : (fun j => mi0 (z + 6) (106 * 0 + 53 * k + j)) = r at *
    generalize hq : (fun j => mi0 (z + 9) (2 * 31 * 0 + 31 * ks + j)) = q at *
    have n0 : q 0 = nI (gN q 0) := by
      have e : q 0 = mi0 (z + 9) (2 * 31 * 0 + 31 * ks + 0) := by rw [← hq]
      exact e.trans n0
    have O := (Im.2.2.2 k hkk).1
    rw [hr] at O
    have hw := O.w
    have hn := N.1
    have e26 : mi' z 26 = nI (gN r 0) := H.2.2.1
    have e27 : mi' z 27 = nI (gN r 0 * gN r 1) := H.2.2.2.1
    have loop : ∀ (u i : Nat), i + u = gN q 0 → (∀ j, j < i → fx q j < gN r 0 ∧ fy q j < gN r 1) → c_X12_laySight_20 l (d + 4) kd mr z (nI i) mi' ml K := by
      intro u
      induction u with
      | zero =>
        intro i hi hj
        have : i = gN q 0 := by omega
        subst this
        refine w_X12_laySight_20 tz (s_factsZ tz HS' ?_)
        rw [n0]
        exact ⟨fun _ => c1 hj, fun h => absurd (nI_le (Nat.le_refl _) (by omega)) h⟩
      | succ u ih =>
        intro i hi hj
        have hi2 : i < gN q 0 := by omega
        obtain ⟨a1, a2, a3, a4, a5⟩ := N.at hi2
        refine w_X12_laySight_20 tz (s_factsZ tz HS' ?_)
        rw [n0]
        refine ⟨fun h => absurd h (nI_ge (by omega) (by omega)), fun _ => s_factOfZ (a := 1) tz HS' rfl rfl (by omega) (by omega) ?_⟩
        rw [show 1 + 1 + 3 * i = 2 + 3 * i by omega, a3, e26, z_le (by omega) (by omega)]
        refine ⟨fun h => c0 fun h2 => by have := (h2 i hi2).1; omega, fun h => s_factOfZ (a := 2) tz HS' rfl rfl (by omega) (by omega) ?_⟩
        rw [show 1 + 2 + 3 * i = 3 + 3 * i by omega, a4, e27, z_mul]
        have hle : gN r 0 * fy q i ≤ 8 * 8 := Nat.mul_le_mul (by omega) (by omega)
        have hle2 : gN r 0 * gN r 1 ≤ 8 * 8 := Nat.mul_le_mul (by omega) (by omega)
        rw [z_lt (by omega) (by omega)]
        refine ⟨fun h2 => ?_, fun h2 => c0 fun h3 => ?_⟩
        · rw [nI_1]
          refine ih (i + 1) (by omega) fun j hj2 => ?_
          by_cases e : j = i
          · subst e
            exact ⟨by omega, Nat.lt_of_mul_lt_mul_left h2⟩
          · exact hj j (by omega)
        · exact h2 (Nat.mul_lt_mul_of_pos_left (h3 i hi2).2 (by omega))
    exact loop (gN q 0) 0 (by omega) fun j hj => by omega
theorem c_seen {a b w : Int32} (tx : TX11s kd mr x) (tz : TX12s kd mr z) (I : IV x z mi ml) : wI l M_X11_seen (d + 7) [.ref x, .int a, .int b, .int w] kd mr mi ml fun r mi1 ml1 => wI l M_X12_seen (d + 7) [.ref z, .int a, .int b, .int w] kd mr mi1 ml1 fun r2 mi2 ml2 => r = r2 ∧ IV x z mi2 ml2 := by
  have f0 : ∀ (mi : pm_I) (ml : pm_L), frZ z mi (pm_up mi z 0 0) ml ml := fun _ _ => frZ.upI (Or.inl rfl)
  have hz := I.1
  obtain ⟨ms, Is⟩ := I.2.1.2.2.2.2
  have hms := Is.1.1
  have no : ∀ m, tC mi ml (x + 1) z 0 m → (isK a m = false ∨ isK b ms = false) → wI l M_X12_seen (d + 7) [.ref z, .int a, .int b, .int w] kd mr mi ml fun r2 mi2 ml2 => -2 = r2 ∧ IV x z mi2 ml2 := by
    intro m Im h
    have hm := Im.1
    refine w_X12_seen tz (s_laySight tz Im Is (pm_up_row _ _ (by omega)) (pm_up_row _ _ (by omega)) (pm_up_row _ _ (by omega)) (fun _ mi' f => ⟨fun e => (by cases e), fun _ => ⟨rfl, I.smZ ((f0 _ _).tr f)⟩⟩) (fun k kn r q _ _ hk hkn ha hb => ?_))
    rw [ha, hb, isK_nI (by omega), isK_nI (by omega)] at h
    simp [hk, hkn] at h
  refine w_X11_seen tx (q_city tx I (fun m Im h => ⟨fun _ => q_sight tx Is (fun h2 => ⟨fun _ => no m Im (Or.inl h), fun b hb => by cases hb⟩) (fun kn q hq hkn hb to2 R N => ⟨fun e => (by cases e), fun b5 hb5 => ?_⟩), fun b hb => by cases hb⟩) (fun m k r hr Im hk ha to O C => ⟨fun h => (by cases h), fun b4 hb4 => ?_⟩))
  · cases hb5; exact ⟨to2, no m Im (Or.inl h)⟩
  · cases hb4
    have hm := Im.1
    refine ⟨to, q_sight tx Is (fun h2 => ⟨fun _ => no m Im (Or.inr h2), fun b hb => by cases hb⟩) (fun kn q hq hkn hb to2 R N => ⟨fun e => (by cases e), fun b5 hb5 => ?_⟩)⟩
    cases hb5
    have ref : ∀ (v : Int32) (mi1 : pm_I) (ml1 : pm_L), frX x mi mi1 ml ml1 → ((¬ hoP r q ∧ v = -2) ∨ (hoP r q ∧ vSeen r q w v)) → wI l M_X12_seen (d + 7) [.ref z, .int a, .int b, .int w] kd mr mi1 ml1 fun r2 mi2 ml2 => v = r2 ∧ IV x z mi2 ml2 := by
      intro v mi1 ml1 fx hv
      refine w_X12_seen tz (s_laySight tz Im Is (by rw [pm_up_row _ _ (by omega)]; exact (fx _ (by omega)).1) (by rw [pm_up_row _ _ (by omega)]; exact (fx _ (by omega)).1) (by rw [pm_up_row _ _ (by omega)]; exact (fx _ (by omega)).1) (fun h => ?_) (fun k' kn' r' q' hr' hq' hk' hkn' ha' hb' n0 mi' f H HS O' N' => ?_))
      · rw [ha, hb, isK_nI (by omega), isK_nI (by omega)] at h
        simp [hk, hkn] at h
      · have ek : k' = k := by rw [ha] at ha'; rw [z_eq (by omega) (by omega)] at ha'; omega
        have en : kn' = kn := by rw [hb] at hb'; rw [z_eq (by omega) (by omega)] at hb'; omega
        subst ek; subst en
        have er : r' = r := hr'.trans hr.symm
        have eq : q' = q := hq'.trans hq.symm
        subst er; subst eq
        have I2 : IV x z mi' ml1 := (I.smX fx).smZ ((f0 _ _).tr f)
        refine ⟨fun hno => ⟨fun e => (by cases e), fun _ => ?_⟩, fun hyes => ⟨fun _ => ?_, fun e => (by cases e)⟩⟩
        · rcases hv with ⟨-, rfl⟩ | ⟨h1, -⟩
          · exact ⟨rfl, I2⟩
          · exact absurd h1 hno
        · rcases hv with ⟨h1, -⟩ | ⟨-, hv⟩
          · exact absurd hyes h1
          · refine s_findHeard tz H O fun g ml' hl hh => ?_
            have H2 : Hd (pm_ur mi' (z + 12) g) z k' r' := H.ur (by omega) (by omega)
            refine s_seenZ tz H2 O hh (HS.hand (pm_ur_k _ _ (by omega)) (by rw [pm_ur_k _ _ (by omega)])) N n0 hyes fun v2 mi2 g1 hv2 => ⟨hv.uniq hv2, ?_⟩
            exact I2.smZ fun a ha => ⟨by rw [g1 a (by omega) (by omega), pm_ur_k _ _ (by omega)], hl a (by omega)⟩
    refine ⟨to2, s_holds to to2 C O R N (fun hno => ⟨fun e => (by cases e), fun _ => ref _ _ _ frX.rf (Or.inl ⟨hno, rfl⟩)⟩) fun hyes => ⟨fun _ => ?_, fun e => by cases e⟩⟩
    refine q_listen tx to (by omega) C O fun mi1 ml1 fx f1 f2 C1 hx => s_whoPlayed (TX11s_a5 tx) to to2 C1 O hx (R.same (fx _ (by omega)).1 (fx _ (by omega)).1 (fx _ (by omega)).1 (fx _ (by omega)).1) N hyes fun v hv => ref v _ _ fx (Or.inr ⟨hyes, hv⟩)
end SEENZ
