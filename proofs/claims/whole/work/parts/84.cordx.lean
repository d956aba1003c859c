/-! cordon: the class's ways are laid; both answer the same -/
theorem nS_mod {r : Nat → Int32} (O : okC r) {x : Nat} (hx : x < 128) (hc : x % 64 < cells r) : nI (nS r x) - nI (nS r x) / 64 * 64 = nI (spC r (x % 64)) := by
  obtain ⟨n1, n2, n3⟩ := nS_of O hx hc
  have : nI (nS r x) - nI (nS r x) / 64 * 64 = nI (nS r x % 64) := z_rem (b := 64) (by omega) (by omega)
  rw [this, n3]
theorem nS_ge {r : Nat → Int32} (O : okC r) {x : Nat} (hx : x < 128) (hc : x % 64 < cells r) : ((64 : Int32) ≤ nI (nS r x)) = (64 ≤ x) := by
  obtain ⟨n1, n2, n3⟩ := nS_of O hx hc
  have : ((64 : Int32) ≤ nI (nS r x)) = (64 ≤ nS r x) := z_le (a := 64) (by omega) (by omega)
  rw [this]
  exact propext ⟨fun _ => by omega, fun _ => by omega⟩
theorem spC_eqI {r : Nat → Int32} (O : okC r) {x y : Nat} (hx : x < cells r) (hy : y < cells r) : (nI (spC r x) = nI (spC r y)) = (x = y) := by
  have h1 := (spC_in O hx).2.2
  have h2 := (spC_in O hy).2.2
  have : (nI (spC r x) = nI (spC r y)) = (spC r x = spC r y) := z_eq (by omega) (by omega)
  rw [this]
  exact propext ⟨fun g => spC_ij O hx hy g, fun g => by rw [g]⟩
section CRW
variable {l : Launch} {d h x z o a b m hd k : Nat} {kd : pm_K} {mr : pm_R} {mi : pm_I} {ml : pm_L} {r : Nat → Int32} {q : Nat → Nat} {pr : Nat → Option Nat} {F : Nat → Nat → Bool} {T : Nat → Bool} {n : Int}
theorem s_dirOf {u v w : Nat} {K : Int32 → pm_I → pm_L → Prop} (O : okC r) (hu : u < cells r) (hw : w < 4) (hn : fre r u w = some v) (k9 : K (nI w) mi ml) : wI l M_X8_directionOf d [.int (nI (spC r u)), .int (nI (spC r v))] kd mr mi ml K := by
  have hv := fre_lt O hu hn
  have d4 := spC_dir O hu hw (fre_iff.mp hn).1
  have e := dirI _ (spC_in O hu).2.2 _ (spC_in O hv).2.2
  refine w_X8_directionOf ?_
  rw [e]
  rcases (show w = 0 ∨ w = 1 ∨ w = 2 ∨ w = 3 by omega) with rfl | rfl | rfl | rfl
  · exact ⟨fun _ => k9, fun g => absurd (by omega) g⟩
  · exact ⟨fun g => absurd g (by omega), fun _ => ⟨fun _ => k9, fun g => absurd (by omega) g⟩⟩
  · exact ⟨fun g => absurd g (by omega), fun _ => ⟨fun g => absurd g (by omega), fun _ => ⟨fun _ => k9, fun g => absurd (by omega) g⟩⟩⟩
  · exact ⟨fun g => absurd g (by omega), fun _ => ⟨fun g => absurd g (by omega), fun _ => ⟨fun g => absurd g (by omega), fun _ => k9⟩⟩⟩
/-- one arc of the class's bits is set, or taken back -/
theorem gR.set {F' : Nat → Nat → Bool} {T' : Nat → Bool} {ml' : pm_L} {u v w : Nat} {y : Bool} (g : gR ml h r F T) (O : okC r) (hu : u < cells r) (hw : w < 4) (hn : fre r u w = some v) (e1 : ∀ u', u' < cells r → bl (ml' h 3) (spC r u') = T' u') (e2 : ∀ u' w', u' < cells r → w' < 4 → bl (ml' (h + 3) w') (spC r u') = if w' = w ∧ u' = u then y else bl (ml (h + 3) w') (spC r u'))
    (e3 : ∀ u' v', u' < 64 → v' < 64 → F' u' v' = if u' = u ∧ v' = v then y else F u' v') : gR ml' h r F' T' := by
  have hb := O.w
  refine ⟨e1, fun u' w' hu' hw' => ?_⟩
  rw [e2 u' w' hu' hw']
  by_cases q : w' = w ∧ u' = u
  · obtain ⟨rfl, rfl⟩ := q
    rw [if_pos ⟨rfl, rfl⟩]
    have hv := fre_lt O hu hn
    constructor
    · intro hy; exact ⟨v, hn, by rw [e3 _ _ (by omega) (by omega), if_pos ⟨rfl, rfl⟩]; exact hy⟩
    · rintro ⟨v', h1, h2⟩
      rw [hn] at h1; cases h1
      rw [e3 _ _ (by omega) (by omega), if_pos ⟨rfl, rfl⟩] at h2; exact h2
  · rw [if_neg q, g.2 u' w' hu' hw']
    have same : ∀ v', fre r u' w' = some v' → F' u' v' = F u' v' := by
      intro v' h1
      have hv := fre_lt O hu' h1
      rw [e3 _ _ (by omega) (by omega), if_neg]
      rintro ⟨rfl, rfl⟩
      exact q ⟨dir_uniq O hu hw' hw (fre_iff.mp h1).1 (fre_iff.mp hn).1, rfl⟩
    constructor
    · rintro ⟨v', h1, h2⟩; exact ⟨v', h1, by rw [same v' h1]; exact h2⟩
    · rintro ⟨v', h1, h2⟩; exact ⟨v', h1, by rw [same v' h1] at h2; exact h2⟩
theorem cS_bit {y : Int64} {c u : Nat} (hv : cS r y fun c' => c' = c) (O : okC r) (hu : u < cells r) : bl y (spC r u) = decide (u = c) := by
  have := hv.sp O hu
  cases e : bl y (spC r u) with
  | true => rw [decide_eq_true (this.mp e)]
  | false => rw [decide_eq_false fun g => by rw [this.mpr g] at e; cases e]
def fW (h : Nat) (ml ml' : pm_L) : Prop := ∀ c, c < h ∨ h + 3 < c → ml' c = ml c
theorem fW.up {ml' : pm_L} {c j : Nat} {v : Int64} (f : fW h ml ml') (hc : h ≤ c ∧ c ≤ h + 3) : fW h ml (pm_up ml' c j v) := fun e g => (pm_up_row _ _ (by omega)).trans (f e g)
theorem s_layWay {F0 : Nat → Nat → Bool} {T0 : Nat → Bool} {K : pm_I → pm_L → Prop} (th : TX8s kd mr h) (O : okC r) (ha : a < cells r) (hb : b < cells r) (Fl0 : Flw (arC r) a b F0 T0 n b) (wa : wlC r a = false) (B : Bq (RY r a b F0 T0) (RY r a b F0 T0) (64 + a) q m pr hd) (Q : mX mi h a r q m pr) (hmet : (pr b).isSome = true) (g0 : gR ml h r F0 T0)
    (k9 : ∀ ml' F' T', fW h ml ml' → Flw (arC r) a b F' T' (n + 1) b → gR ml' h r F' T' → K mi ml') : wV l M_X8_layWay (d + 1) [.ref h, .int (nI (spC r a)), .int (nI (spC r b))] kd mr mi ml K := by
  have hw := O.w
  have hm := B.le
  have a64 := (spC_in O ha).2.2
  have cell := fun j hj => (B_cell (fun x y g => ⟨Or.inl g.1, g.2⟩) O Fl0 ha hb wa B j hj).1
  have step : ∀ (j k : Nat) (ml1 : pm_L) (F : Nat → Nat → Bool) (T : Nat → Bool), j < m → k + j < 128 → fW h ml ml1 → gR ml1 h r F T → Flw (arC r) a b F T n (q j) → (∀ i i', i < i' → i' ≤ j → pr (q i') = some (q i) → Rs (arC r) a b F T (q i) (q i')) → c_X8_layWay_5 l (d + 1) kd mr h (nI (spC r a)) (nI (nS r (q j))) (nI k) mi ml1 K := by
    intro j
    induction j using Nat.strongRecOn with
    | ind j ih =>
      intro k ml1 F T hj hk f1 gr Fl inv
      have q128 := B.2.2.1 j hj
      have cj := cell j hj
      obtain ⟨n1, n2, n3⟩ := nS_of O q128 cj
      refine w_X8_layWay_5 th ⟨fun g => absurd g (nI_ge (b := 128) (by omega) (by omega)), fun _ => ?_⟩
      have e64 : (64 : Int32) + nI (spC r a) = nI (nS r (64 + a)) := by rw [nS_hi (by omega)]; exact nI_add 64 _
      have na := nS_of O (x := 64 + a) (by omega) (by omega)
      have eroot : (nI (nS r (q j)) = nI (nS r (64 + a))) = (nS r (q j) = nS r (64 + a)) := z_eq (by omega) (by omega)
      rw [e64, eroot]
      by_cases j0 : j = 0
      · subst j0
        refine ⟨fun _ => k9 ml1 F T f1 ?_ gr, fun g => absurd (by rw [B.2.1]) g⟩
        rw [B.2.1] at Fl
        exact Fl.fin (by omega) (by omega)
      · obtain ⟨i, i1, i2, i3⟩ := B.2.2.2.2.2.1 j (by omega) hj
        have hne : q j ≠ 64 + a := fun g => by
          have := B.2.2.2.2.1 j 0 hj (by omega) (by rw [g, B.2.1])
          omega
        have p128 := B.2.2.1 i (by omega)
        have ci := cell i (by omega)
        obtain ⟨m1, m2, m3⟩ := nS_of O p128 ci
        refine ⟨fun g => absurd (nS_inj O q128 (by omega) cj (by omega) g) hne, fun _ => ⟨fun g => absurd g (nI_pos (by omega)), fun _ => ⟨z_in n1 (by omega), ?_⟩⟩⟩
        have eO : oP r (some (q i)) = nI (nS r (q i)) := rfl
        rw [z_cl (a := nS r (q j)) (by omega), Q.2.1 _ q128 cj, i2, eO]
        refine ⟨fun _ => ?_, fun g => absurd (nI_le (a := 0) (by omega) (by omega)) g⟩
        have Rj := inv i j i1 (Nat.le_refl j) i2
        have Fl' := aug1 (arC_ir O) Fl Rj hne
        have inv' : ∀ i2 i', i2 < i' → i' ≤ i → pr (q i') = some (q i2) → Rs (arC r) a b (stF F (q i) (q j)) (stT T (q i) (q j)) (q i2) (q i') := by
          intro i2 i' g1 g2 g3
          refine aug2 (inv i2 i' g1 (by omega) g3) (fun g => ?_) (fun g => ?_)
          · have := B.2.2.2.2.1 i' j (by omega) hj g.2; omega
          · have := B.2.2.2.2.1 i2 j (by omega) hj g.1; omega
        have on : ∀ ml2, fW h ml ml2 → gR ml2 h r (stF F (q i) (q j)) (stT T (q i) (q j)) → c_X8_layWay_141 l (d + 1) kd mr h (nI (spC r a)) (nI k) (nI (nS r (q i))) mi ml2 K := by
          intro ml2 f2 g2
          refine w_X8_layWay_141 th ?_
          rw [nI_1]
          exact ih i i1 (k + 1) ml2 _ _ (by omega) (by omega) f2 g2 Fl' inv'
        have eD : decide ((64 : Int32) ≤ nI (nS r (q j))) = decide (64 ≤ q j) := by simp only [nS_ge O q128 cj]
        rw [nS_mod O q128 cj, nS_mod O p128 ci, spC_eqI O cj ci, eD]
        rcases Rj with ⟨u, v, e1, e2, hu, hv, har, hva, hF⟩ | ⟨u, v, e1, e2, hu, hv, hF⟩ | ⟨v, e1, e2, hv, hva, hvb, hT⟩ | ⟨v, e1, e2, hv, hT⟩
        · -- a free arc
          obtain ⟨hcu, hwu, w, hw4, hn⟩ := har
          have hvc := fre_lt O hcu hn
          have huv : u ≠ v := fun g => fre_ne O hw4 hn g.symm
          have eu : q i % 64 = u := by omega
          have ev : q j % 64 = v := by omega
          rw [eu, ev]
          refine ⟨fun _ => ⟨fun g => ?_, fun _ => s_dirOf O hcu hw4 hn ⟨z_in (by omega) (by omega), s_onlyC O rfl hcu fun y hy => ⟨z_in (by omega) (by omega), ?_⟩⟩⟩, fun g => absurd g.symm huv⟩
          · rw [decide_eq_false (show ¬ 64 ≤ q j by omega)] at g; cases g
          · rw [z_cl (a := w) (by omega)]
            refine on _ (f1.up (by omega)) (gr.set O hcu hw4 hn (y := true) (fun u' hu' => ?_) (fun u' w' hu' hw' => ?_) fun u' v' hu' hv' => ?_)
            · rw [pm_up_row _ _ (by omega), gr.1 u' hu']
              unfold stT
              rw [if_neg (by omega), if_neg (by omega)]
            · by_cases g : w' = w
              · subst g
                rw [pm_up_s, bl_or, cS_bit hy O hu']
                by_cases g2 : u' = u
                · subst g2; simp
                · simp [g2]
              · rw [pm_up_j _ _ g, if_neg (fun z => g z.1)]
            · unfold stF
              by_cases g : u' = u ∧ v' = v
              · rw [if_pos g, if_pos (by omega)]
              · rw [if_neg g, if_neg (by omega), if_neg (by omega)]
        · -- back
          obtain ⟨hcu, hwu, w, hw4, hn⟩ := (Fl.1 u v hF).2.2.1
          have hvc := fre_lt O hcu hn
          have huv : u ≠ v := fun g => fre_ne O hw4 hn g.symm
          have eu : q j % 64 = u := by omega
          have ev : q i % 64 = v := by omega
          rw [eu, ev]
          refine ⟨fun _ => ⟨fun _ => s_dirOf O hcu hw4 hn ⟨z_in (by omega) (by omega), s_onlyC O rfl hcu fun y hy => ⟨z_in (by omega) (by omega), ?_⟩⟩, fun g => ?_⟩, fun g => absurd g huv⟩
          · rw [z_cl (a := w) (by omega)]
            refine on _ (f1.up (by omega)) (gr.set O hcu hw4 hn (y := false) (fun u' hu' => ?_) (fun u' w' hu' hw' => ?_) fun u' v' hu' hv' => ?_)
            · rw [pm_up_row _ _ (by omega), gr.1 u' hu']
              unfold stT
              rw [if_neg (by omega), if_neg (by omega)]
            · by_cases g : w' = w
              · subst g
                rw [pm_up_s, bl_not, cS_bit hy O hu']
                by_cases g2 : u' = u
                · subst g2; simp
                · simp [g2]
              · rw [pm_up_j _ _ g, if_neg (fun z => g z.1)]
            · unfold stF
              rw [if_neg (by omega)]
              by_cases g : u' = u ∧ v' = v
              · rw [if_pos g, if_pos (by omega)]
              · rw [if_neg g, if_neg (by omega)]
          · rw [decide_eq_true (show 64 ≤ q j by omega)] at g; cases g
        · -- through
          have eu : q i % 64 = v := by omega
          have ev : q j % 64 = v := by omega
          rw [ev, eu]
          have hvc : v < cells r := by omega
          refine ⟨fun g => absurd rfl g, fun _ => s_onlyC O rfl hvc fun y hy => on _ (f1.up (by omega)) ⟨fun u' hu' => ?_, fun u' w' hu' hw' => ?_⟩⟩
          · rw [pm_up_s, bl_xor, gr.1 u' hu', cS_bit hy O hu']
            unfold stT
            by_cases g : u' = v
            · subst g; rw [if_pos (by omega), hT]; simp
            · rw [if_neg (by omega), if_neg (by omega)]; simp [g]
          · rw [pm_up_row _ _ (by omega), gr.2 u' w' hu' hw']
            have sm9 : ∀ v', v' < 64 → stF F (q i) (q j) u' v' = F u' v' := fun v' _ => by
              unfold stF
              rw [if_neg (by omega), if_neg (by omega)]
            constructor
            · rintro ⟨v', g1, g2⟩; have := fre_lt O hu' g1; exact ⟨v', g1, by rw [sm9 v' (by omega)]; exact g2⟩
            · rintro ⟨v', g1, g2⟩; have := fre_lt O hu' g1; exact ⟨v', g1, by rw [sm9 v' (by omega)] at g2; exact g2⟩
        · -- back through
          have eu : q i % 64 = v := by omega
          have ev : q j % 64 = v := by omega
          rw [ev, eu]
          have hvc : v < cells r := by omega
          refine ⟨fun g => absurd rfl g, fun _ => s_onlyC O rfl hvc fun y hy => on _ (f1.up (by omega)) ⟨fun u' hu' => ?_, fun u' w' hu' hw' => ?_⟩⟩
          · rw [pm_up_s, bl_xor, gr.1 u' hu', cS_bit hy O hu']
            unfold stT
            by_cases g : u' = v
            · subst g; rw [if_neg (by omega), if_pos (by omega), hT]; simp
            · rw [if_neg (by omega), if_neg (by omega)]; simp [g]
          · rw [pm_up_row _ _ (by omega), gr.2 u' w' hu' hw']
            have sm9 : ∀ v', v' < 64 → stF F (q i) (q j) u' v' = F u' v' := fun v' _ => by
              unfold stF
              rw [if_neg (by omega), if_neg (by omega)]
            constructor
            · rintro ⟨v', g1, g2⟩; have := fre_lt O hu' g1; exact ⟨v', g1, by rw [sm9 v' (by omega)]; exact g2⟩
            · rintro ⟨v', g1, g2⟩; have := fre_lt O hu' g1; exact ⟨v', g1, by rw [sm9 v' (by omega)] at g2; exact g2⟩
  obtain ⟨j, j1, j2⟩ := (B.2.2.2.1 b).mp hmet
  have := step j 0 ml F0 T0 j1 (by omega) (fun _ _ => rfl) g0 (by rw [j2]; exact Fl0) fun i i' g1 g2 g3 => by
    obtain ⟨e, e1, e2, e3⟩ := B.2.2.2.2.2.1 i' (by omega) (by omega)
    rw [g3] at e2
    have e4 : q i = q e := by injection e2
    rw [e4]
    exact e3.1
  rw [j2, nS_lo (by omega)] at this
  exact w_X8_layWay th this
theorem s_fillL {a n : Nat} {v : Int64} {K : pm_I → pm_L → Prop} (ka : kd[a]? = some (2, n)) (hn : n < 2147483648) (k9 : K mi (pm_ur ml a fun i => if i < n then v else ml a i)) : wV l M_J7_fill_d0a16 d [.ref a, .long v] kd mr mi ml K := by
  have loop : ∀ (q i : Nat), i + q = n → c_J7_fill_d0a16_6 l d kd mr a n v (nI i) (nI n) mi (pm_ur ml a fun j => if j < i then v else ml a j) K := by
    intro q
    induction q with
    | zero =>
      intro i hi
      have : i = n := by omega
      subst this
      exact w_J7_fill_d0a16_6 ka ⟨fun _ => k9, fun h => absurd (nI_le (Nat.le_refl _) hn) h⟩
    | succ q ih =>
      intro i hi
      refine w_J7_fill_d0a16_6 ka ⟨fun h => absurd h (nI_ge (by omega) (by omega)), fun _ => ⟨z_in (by omega) (by omega), ?_⟩⟩
      rw [nI_1, z_cl (by omega), pm_up_ur]
      have := ih (i + 1) (by omega)
      have e : (fun j => if j = i then v else if j < i then v else ml a j) = fun j => if j < i + 1 then v else ml a j := by
        funext j
        by_cases q1 : j = i
        · subst q1; rw [if_pos rfl, if_pos (by omega)]
        · rw [if_neg q1]
          by_cases q2 : j < i
          · rw [if_pos q2, if_pos (by omega)]
          · rw [if_neg q2, if_neg (by omega)]
      rw [e]; exact this
  have := loop n 0 (by omega)
  have e : (fun j => if j < 0 then v else ml a j) = ml a := by funext j; rw [if_neg (by omega)]
  rw [e, pm_ur_self] at this
  exact w_J7_fill_d0a16 ka this
/-- rows of Streets alone have changed -/
def fS (h : Nat) (mi mi' : pm_I) (ml ml' : pm_L) : Prop := ∀ c, c < h ∨ h + 6 < c → mi' c = mi c ∧ ml' c = ml c
theorem s_fewestWalls {A C : Option Nat} {u v : Int32} {op : Int64} {K : Int32 → pm_I → pm_L → Prop} (th : TX8s kd mr h) (O : okC r) (hz : ∀ s, s < 64 → bl op s = opS r s) (hu : u = sI r A) (hv : v = sI r C) (hA : ∀ f, A = some f → f < cells r) (hC : ∀ f, C = some f → f < cells r)
    (k0 : (A = none ∨ C = none ∨ (∃ f, A = some f ∧ wlC r f = true) ∨ (∃ t, C = some t ∧ wlC r t = true) ∨ ∃ f t, A = some f ∧ C = some t ∧ (f = t ∨ ∃ w, w < 4 ∧ fre r f w = some t)) → K (-1) mi ml)
    (k1 : ∀ f t v mi' ml', A = some f → C = some t → wlC r f = false → wlC r t = false → f ≠ t → (¬ ∃ w, w < 4 ∧ fre r f w = some t) → isMx (arC r) f t v → fS h mi mi' ml ml' → K (nI v) mi' ml') : wI l M_X8_fewestWalls (d + 4) [.ref h, .long op, .int u, .int v] kd mr mi ml K := by
  subst hu; subst hv
  have hw := O.w
  cases A with
  | none => exact w_X8_fewestWalls th (s_hasN rfl ⟨fun _ => k0 (Or.inl rfl), fun h => by cases h⟩)
  | some f =>
    have hf := hA f rfl
    obtain ⟨f1, f2, f3⟩ := spC_in O hf
    refine w_X8_fewestWalls th (s_hasX (n := spC r f) rfl f3 ?_)
    rw [hz _ f3, opS_sp O hf]
    refine ⟨fun h => k0 (Or.inr (Or.inr (Or.inl ⟨f, rfl, by simpa using h⟩))), fun hof => ?_⟩
    have hof : wlC r f = false := by simpa using hof
    cases C with
    | none => exact s_hasN rfl ⟨fun h => k0 (Or.inr (Or.inl rfl)), fun h => by cases h⟩
    | some t =>
      have ht := hC t rfl
      obtain ⟨t1, t2, t3⟩ := spC_in O ht
      refine s_hasX (n := spC r t) rfl t3 ?_
      rw [hz _ t3, opS_sp O ht]
      refine ⟨fun h => k0 (Or.inr (Or.inr (Or.inr (Or.inl ⟨t, rfl, by simpa using h⟩)))), fun hot => ?_⟩
      have hot : wlC r t = false := by simpa using hot
      refine s_onlyC O rfl hf fun y hy => s_grown O hz hy fun y2 hy2 => s_hasX rfl t3 ?_
      have hbit := hy2.sp O ht
      refine ⟨fun hno => ?_, fun hyes => ?_⟩
      · have hP : ¬ (t = f ∨ ∃ c w, w < 4 ∧ c < cells r ∧ c = f ∧ fre r c w = some t) := fun g => by
          rw [hbit.mpr g] at hno; cases hno
        have hft : f ≠ t := fun g => hP (Or.inl g.symm)
        have nab : ¬ ∃ w, w < 4 ∧ fre r f w = some t := fun ⟨w, w1, w2⟩ => hP (Or.inr ⟨f, w, w1, hf, rfl, w2⟩)
        refine s_fillL (TX8s_a2 th) (by omega) ?_
        have loop : ∀ (s k : Nat) (mi1 : pm_I) (ml1 : pm_L) (F : Nat → Nat → Bool) (T : Nat → Bool), k + s = 4 → fS h mi mi1 ml ml1 → gR ml1 h r F T → Flw (arC r) f t F T (k : Int) t → c_X8_fewestWalls_51 l (d + 4) kd mr h op (nI (spC r f)) (nI (spC r t)) (nI k) mi1 ml1 K := by
          intro s
          induction s with
          | zero =>
            intro k mi1 ml1 F T hk f1 gr Fl
            have : k = 4 := by omega
            subst this
            refine w_X8_fewestWalls_51 th ⟨fun _ => k1 f t 4 mi1 ml1 rfl rfl hof hot hft nab ⟨⟨F, T, Fl⟩, fun F' T' n' h' => fl_four h' (by omega) (by omega) (fre r f) fun v hv => hv.2.2⟩ f1, fun g => absurd (nI_le (Nat.le_refl 4) (by omega)) g⟩
          | succ s ih =>
            intro k mi1 ml1 F T hk f1 gr Fl
            refine w_X8_fewestWalls_51 th ⟨fun g => absurd g (nI_ge (b := 4) (by omega) (by omega)), fun _ => s_findWay th O hz Fl hf ht hft hof gr rfl rfl (fun mi2 q m pr f2 B hno => ⟨fun g => (by cases g), fun _ => ?_⟩) (fun mi2 q m pr hd f2 B Q hyes => ⟨fun _ => ?_, fun g => (by cases g)⟩)⟩
            · refine k1 f t k mi2 ml1 rfl rfl hof hot hft nab (cut_Bq Fl (by omega) (by omega) (fun x y hx hR => ⟨hR, ?_⟩) B hno) (fun c g => ⟨(f2 c (by omega)).trans (f1 c g).1, (f1 c g).2⟩)
              obtain ⟨j, j1, rfl⟩ := (B.2.2.2.1 x).mp hx
              have c1 := (B_cell (fun x y g => ⟨Or.inl g.1, g.2⟩) O Fl hf ht hof B j j1).1
              rcases hR with ⟨u1, v1, e1, e2, h1, h2, h3, -⟩ | ⟨u1, v1, e1, e2, h1, h2, h3⟩ | ⟨v1, e1, e2, h1, -⟩ | ⟨v1, e1, e2, h1, -⟩
              · have := (arC_lt O h3).2; omega
              · have := (arC_lt O (Fl.1 u1 v1 h3).2.2.1).1; omega
              · omega
              · omega
            · refine s_layWay th O hf ht Fl hof B Q hyes gr fun ml2 F' T' g1 Fl' gr' => ?_
              rw [nI_1]
              exact ih (k + 1) mi2 ml2 F' T' (by omega) (fun c g => ⟨(f2 c (by omega)).trans (f1 c g).1, (g1 c (by omega)).trans (f1 c g).2⟩) gr' (by rw [show ((k + 1 : Nat) : Int) = (k : Int) + 1 from rfl]; exact Fl')
        refine loop 4 0 mi _ (fun _ _ => false) (fun _ => false) rfl (fun c g => ⟨rfl, ?_⟩) ⟨fun u' hu' => ?_, fun u' w' hu' hw' => ?_⟩ (Flw.zero (by omega) hft)
        · rw [pm_up_row _ _ (by omega), pm_ur_k _ _ (by omega)]
        · rw [pm_up_s, bl_0]
        · rw [pm_up_row _ _ (by omega), pm_ur_s]
          dsimp only
          rw [if_pos hw', bl_0]
          exact ⟨fun g => (by cases g), fun ⟨_, _, g⟩ => (by cases g)⟩
      · refine k0 (Or.inr (Or.inr (Or.inr (Or.inr ⟨f, t, rfl, rfl, ?_⟩))))
        rcases hbit.mp hyes with g | ⟨c, w, w1, -, rfl, w2⟩
        · exact Or.inl g.symm
        · exact Or.inr ⟨w, w1, w2⟩
/-- what cordon answers of a city -/
def vCordon (r : Nat → Int32) (b c : Int32) : Int32 → Prop := vK b (cells r) (-1) fun f => vK c (cells r) (-1) fun t v =>
  ((wlC r f = true ∨ wlC r t = true ∨ f = t ∨ ∃ w, w < 4 ∧ fre r f w = some t) ∧ v = -1) ∨ (¬ (wlC r f = true ∨ wlC r t = true ∨ f = t ∨ ∃ w, w < 4 ∧ fre r f w = some t) ∧ ∃ n, v = nI n ∧ isMx (arC r) f t n)
theorem vCordon.uniq {r : Nat → Int32} {b c v v' : Int32} (h1 : vCordon r b c v) (h2 : vCordon r b c v') : v = v' := by
  unfold vCordon at h1 h2
  refine vK_uniq (fun f v v' _ g1 g2 => ?_) h1 h2
  refine vK_uniq (fun t v v' _ g1 g2 => ?_) g1 g2
  rcases g1 with ⟨p1, rfl⟩ | ⟨p1, n1, rfl, m1⟩
  · rcases g2 with ⟨p2, rfl⟩ | ⟨p2, -⟩
    · rfl
    · exact absurd p1 p2
  · rcases g2 with ⟨p2, -⟩ | ⟨p2, n2, rfl, m2⟩
    · exact absurd p2 p1
    · rw [m1.uniq m2]
theorem s_isNext {u v : Int32} {K : Bool → pm_I → pm_L → Prop} (tz : TX12s kd mr z) (H : Hd mi z k r) (O : okC r) (hu : u = nI a) (hv : v = nI b) (ha : a < cells r) (hb : b < cells r) (k0 : (¬ ∃ w, w < 4 ∧ nxt r a w = some b) → K false mi ml) (k1 : (∃ w, w < 4 ∧ nxt r a w = some b) → K true mi ml) : wB l M_X12_isNext (d + 1) [.ref z, .int u, .int v] kd mr mi ml K := by
  subst hu; subst hv
  have hw := O.w
  have loop : ∀ (s w : Nat), w + s = 4 → (∀ w', w' < w → nxt r a w' ≠ some b) → c_X12_isNext_2 l (d + 1) kd mr z (nI a) (nI b) (nI w) mi ml K := by
    intro s
    induction s with
    | zero =>
      intro w hs hno
      have : w = 4 := by omega
      subst this
      exact w_X12_isNext_2 tz ⟨fun _ => k0 fun ⟨w, w1, w2⟩ => hno w w1 w2, fun g => absurd (nI_le (Nat.le_refl 4) (by omega)) g⟩
    | succ s ih =>
      intro w hs hno
      refine w_X12_isNext_2 tz ⟨fun g => absurd g (nI_ge (b := 4) (by omega) (by omega)), fun _ => s_next tz H O rfl rfl ha (by omega) ?_⟩
      rw [nI_1]
      cases e : nxt r a w with
      | none =>
        refine ⟨fun _ => ih (w + 1) (by omega) fun w' hw' => ?_, fun g => absurd g.symm (nI_m1' (by omega))⟩
        by_cases g : w' = w
        · subst g; rw [e]; exact fun g => (by cases g)
        · exact hno w' (by omega)
      | some t =>
        have ht := nxt_lt O ha e
        have et : (nI t = nI b) = (t = b) := z_eq (by omega) (by omega)
        show (¬ nI t = nI b → _) ∧ (nI t = nI b → _)
        rw [et]
        refine ⟨fun g2 => ih (w + 1) (by omega) fun w' hw' => ?_, fun g => k1 ⟨w, by omega, by rw [e, g]⟩⟩
        by_cases g : w' = w
        · subst g; rw [e]; exact fun g => g2 (by injection g)
        · exact hno w' (by omega)
  exact w_X12_isNext tz (loop 4 0 rfl fun w' hw' => by omega)
theorem c_cordon {a b c : Int32} (tx : TX11s kd mr x) (tz : TX12s kd mr z) (I : IV x z mi ml) : wI l M_X11_cordon (d + 6) [.ref x, .int a, .int b, .int c] kd mr mi ml fun r mi1 ml1 => wI l M_X12_cordon (d + 6) [.ref z, .int a, .int b, .int c] kd mr mi1 ml1 fun r2 mi2 ml2 => r = r2 ∧ IV x z mi2 ml2 := by
  have e5 : pm_up mi z 0 (0 : Int32) (z + 5) = mi (z + 5) := pm_up_row _ _ (by omega)
  have e6 : pm_up mi z 0 (0 : Int32) (z + 6) = mi (z + 6) := pm_up_row _ _ (by omega)
  have hz := I.1
  refine w_X11_cordon tx (q_city tx I (fun m Im h => ⟨fun _ => ?_, fun b hb => (by cases hb)⟩) (fun m k r hr Im hk ha to O C => ⟨fun h => (by cases h), fun b4 hb4 => ?_⟩))
  · exact w_X12_cordon tz (p_handN tz Im h e5 e6 ⟨fun _ => ⟨rfl, I.smZ (frZ.upI (Or.inl rfl))⟩, fun g => (by cases g)⟩)
  · cases hb4
    have hb := O.w
    -- the reference, once the class has answered v
    have ref : ∀ v mi1 ml1, vCordon r b c v → frX x mi mi1 ml ml1 → wI l M_X12_cordon (d + 6) [.ref z, .int a, .int b, .int c] kd mr mi1 ml1 fun r2 mi2 ml2 => v = r2 ∧ IV x z mi2 ml2 := by
      intro v mi1 ml1 hv fx
      have I1 := I.smX fx
      have f0 : frZ z mi1 (pm_up mi1 z 0 0) ml1 ml1 := frZ.upI (Or.inl rfl)
      have e5 : pm_up mi1 z 0 (0 : Int32) (z + 5) = mi (z + 5) := (pm_up_row _ _ (by omega)).trans (fx _ (by omega)).1
      have e6 : pm_up mi1 z 0 (0 : Int32) (z + 6) = mi (z + 6) := (pm_up_row _ _ (by omega)).trans (fx _ (by omega)).1
      refine w_X12_cordon tz (q_hand tz Im hr hk ha e5 e6 fun mi' f g1 g2 H => ⟨fun g => (by cases g), fun _ => ?_⟩)
      have fin : ∀ v2 mi2, vCordon r b c v2 → frZ z mi' mi2 ml1 ml1 → v = v2 ∧ IV x z mi2 ml1 := fun v2 mi2 h1 h2 => ⟨hv.uniq h1, I1.smZ ((f0.tr f).tr h2)⟩
      refine s_isCell tz H O ⟨fun h => fin _ _ (vK_no h) frZ.rf, fun h => ?_⟩
      obtain ⟨A, hA, hA2, rfl⟩ := isK_iff.mp h
      refine s_isCell tz H O ⟨fun h => fin _ _ (vK_yes hA hA2 rfl (vK_no h)) frZ.rf, fun h => ?_⟩
      obtain ⟨G, hG, hG2, rfl⟩ := isK_iff.mp h
      have fin2 : ∀ v2 mi2, (((wlC r A = true ∨ wlC r G = true ∨ A = G ∨ ∃ w, w < 4 ∧ fre r A w = some G) ∧ v2 = -1) ∨ (¬ (wlC r A = true ∨ wlC r G = true ∨ A = G ∨ ∃ w, w < 4 ∧ fre r A w = some G) ∧ ∃ n, v2 = nI n ∧ isMx (arC r) A G n)) → frZ z mi' mi2 ml1 ml1 → v = v2 ∧ IV x z mi2 ml1 := fun v2 mi2 h1 h2 => fin v2 mi2 (vK_yes hA hA2 rfl (vK_yes hG hG2 rfl h1)) h2
      have eAG : (nI A = nI G) = (A = G) := z_eq hA2 hG2
      refine s_isWall tz H O rfl hA ⟨fun h => fin2 _ _ (Or.inl ⟨Or.inl h, rfl⟩) frZ.rf, fun h1 => s_isWall tz H O rfl hG ⟨fun h => fin2 _ _ (Or.inl ⟨Or.inr (Or.inl h), rfl⟩) frZ.rf, fun h2 => ?_⟩⟩
      rw [eAG]
      refine ⟨fun h => fin2 _ _ (Or.inl ⟨Or.inr (Or.inr (Or.inl h)), rfl⟩) frZ.rf, fun hAG => ?_⟩
      refine s_isNext tz H O rfl rfl hA hG (fun hno => ⟨fun _ => ?_, fun g => (by cases g)⟩) (fun hyes => ⟨fun g => (by cases g), fun _ => ?_⟩)
      · have nab : ∀ w, w < 4 → fre r A w ≠ some G := fun w hw g => hno ⟨w, hw, (fre_iff.mp g).1⟩
        have notP : ¬ (wlC r A = true ∨ wlC r G = true ∨ A = G ∨ ∃ w, w < 4 ∧ fre r A w = some G) := by
          rintro (g | g | g | ⟨w, w1, w2⟩)
          · rw [h1] at g; cases g
          · rw [h2] at g; cases g
          · exact hAG g
          · exact nab w w1 w2
        have first : ∀ (s i : Nat) (mi2 : pm_I), i + s = 4096 → fC z mi' mi2 → (∀ j, j < i → mi2 (z + 28) j = 0) → c_X12_cordon_64 l (d + 6) kd mr z (nI A) (nI G) (nI i) mi2 ml1 fun r2 mi2 ml2 => v = r2 ∧ IV x z mi2 ml2 := by
          intro s
          induction s with
          | zero =>
            intro i mi2 hi f2 h0
            have : i = 4096 := by omega
            subst this
            have hl : lR mi2 z (fun _ _ => false) := fun u v hu hv => h0 _ (by omega)
            refine w_X12_cordon_64 tz ⟨fun _ => s_layRoads tz (by omega) hl fun mi3 f3 rd => ?_, fun g => absurd (nI_le (Nat.le_refl 4096) (by omega)) g⟩
            have f13 : fC z mi' mi3 := ⟨fun c g1 g2 => (f3 c (by omega) (by omega)).trans (f2.1 c g1 g2), fun c g => by rw [f3 z (by omega) (by omega)]; exact f2.2 c g⟩
            exact s_cordonL (mi := mi') (d := d + 1) tz O hA hG hAG h1 nab (fun mi4 n f4 hn => fin2 _ _ (Or.inr ⟨notP, n, rfl, hn⟩) f4.frZ) 4 0 mi3 (fun _ _ => false) (fun _ => false) rfl f13 (H.fC f13) (Flw.zero (by omega) hAG) (fun u v hu hv => by rw [f3 _ (by omega) (by omega)]; exact hl u v hu hv) rd
          | succ s ih =>
            intro i mi2 hi f2 h0
            refine w_X12_cordon_64 tz ⟨fun g => absurd g (nI_ge (b := 4096) (by omega) (by omega)), fun _ => ⟨z_in (by omega) (by omega), ?_⟩⟩
            rw [z_cl (a := i) (by omega), nI_1]
            refine ih (i + 1) _ (by omega) (f2.up (by omega)) fun j hj => ?_
            by_cases g : j = i
            · subst g; rw [pm_up_s]; decide
            · rw [pm_up_j _ _ g]; exact h0 j (by omega)
        exact first 4096 0 mi' rfl fC.rf fun j hj => by omega
      · obtain ⟨w, w1, w2⟩ := hyes
        exact fin2 _ _ (Or.inl ⟨Or.inr (Or.inr (Or.inr ⟨w, w1, fre_iff.mpr ⟨w2, h2⟩⟩)), rfl⟩) frZ.rf
    refine ⟨to, s_openX to C O fun op hop => s_spotOpt to C O fun A hA0 hA1 => s_spotOpt to C O fun G hG0 hG1 => s_fewestWalls (d := d + 1) (TX11s_a7 tx) O hop rfl rfl (fun f hf => (hA1 f hf).1) (fun f hf => (hG1 f hf).1) (fun hno => ref _ _ _ ?_ frX.rf) (fun f t n mi' ml' hf ht h1 h2 h3 h4 hn fs => ref _ _ _ ?_ fun c hc => fs c (by omega))⟩
    · cases A with
      | none => exact vK_no (hA0 rfl)
      | some f =>
        obtain ⟨f1, f2⟩ := hA1 f rfl
        refine vK_yes f1 (cl_m1 O f1).1 f2 ?_
        cases G with
        | none => exact vK_no (hG0 rfl)
        | some t =>
          obtain ⟨t1, t2⟩ := hG1 t rfl
          refine vK_yes t1 (cl_m1 O t1).1 t2 (Or.inl ⟨?_, rfl⟩)
          rcases hno with q | q | ⟨f', q1, q2⟩ | ⟨t', q1, q2⟩ | ⟨f', t', q1, q2, q3⟩
          · cases q
          · cases q
          · cases q1; exact Or.inl q2
          · cases q1; exact Or.inr (Or.inl q2)
          · cases q1; cases q2; exact Or.inr (Or.inr q3)
    · obtain ⟨f1, f2⟩ := hA1 f hf
      obtain ⟨t1, t2⟩ := hG1 t ht
      refine vK_yes f1 (cl_m1 O f1).1 f2 (vK_yes t1 (cl_m1 O t1).1 t2 (Or.inr ⟨?_, n, rfl, hn⟩))
      rintro (g | g | g | g)
      · rw [h1] at g; cases g
      · rw [h2] at g; cases g
      · exact h3 g
      · exact h4 g
end CRW
