/-! part and line, through and through -/
theorem z_m1lt {x : Int32} (h1 : ¬ x < -1) (h2 : ¬ x = -1) : ¬ x < 0 := by
  rw [Int32.lt_iff_toInt_lt] at h1 ⊢
  have e1 : (-1 : Int32).toInt = -1 := by decide
  have e0 : (0 : Int32).toInt = 0 := by decide
  have : x.toInt ≠ -1 := fun q => h2 (Int32.toInt_inj.mp (q.trans e1.symm))
  omega
theorem z_neg1 {n : Nat} (hn : n < 2147483648) : ¬ nI n < -1 := by
  rw [Int32.lt_iff_toInt_lt, z_toInt hn]
  have e1 : (-1 : Int32).toInt = -1 := by decide
  omega
theorem z_eq1 {n : Nat} (hn : n < 2147483648) : ¬ nI n = -1 := fun h => by
  have := z_m1 hn
  exact (this ▸ (h : nI n = -nI 1)).elim
def partF (r : Nat → Int32) (b : Int32) (right : Bool) : Int32 := if b = -1 then nI (fairC r) else if b < 0 ∨ gN r 0 < b.toNatClampNeg then -1 else if right = true then nI (gN r 4 - leftC r b.toNatClampNeg) else nI (leftC r b.toNatClampNeg)
theorem mx_Z (a b : Nat) (ha : a < 100) (hb : b < 100) : (if nI a ≤ nI b then nI b else nI a) = nI (mx a b) := by
  have q : (nI a ≤ nI b) = (a ≤ b) := z_le (by omega) (by omega)
  simp only [q]
  unfold mx
  split <;> split <;> first | rfl | (congr 1; omega)
theorem mx_X (a b : Nat) (ha : a < 100) (hb : b < 100) : (if nI a < nI b then nI b else nI a) = nI (mx a b) := by
  have q : (nI a < nI b) = (a < b) := z_lt (by omega) (by omega)
  simp only [q]
  unfold mx
  split <;> rfl
theorem mx_lt {a b n : Nat} (ha : a < n) (hb : b < n) : mx a b < n := by unfold mx; split <;> assumption
theorem b2i_nI (P : Prop) [Decidable P] (n : Nat) : nI n + b2i (decide P) = nI (n + if P then 1 else 0) := by
  by_cases h : P
  · rw [if_pos h, decide_eq_true h]; exact nI_1 n
  · rw [if_neg h, decide_eq_false h]
    show nI n + nI 0 = _
    rw [nI_add]
theorem lineC_le {r : Nat → Int32} (O : okC r) (n : Nat) : lineC r n < 7 := by
  have hq := O.2.2.2.2.2.1
  induction n with
  | zero => unfold lineC; omega
  | succ n ih =>
    unfold lineC
    refine mx_lt ih (mx_lt ?_ ?_) <;> exact Nat.lt_succ_of_le (Nat.le_trans (cnt_le _ _) hq)
theorem leftC_leq (r : Nat → Int32) (c : Nat) : leftC r c ≤ gN r 4 := cnt_le _ _
section PL
variable {l : Launch} {d x z o T k : Nat} {kd : pm_K} {mr : pm_R} {mi : pm_I} {ml : pm_L} {r : Nat → Int32} {m : Nat}
theorem s_longest {K : Int32 → pm_I → pm_L → Prop} (to : TX0s kd mr o) (C : CC mi ml o r) (O : okC r) (k9 : K (nI (lineC r 8)) mi ml) : wI l M_X0_longestLine (d + 1) [.ref o] kd mr mi ml K := by
  have hq := O.2.2.2.2.2.1
  have outer : ∀ (q n : Nat), n + q = 8 → c_X0_longestLine_4 l (d + 1) kd mr o (nI (lineC r n)) (nI n) mi ml K := by
    intro q
    induction q with
    | zero =>
      intro n hn
      have : n = 8 := by omega
      subst this
      exact w_X0_longestLine_4 to ⟨fun _ => k9, fun h => absurd (nI_le (Nat.le_refl 8) (by omega)) h⟩
    | succ q ih =>
      intro n hn
      refine w_X0_longestLine_4 to ⟨fun h => absurd h (nI_ge (b := 8) (by omega) (by omega)), fun _ => ?_⟩
      have inner : ∀ (u p : Nat), p + u = gN r 4 → c_X0_longestLine_18 l (d + 1) kd mr o (nI (lineC r n)) (nI n) (nI (cnt (fun p => decide (gN r (39 + p) = n)) p)) (nI (cnt (fun p => decide (gN r (33 + p) = n)) p)) (nI p) mi ml K := by
        intro u
        induction u with
        | zero =>
          intro p hp
          have : p = gN r 4 := by omega
          subst this
          refine w_X0_longestLine_18 to ⟨fun _ => ?_, fun h => absurd (by rw [C.nq O]; exact nI_le (Nat.le_refl _) (by omega)) h⟩
          have c1 := cnt_le (fun p => decide (gN r (39 + p) = n)) (gN r 4)
          have c2 := cnt_le (fun p => decide (gN r (33 + p) = n)) (gN r 4)
          have c3 := lineC_le O n
          rw [mx_X _ _ (by omega) (by omega), mx_X _ _ (by omega) (Nat.lt_trans (mx_lt (n := 7) (by omega) (by omega)) (by omega)), nI_1]
          exact ih (n + 1) (by omega)
        | succ u ihu =>
          intro p hp
          obtain ⟨e1, e2, e3⟩ := peX C O (show p < gN r 4 by omega)
          refine w_X0_longestLine_18 to ⟨fun h => absurd h (by rw [C.nq O]; exact nI_ge (by omega) (by omega)), fun _ => ⟨z_in (by omega) (by omega), z_in (by omega) (by omega), ?_⟩⟩
          have e5 : nI (8 * gN r (39 + p) + gN r (33 + p)) - nI (8 * gN r (39 + p) + gN r (33 + p)) / 8 * 8 = nI (gN r (33 + p)) := by
            have := z_rem (a := 8 * gN r (39 + p) + gN r (33 + p)) (b := 8) (by omega) (by omega)
            rw [show (8 * gN r (39 + p) + gN r (33 + p)) % 8 = gN r (33 + p) by omega] at this
            exact this
          have e6 : nI (8 * gN r (39 + p) + gN r (33 + p)) / 8 = nI (gN r (39 + p)) := by
            have := z_div (a := 8 * gN r (39 + p) + gN r (33 + p)) (b := 8) (by omega) (by omega)
            rw [show (8 * gN r (39 + p) + gN r (33 + p)) / 8 = gN r (39 + p) by omega] at this
            exact this
          rw [z_cl (by omega), e1, e5, e6, b2i_nI, b2i_nI, nI_1]
          have q1 : (nI (gN r (39 + p)) = nI n) = (gN r (39 + p) = n) := z_eq (by omega) (by omega)
          have q2 : (nI (gN r (33 + p)) = nI n) = (gN r (33 + p) = n) := z_eq (by omega) (by omega)
          have := ihu (p + 1) (by omega)
          unfold cnt at this
          simp only [decide_eq_true_eq] at this
          simp only [q1, q2]
          exact this
      exact inner (gN r 4) 0 (by omega)
  exact w_X0_longestLine to (outer 8 0 rfl)
theorem s_onLeft {c : Nat} {y : Int32} {K : Int32 → pm_I → pm_L → Prop} (tz : TX12s kd mr z) (H : Hd mi z k r) (O : okC r) (hy : y = nI c) (hc : c < 100) (k9 : K (nI (leftC r c)) mi ml) : wI l M_X12_onLeft (d + 2) [.ref z, .int y] kd mr mi ml K := by
  subst hy
  have hq := O.2.2.2.2.2.1
  have hb := O.w
  have e29 := H.2.2.2.2.2.1
  have e26 := H.2.2.1
  have loop : ∀ (q p : Nat), p + q = gN r 4 → c_X12_onLeft_4 l (d + 2) kd mr z (nI c) (nI (cnt (fun p => decide (gN r (33 + p) < c)) p)) (nI p) mi ml K := by
    intro q
    induction q with
    | zero =>
      intro p hp
      have : p = gN r 4 := by omega
      subst this
      exact w_X12_onLeft_4 tz ⟨fun _ => k9, fun h => absurd (by rw [e29]; exact nI_le (Nat.le_refl _) (by omega)) h⟩
    | succ q ih =>
      intro p hp
      obtain ⟨-, h1, h2, -⟩ := O.2.2.2.2.2.2.2.2.1 p (by omega)
      refine w_X12_onLeft_4 tz ⟨fun h => absurd h (by rw [e29]; exact nI_ge (by omega) (by omega)), fun _ => s_cellOf (a := 27) tz H O rfl rfl (by omega) (by omega) ?_⟩
      have hcl := (cellC_lt O (Or.inr ⟨rfl, (show p < gN r 4 by omega)⟩)).1
      have em : cellC r 27 p % gN r 0 = gN r (33 + p) := clC_mod h1
      rw [e26, z_rem (by omega) (by omega), em]
      refine ⟨nI_ne0 (by omega) (by omega), ?_⟩
      have q1 : (nI c ≤ nI (gN r (33 + p))) = (c ≤ gN r (33 + p)) := z_le (by omega) (by omega)
      have e7 : nI (cnt (fun p => decide (gN r (33 + p) < c)) p) + b2i (!decide (nI c ≤ nI (gN r (33 + p)))) = nI (cnt (fun p => decide (gN r (33 + p) < c)) (p + 1)) := by
        have : (!decide (nI c ≤ nI (gN r (33 + p)))) = decide (gN r (33 + p) < c) := by
          simp only [q1]
          by_cases h : c ≤ gN r (33 + p)
          · have : ¬ gN r (33 + p) < c := by omega
            simp [h, this]
          · have : gN r (33 + p) < c := by omega
            simp [h, this]
        rw [this, b2i_nI]
        show _ = nI (cnt _ p + if decide (gN r (33 + p) < c) = true then 1 else 0)
        simp only [decide_eq_true_eq]
      rw [e7, nI_1]
      exact ih (p + 1) (by omega)
  exact w_X12_onLeft tz (loop (gN r 4) 0 (by omega))
theorem s_unlike {c : Nat} {y : Int32} {K : Int32 → pm_I → pm_L → Prop} (tz : TX12s kd mr z) (H : Hd mi z k r) (O : okC r) (hy : y = nI c) (hc : c < 100) (k9 : K (nI (ab (gN r 4) (leftC r c))) mi ml) : wI l M_X12_unlike (d + 3) [.ref z, .int y] kd mr mi ml K := by
  have hq := O.2.2.2.2.2.1
  refine w_X12_unlike tz (s_onLeft tz H O hy hc ?_)
  have e29 := H.2.2.2.2.2.1
  have hl := leftC_le O c
  rw [e29]
  have := ab_Z (gN r 4) (by omega) (leftC r c) (by omega)
  have e' : (if 0 ≤ 2 * nI (leftC r c) - nI (gN r 4) then 2 * nI (leftC r c) - nI (gN r 4) else -(2 * nI (leftC r c) - nI (gN r 4))) = nI (ab (gN r 4) (leftC r c)) := this
  rw [e']; exact k9
theorem t_partX {t : Nat} {a b : Int32} {rt : Bool} {K : Int32 → pm_I → pm_L → Prop} (tx : TX11s kd mr x) (I : tC mi ml (x + 1) z t m) (k9 : ∀ v, vK a m (-1) (fun k v => v = partF (fun j => mi (z + 6) (106 * t + 53 * k + j)) b rt) v → K v mi ml) : wI l M_X11_part (d + 2) [.ref x, .int a, .int b, .int (b2i rt)] kd mr mi ml K := by
  refine w_X11_part tx (s_cityAt (TX11s_a0 tx) I (fun h => ⟨fun _ => k9 _ (vK_no h), fun b hb => by cases hb⟩) (fun k hk ha to => ⟨fun h => (by cases h), fun b4 hb4 => ?_⟩))
  cases hb4
  obtain ⟨O, C⟩ := I.2.2.2 k hk
  have hI := I.1
  have hw := O.w
  have hl := fun c => leftC_le O c
  have hq := O.2.2.2.2.2.1
  have go : ∀ v, v = partF (fun j => mi (z + 6) (106 * t + 53 * k + j)) b rt → K v mi ml := fun v hv => k9 _ (vK_yes hk (by omega) ha hv)
  generalize (fun j => mi (z + 6) (106 * t + 53 * k + j)) = r at *
  refine ⟨to, fun h1 => go _ ?_, fun h1 => ⟨fun h2 => ⟨fun h3 => ?_, fun h3 => s_fairest to C O (go _ (by unfold partF; rw [if_pos h3]))⟩, fun h2 => go _ ?_⟩⟩
  · have : ¬ b = -1 := fun q => by rw [q] at h1; exact absurd h1 (by decide)
    have h0 : b < 0 := by
      rw [Int32.lt_iff_toInt_lt] at h1 ⊢
      have e1 : (-1 : Int32).toInt = -1 := by decide
      have e0 : (0 : Int32).toInt = 0 := by decide
      omega
    unfold partF; rw [if_neg this, if_pos (Or.inl h0)]
  · have h0 := z_m1lt h1 h3
    obtain ⟨n, hn, rfl⟩ := (z_cases b).resolve_left h0
    rw [C.w O, z_le hn (by omega)] at h2
    refine s_peopleLeftOf to C O rfl (by omega) ?_
    have hpf : partF r (nI n) rt = if rt = true then nI (gN r 4 - leftC r n) else nI (leftC r n) := by
      unfold partF
      rw [if_neg h3, z_cl hn, if_neg (fun q => q.elim h0 (by omega))]
    refine go _ ?_
    rw [hpf, C.nq O, z_sub (leftC_leq r n)]
  · have h3 : ¬ b = -1 := fun q => h2 (by
      rw [q, C.w O, Int32.le_iff_toInt_le, z_toInt (by omega)]
      have e1 : (-1 : Int32).toInt = -1 := by decide
      omega)
    have h0 := z_m1lt h1 h3
    obtain ⟨n, hn, rfl⟩ := (z_cases b).resolve_left h0
    rw [C.w O, z_le hn (by omega)] at h2
    unfold partF
    rw [if_neg h3, z_cl hn, if_pos (Or.inr (by omega))]
theorem t_lineX {t : Nat} {a : Int32} {K : Int32 → pm_I → pm_L → Prop} (tx : TX11s kd mr x) (I : tC mi ml (x + 1) z t m) (k9 : ∀ v, vK a m (-1) (fun k v => v = nI (lineC (fun j => mi (z + 6) (106 * t + 53 * k + j)) 8)) v → K v mi ml) : wI l M_X11_line (d + 2) [.ref x, .int a] kd mr mi ml K := by
  refine w_X11_line tx (s_cityAt (TX11s_a0 tx) I (fun h => ⟨fun _ => k9 _ (vK_no h), fun b hb => by cases hb⟩) (fun k hk ha to => ⟨fun h => (by cases h), fun b4 hb4 => ?_⟩))
  cases hb4
  obtain ⟨O, C⟩ := I.2.2.2 k hk
  have hI := I.1
  exact ⟨to, s_longest to C O (k9 _ (vK_yes hk (by omega) ha rfl))⟩
theorem t_partZ {T : Nat} {a b : Int32} {rt : Bool} {K : Int32 → pm_I → pm_L → Prop} (tz : TX12s kd mr z) (I : tC mi ml T z 0 m) (k9 : ∀ v mi', vK a m (-1) (fun k v => v = partF (fun j => mi (z + 6) (106 * 0 + 53 * k + j)) b rt) v → frZ z mi mi' ml ml → K v mi' ml) : wI l M_X12_part (d + 4) [.ref z, .int a, .int b, .int (b2i rt)] kd mr mi ml K := by
  have f1 : frZ z mi (pm_up mi z 0 0) ml ml := frZ.upI (Or.inl rfl)
  refine w_X12_part tz (s_handZ tz I (pm_up_row mi _ (by omega)) (pm_up_row mi _ (by omega)) (fun h => ⟨fun _ => k9 _ _ (vK_no h) f1, fun h2 => (by cases h2)⟩) (fun k hk ha mi' g1 g2 H => ⟨fun h2 => (by cases h2), fun _ => ?_⟩))
  have f2 : frZ z mi mi' ml ml := f1.tr fun a ha => ⟨g1 a (by omega), rfl⟩
  obtain ⟨O, -⟩ := I.2.2.2 k hk
  have hI := I.1
  have hw := O.w
  have hl := fun c => leftC_le O c
  have hq := O.2.2.2.2.2.1
  have go : ∀ v, v = partF (fun j => mi (z + 6) (106 * 0 + 53 * k + j)) b rt → K v mi' ml := fun v hv => k9 _ _ (vK_yes hk (by omega) ha hv) f2
  generalize (fun j => mi (z + 6) (106 * 0 + 53 * k + j)) = r at *
  have e26 := H.2.2.1
  have e29 := H.2.2.2.2.2.1
  refine w_X12_in ?_
  refine ⟨fun h1 => ?_, fun h1 => go _ ?_⟩
  · rw [e26] at h1
    simp only [Bool.and_eq_true, Bool.not_eq_true', decide_eq_false_iff_not] at h1
    obtain ⟨h1, h2⟩ := h1
    refine ⟨fun h3 => ?_, fun h3 => ?_⟩
    · -- the fairest
      have go2 : K (nI (fairC r)) mi' ml := go _ (by unfold partF; rw [if_pos h3])
      have hab : ∀ L, L ≤ 6 → ab (gN r 4) L ≤ 20 := fun L hL => by unfold ab; omega
      have loop : ∀ (q c : Nat), c + q = gN r 0 → c_X12_part_61 l (d + 4) kd mr z (nI (amin (fun c => ab (gN r 4) (leftC r c)) c)) (nI (c + 1)) mi' ml K := by
        intro q
        induction q with
        | zero =>
          intro c hc
          have : c = gN r 0 := by omega
          subst this
          exact w_X12_part_61 tz ⟨fun _ => go2, fun h => absurd (by rw [e26]; exact nI_lt (by omega) (by omega)) h⟩
        | succ q ih =>
          intro c hc
          have ha1 := amin_le (fun c => ab (gN r 4) (leftC r c)) c
          refine w_X12_part_61 tz ⟨fun h => absurd h (by rw [e26]; exact nI_nlt (by omega) (by omega)), fun _ => s_unlike tz H O rfl (by omega) (s_unlike tz H O rfl (by omega) ?_)⟩
          have h5 := hab _ (hl (c + 1))
          have h6 := hab _ (hl (amin (fun c => ab (gN r 4) (leftC r c)) c))
          have e : (if nI (ab (gN r 4) (leftC r (amin (fun c => ab (gN r 4) (leftC r c)) c))) ≤ nI (ab (gN r 4) (leftC r (c + 1))) then nI (amin (fun c => ab (gN r 4) (leftC r c)) c) else nI (c + 1)) = nI (amin (fun c => ab (gN r 4) (leftC r c)) (c + 1)) := by
            have q1 : (nI (ab (gN r 4) (leftC r (amin (fun c => ab (gN r 4) (leftC r c)) c))) ≤ nI (ab (gN r 4) (leftC r (c + 1)))) = (ab (gN r 4) (leftC r (amin (fun c => ab (gN r 4) (leftC r c)) c)) ≤ ab (gN r 4) (leftC r (c + 1))) := z_le (by omega) (by omega)
            simp only [q1]
            show _ = nI (if _ then _ else _)
            by_cases h7 : ab (gN r 4) (leftC r (amin (fun c => ab (gN r 4) (leftC r c)) c)) ≤ ab (gN r 4) (leftC r (c + 1))
            · rw [if_pos h7, if_neg (Nat.not_lt.mpr h7)]
            · rw [if_neg h7, if_pos (Nat.not_le.mp h7)]
          rw [e, nI_1]
          exact ih (c + 1) (by omega)
      exact loop (gN r 0) 0 (by omega)
    · have h0 := z_m1lt h1 h3
      obtain ⟨n, hn, rfl⟩ := (z_cases b).resolve_left h0
      rw [z_lt (by omega) hn] at h2
      have hpf : partF r (nI n) rt = if rt = true then nI (gN r 4 - leftC r n) else nI (leftC r n) := by
        unfold partF
        rw [if_neg h3, z_cl hn, if_neg (fun q => q.elim h0 (by omega))]
      rw [hpf] at go
      refine ⟨fun hr => s_onLeft tz H O rfl (by omega) ?_, fun hr => s_onLeft tz H O rfl (by omega) ?_⟩
      · exact go _ (by rw [hr]; rfl)
      · refine go _ ?_
        rw [hr, if_pos rfl, e29, z_sub (leftC_leq r n)]
  · rw [e26] at h1
    have h3 : ¬ b = -1 := fun q => by
      rw [q] at h1
      have q2 : ¬ nI (gN r 0) < -1 := z_neg1 (by omega)
      simp [q2] at h1
    unfold partF
    rw [if_neg h3]
    by_cases h0 : b < 0
    · rw [if_pos (Or.inl h0)]
    · obtain ⟨n, hn, rfl⟩ := (z_cases b).resolve_left h0
      have q2 : ¬ nI n < -1 := z_neg1 hn
      have q3 : (nI (gN r 0) < nI n) = (gN r 0 < n) := z_lt (by omega) hn
      simp only [q2, q3, decide_false, Bool.not_false, Bool.true_and, Bool.not_eq_false', decide_eq_true_eq] at h1
      rw [z_cl hn, if_pos (Or.inr h1)]
theorem t_lineZ {T : Nat} {a : Int32} {K : Int32 → pm_I → pm_L → Prop} (tz : TX12s kd mr z) (I : tC mi ml T z 0 m) (k9 : ∀ v mi', vK a m (-1) (fun k v => v = nI (lineC (fun j => mi (z + 6) (106 * 0 + 53 * k + j)) 8)) v → frZ z mi mi' ml ml → K v mi' ml) : wI l M_X12_line (d + 4) [.ref z, .int a] kd mr mi ml K := by
  have f1 : frZ z mi (pm_up mi z 0 0) ml ml := frZ.upI (Or.inl rfl)
  refine w_X12_line tz (s_handZ tz I (pm_up_row mi _ (by omega)) (pm_up_row mi _ (by omega)) (fun h => ⟨fun h2 => (by cases h2), fun _ => k9 _ _ (vK_no h) f1⟩) (fun k hk ha mi' g1 g2 H => ⟨fun _ => ?_, fun h2 => (by cases h2)⟩))
  have f2 : frZ z mi mi' ml ml := f1.tr fun a ha => ⟨g1 a (by omega), rfl⟩
  obtain ⟨O, -⟩ := I.2.2.2 k hk
  have hI := I.1
  have hw := O.w
  have hq := O.2.2.2.2.2.1
  have go : ∀ v, v = nI (lineC (fun j => mi (z + 6) (106 * 0 + 53 * k + j)) 8) → K v mi' ml := fun v hv => k9 _ _ (vK_yes hk (by omega) ha hv) f2
  generalize (fun j => mi (z + 6) (106 * 0 + 53 * k + j)) = r at *
  have e26 := H.2.2.1
  have e29 := H.2.2.2.2.2.1
  have outer : ∀ (q n : Nat), n + q = 8 → c_X12_line_19 l (d + 4) kd mr z (nI (lineC r n)) (nI n) mi' ml K := by
    intro q
    induction q with
    | zero =>
      intro n hn
      have : n = 8 := by omega
      subst this
      exact w_X12_line_19 tz ⟨fun _ => go _ rfl, fun h => absurd (nI_le (Nat.le_refl 8) (by omega)) h⟩
    | succ q ih =>
      intro n hn
      refine w_X12_line_19 tz ⟨fun h => absurd h (nI_ge (b := 8) (by omega) (by omega)), fun _ => ?_⟩
      have inner : ∀ (u p : Nat), p + u = gN r 4 → c_X12_line_34 l (d + 4) kd mr z (nI (lineC r n)) (nI n) (nI (cnt (fun p => decide (gN r (33 + p) = n)) p)) (nI (cnt (fun p => decide (gN r (39 + p) = n)) p)) (nI p) mi' ml K := by
        intro u
        induction u with
        | zero =>
          intro p hp
          have : p = gN r 4 := by omega
          subst this
          have c1 := cnt_le (fun p => decide (gN r (39 + p) = n)) (gN r 4)
          have c2 := cnt_le (fun p => decide (gN r (33 + p) = n)) (gN r 4)
          have c3 := lineC_le O n
          refine w_X12_line_34 tz ⟨fun _ => w_X12_greater (w_X12_greater ?_), fun h => absurd (by rw [e29]; exact nI_le (Nat.le_refl _) (by omega)) h⟩
          rw [mx_Z _ _ (by omega) (by omega), mx_Z _ _ (by omega) (Nat.lt_trans (mx_lt (n := 7) (by omega) (by omega)) (by omega)), nI_1, mx_comm (cnt (fun p => decide (gN r (33 + p) = n)) (gN r 4))]
          exact ih (n + 1) (by omega)
        | succ u ihu =>
          intro p hp
          have hp4 : p < gN r 4 := by omega
          obtain ⟨-, h1, h2, -⟩ := O.2.2.2.2.2.2.2.2.1 p hp4
          have hcl := (cellC_lt O (Or.inr ⟨rfl, hp4⟩)).1
          have em : cellC r 27 p % gN r 0 = gN r (33 + p) := clC_mod h1
          have ev : cellC r 27 p / gN r 0 = gN r (39 + p) := clC_div h1
          refine w_X12_line_34 tz ⟨fun h => absurd h (by rw [e29]; exact nI_ge (by omega) (by omega)), fun _ => s_cellOf (a := 27) tz H O rfl rfl (by omega) (by omega) ⟨by rw [e26]; exact nI_ne0 (by omega) (by omega), s_cellOf (a := 27) tz H O rfl rfl (by omega) (by omega) ⟨by rw [e26]; exact nI_ne0 (by omega) (by omega), ?_⟩⟩⟩
          rw [e26, z_rem (by omega) (by omega), z_div (by omega) (by omega), em, ev, b2i_nI, b2i_nI, nI_1]
          have q1 : (nI (gN r (39 + p)) = nI n) = (gN r (39 + p) = n) := z_eq (by omega) (by omega)
          have q2 : (nI (gN r (33 + p)) = nI n) = (gN r (33 + p) = n) := z_eq (by omega) (by omega)
          have := ihu (p + 1) (by omega)
          unfold cnt at this
          simp only [decide_eq_true_eq] at this
          simp only [q1, q2]
          exact this
      exact inner (gN r 4) 0 (by omega)
  exact outer 8 0 rfl
end PL
