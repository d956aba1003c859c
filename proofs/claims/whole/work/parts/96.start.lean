/-! the start: what the Statement gives, and the law's walk -/
def gvL : List Cond := flatC (Jvm.Cond.and given_1 narrow_1)
def gzW (i : Nat) : Term := Term.string "CityChords$Reader" (pm_str i).1
def gzF (i : Nat) : Term := Term.field (gzW i) "java/lang/String" "value" "[B"
def gzP (i : Nat) : Nat := [68, 141, 168, 209, 243].getD i 0
theorem gz_1 : ∀ i, i < 5 → gvL[gzP i]? = some (Cond.exactly (gzW i) "java/lang/String") := by decide +kernel
theorem gz_2 : ∀ i, i < 5 → gvL[gzP i + 1]? = some (Cond.eq (.field (gzW i) "java/lang/String" "coder" "B") (.int 0)) := by decide +kernel
theorem gz_3 : ∀ i, i < 5 → gvL[gzP i + 2]? = some (Cond.arrayOf (gzF i) .byte) := by decide +kernel
theorem gz_4 : ∀ i, i < 5 → gvL[gzP i + 3]? = some (Cond.eq (.length (gzF i)) (.int (Int32.ofNat (pm_len.getD i 0)))) := by decide +kernel
theorem gz_5 : ∀ i, i < 5 → ∀ j, j < pm_len.getD i 0 → gvL[gzP i + 4 + j]? = some (Cond.eq (.elem (gzF i) (.int (Int32.ofNat j))) (.int ((pm_byt.getD i []).getD j 0))) := by decide +kernel
def gzN (i j : Nat) : Nat := ([[0, 167, 207, 240, 258], [0, 0, 208, 241, 259], [0, 0, 0, 242, 260], [0, 0, 0, 0, 261]].getD i []).getD j 0
theorem gz_6 : ∀ j, j < 5 → ∀ i, i < j → gvL[gzN i j]? = some (Cond.not (Cond.eq (gzW i) (gzW j))) := by decide +kernel
theorem gv_1 : gvL[4]? = some (Cond.eq (.static "java/lang/String" "COMPACT_STRINGS" "Z") (.int 1)) ∧ gvL[5]? = some (Cond.isRef (.static "jdk/internal/util/Preconditions" "SIOOBE_FORMATTER" "Ljava/util/function/BiFunction;")) ∧ gvL[10]? = some (Cond.arrayOf (.static "CityChords" "RANGES" "[I") .int) ∧ gvL[11]? = some (Cond.eq (.length (.static "CityChords" "RANGES" "[I")) (.int 4)) := by decide +kernel
theorem gv_2 : ∀ j, j < 4 → gvL[12 + j]? = some (Cond.eq (.elem (.static "CityChords" "RANGES" "[I") (.int (Int32.ofNat j))) (.int ([3, 4, 6, 9].getD j 0))) := by decide +kernel
theorem tl_1 {w : Cond} (i : Nat) (h0 : tables_1_1[i]? = some w) : w ∈ lw_tbl := List.mem_append_right _ (have h := List.mem_of_getElem? h0; List.mem_append_left _ h)
theorem tl_3 {w : Cond} (i : Nat) (h0 : tables_1_3[i]? = some w) : w ∈ lw_tbl := List.mem_append_right _ (have h := List.mem_of_getElem? h0; List.mem_append_right _ (List.mem_append_right _ (List.mem_append_left _ h)))
theorem tl_4 {w : Cond} (i : Nat) (h0 : tables_1_4[i]? = some w) : w ∈ lw_tbl := List.mem_append_right _ (have h := List.mem_of_getElem? h0; List.mem_append_right _ (List.mem_append_right _ (List.mem_append_right _ (List.mem_append_left _ h))))
def gzT (i : Nat) : Nat := [28, 105, 128, 141, 146].getD i 0
theorem gz_7 : ∀ i, i < 5 → tables_1_3[gzT i]? = some (Cond.stringRef "CityChords$Reader" (pm_str i).1 (pm_str i).2) := by decide +kernel
section START
variable {s : State} {args : Array Value}
/-- the classes -/
theorem gz_K (hts : ∀ w ∈ pm_tbl, w.before args s = true) (c0 : ClassId) : ∃ dC : Nat → ClassId, ∃ dI : Nat → Nat → Nat, ∀ (k : Nat) (q : vw_C), pm_cl[k]? = some q → u_Kn s q.1 q.2.1 q.2.2 (dC k) (dI k) := by
  have h0 : ∀ k : Nat, ∃ p : ClassId × (Nat → Nat), ∀ q : vw_C, pm_cl[k]? = some q → u_Kn s q.1 q.2.1 q.2.2 p.1 p.2 := by
    intro k
    match k with
    | 0 => obtain ⟨c, i, h⟩ := u_known hts ii_X0 (hts _ (tb_1 43 rfl rfl)); exact ⟨(c, i), fun q hq => by cases hq; exact h⟩
    | 1 => obtain ⟨c, i, h⟩ := u_known hts ii_X1 (hts _ (tb_2 17 rfl rfl)); exact ⟨(c, i), fun q hq => by cases hq; exact h⟩
    | 2 => obtain ⟨c, i, h⟩ := u_known hts ii_X2 (hts _ (tb_2 111 rfl rfl)); exact ⟨(c, i), fun q hq => by cases hq; exact h⟩
    | 3 => obtain ⟨c, i, h⟩ := u_known hts ii_X3 (hts _ (tb_2 47 rfl rfl)); exact ⟨(c, i), fun q hq => by cases hq; exact h⟩
    | 4 => obtain ⟨c, i, h⟩ := u_known hts ii_X4 (hts _ (tb_2 136 rfl rfl)); exact ⟨(c, i), fun q hq => by cases hq; exact h⟩
    | 5 => obtain ⟨c, i, h⟩ := u_known hts ii_X5 (hts _ (tb_1 194 rfl rfl)); exact ⟨(c, i), fun q hq => by cases hq; exact h⟩
    | 6 => obtain ⟨c, i, h⟩ := u_known hts ii_X6 (hts _ (tb_1 109 rfl rfl)); exact ⟨(c, i), fun q hq => by cases hq; exact h⟩
    | 7 => obtain ⟨c, i, h⟩ := u_known hts ii_X7 (hts _ (tb_2 6 rfl rfl)); exact ⟨(c, i), fun q hq => by cases hq; exact h⟩
    | 8 => obtain ⟨c, i, h⟩ := u_known hts ii_X8 (hts _ (tb_2 80 rfl rfl)); exact ⟨(c, i), fun q hq => by cases hq; exact h⟩
    | 9 => obtain ⟨c, i, h⟩ := u_known hts ii_X9 (hts _ (tb_1 32 rfl rfl)); exact ⟨(c, i), fun q hq => by cases hq; exact h⟩
    | 10 => obtain ⟨c, i, h⟩ := u_known hts ii_X10 (hts _ (tb_1 140 rfl rfl)); exact ⟨(c, i), fun q hq => by cases hq; exact h⟩
    | 11 => obtain ⟨c, i, h⟩ := u_known hts ii_X11 (hts _ (tb_1 24 rfl rfl)); exact ⟨(c, i), fun q hq => by cases hq; exact h⟩
    | 12 => obtain ⟨c, i, h⟩ := u_known hts ii_X12 (hts _ (tb_6 5 rfl rfl)); exact ⟨(c, i), fun q hq => by cases hq; exact h⟩
    | k + 13 => exact ⟨(c0, fun _ => 0), fun q hq => by simp [pm_cl] at hq⟩
  obtain ⟨f, hf⟩ := Classical.axiomOfChoice h0
  exact ⟨fun k => (f k).1, fun k => (f k).2, fun k q hq => hf k q hq⟩
/-- an array class out of its word -/
theorem gz_A1 {ty : FieldType} (h : (Cond.arrayClass ty).before args s = true) (hp : ∀ C, ty ≠ .object C) : ∃ cA : ClassId, ArrOfT s cA ty ∧ va_RA s cA ty := by
  obtain ⟨c, k, comp, h1, h2, h3⟩ := Cond.arrayClass_spec (args := args) (first := s) (o := none) (s := s) (idx := []) h
  refine ⟨c, fun n z => ⟨(fun k h => by cases h), k, h2, comp, h3⟩, ?_⟩
  cases ty <;> first | exact h1 | (exact absurd rfl (hp _))
theorem gz_A2 {C : String} (h : (Cond.arrayOver (.object C)).before args s = true) : ∃ cA : ClassId, ArrOfT s cA (.object C) ∧ va_RA s cA (.object C) := by
  obtain ⟨comp, c, k, h1, -, h3, h4, h5⟩ := Cond.arrayOver_spec (args := args) (first := s) (o := none) (s := s) (idx := []) h
  exact ⟨c, fun n z => ⟨(fun k h => by cases h), k, h3, comp, h4⟩, k, comp, h3, h4, h1, h5⟩
theorem gz_T (hts : ∀ w ∈ lw_tbl, w.before args s = true) (c0 : ClassId) : ∃ dA : Nat → ClassId, ∀ (k : Nat) (q : ClassId × FieldType), (pm_tys dA)[k]? = some q → ArrOfT s q.1 q.2 ∧ va_RA s q.1 q.2 := by
  have hp : ∀ w ∈ pm_tbl, w.before args s = true := fun w hw => hts w (pm_out hw)
  have h0 : ∀ k : Nat, ∃ cA : ClassId, (k = 1 → ArrOfT s cA .int ∧ va_RA s cA .int) ∧ (k = 2 → ArrOfT s cA .long ∧ va_RA s cA .long) ∧ (k = 3 → ArrOfT s cA .byte ∧ va_RA s cA .byte) ∧ (k = 4 → ArrOfT s cA .boolean ∧ va_RA s cA .boolean) ∧ (k = 5 → ArrOfT s cA (.object RX0) ∧ va_RA s cA (.object RX0)) ∧ (k = 6 → ArrOfT s cA (.object RX6) ∧ va_RA s cA (.object RX6)) ∧ (k = 7 → ArrOfT s cA (.object RX10) ∧ va_RA s cA (.object RX10)) ∧ (k = 8 → ArrOfT s cA (.object RX9) ∧ va_RA s cA (.object RX9)) := by
    intro k
    by_cases k1 : k = 1
    · obtain ⟨c, h⟩ := gz_A1 (ty := .int) (hp _ (tb_1 108 rfl rfl)) (fun C h => by cases h)
      exact ⟨c, fun _ => h, fun e => by omega, fun e => by omega, fun e => by omega, fun e => by omega, fun e => by omega, fun e => by omega, fun e => by omega⟩
    by_cases k2 : k = 2
    · obtain ⟨c, h⟩ := gz_A1 (ty := .long) (hp _ (tb_2 15 rfl rfl)) (fun C h => by cases h)
      exact ⟨c, fun e => by omega, fun _ => h, fun e => by omega, fun e => by omega, fun e => by omega, fun e => by omega, fun e => by omega, fun e => by omega⟩
    by_cases k3 : k = 3
    · obtain ⟨c, h⟩ := gz_A1 (ty := .byte) (hp _ (tb_1 107 rfl rfl)) (fun C h => by cases h)
      exact ⟨c, fun e => by omega, fun e => by omega, fun _ => h, fun e => by omega, fun e => by omega, fun e => by omega, fun e => by omega, fun e => by omega⟩
    by_cases k4 : k = 4
    · obtain ⟨c, h⟩ := gz_A1 (ty := .boolean) (hp _ (tb_2 4 rfl rfl)) (fun C h => by cases h)
      exact ⟨c, fun e => by omega, fun e => by omega, fun e => by omega, fun _ => h, fun e => by omega, fun e => by omega, fun e => by omega, fun e => by omega⟩
    by_cases k5 : k = 5
    · obtain ⟨c, h⟩ := gz_A2 (C := RX0) (hts _ (tl_1 38 rfl))
      exact ⟨c, fun e => by omega, fun e => by omega, fun e => by omega, fun e => by omega, fun _ => h, fun e => by omega, fun e => by omega, fun e => by omega⟩
    by_cases k6 : k = 6
    · obtain ⟨c, h⟩ := gz_A2 (C := RX6) (hts _ (tl_1 40 rfl))
      exact ⟨c, fun e => by omega, fun e => by omega, fun e => by omega, fun e => by omega, fun e => by omega, fun _ => h, fun e => by omega, fun e => by omega⟩
    by_cases k7 : k = 7
    · obtain ⟨c, h⟩ := gz_A2 (C := RX10) (hts _ (tl_1 42 rfl))
      exact ⟨c, fun e => by omega, fun e => by omega, fun e => by omega, fun e => by omega, fun e => by omega, fun e => by omega, fun _ => h, fun e => by omega⟩
    by_cases k8 : k = 8
    · obtain ⟨c, h⟩ := gz_A2 (C := RX9) (hts _ (tl_1 192 rfl))
      exact ⟨c, fun e => by omega, fun e => by omega, fun e => by omega, fun e => by omega, fun e => by omega, fun e => by omega, fun e => by omega, fun _ => h⟩
    exact ⟨c0, fun e => by omega, fun e => by omega, fun e => by omega, fun e => by omega, fun e => by omega, fun e => by omega, fun e => by omega, fun e => by omega⟩
  obtain ⟨f, hf⟩ := Classical.axiomOfChoice h0
  refine ⟨f, fun k q hq => ?_⟩
  match k, hq with
  | 0, hq => cases hq; exact (hf 1).1 rfl
  | 1, hq => cases hq; exact (hf 2).2.1 rfl
  | 2, hq => cases hq; exact (hf 3).2.2.1 rfl
  | 3, hq => cases hq; exact (hf 4).2.2.2.1 rfl
  | 4, hq => cases hq; exact (hf 5).2.2.2.2.1 rfl
  | 5, hq => cases hq; exact (hf 6).2.2.2.2.2.1 rfl
  | 6, hq => cases hq; exact (hf 7).2.2.2.2.2.2.1 rfl
  | 7, hq => cases hq; exact (hf 8).2.2.2.2.2.2.2 rfl
  | k + 8, hq => simp [pm_tys] at hq
/-- what lies outside of all worlds -/
theorem gz_E {b : Nat} {A : Nat → Prop} (hts : ∀ w ∈ lw_tbl, w.before args s = true) (hgv : (Jvm.Cond.and given_1 narrow_1).before args s = true) (hA : ∀ a : Nat, a < s.heap.size → ¬ A a) : ∃ sx : Nat → Nat, sx 8 = b ∧ pm_E sx A s s.heap := by
  have hg : ∀ w ∈ gvL, w.before args s = true := flat_of_before _ hgv
  have gi : ∀ (i : Nat) (w : Cond), gvL[i]? = some w → w.before args s = true := fun i w h => hg w (List.mem_of_getElem? h)
  have hp : ∀ w ∈ pm_tbl, w.before args s = true := fun w hw => hts w (pm_out hw)
  obtain ⟨g4, g5, g10, g11⟩ := gv_1
  -- RANGES
  obtain ⟨t, ht, hT⟩ := va_Tof (args := args) (s := s) (tm := .static "CityChords" "RANGES" "[I") (ty := .int) (N := 4) (f := pm_rng) (A := A) (by decide) (gi _ _ g10) (va_eqt (gi _ _ g11)) (fun j hj => va_eqt (gi _ _ (gv_2 j hj))) hA
  -- the texts
  obtain ⟨adK, adV, hS, hev⟩ := vk_Sof (args := args) (s := s) (N := 5) (tm := gzW) (len := pm_len) (byt := pm_byt) (A := A) (by decide +kernel) (fun i hi => gi _ _ (gz_1 i hi)) (fun i hi => gi _ _ (gz_2 i hi)) (fun i hi => gi _ _ (gz_3 i hi)) (fun i hi => gi _ _ (gz_4 i hi)) (fun i hi j hj => gi _ _ (gz_5 i hi j hj)) (fun i j hi hj hne => by
    rcases Nat.lt_or_gt_of_ne hne with h | h
    · exact Or.inl (gi _ _ (gz_6 j hj i h))
    · exact Or.inr (gi _ _ (gz_6 i hi j h))) hA
  have hZf : va_Zq "jdk/internal/util/Preconditions" "SIOOBE_FORMATTER" "Ljava/util/function/BiFunction;" A s s.heap := va_Zqof (args := args) (hts _ (tl_3 62 rfl)) (hp _ (tb_1 19 rfl rfl)) (gi _ _ g5) hA
  have mk : ∀ t20 : Nat, (va_Z "jdk/internal/util/Preconditions" "SIOOBE_FORMATTER" "Ljava/util/function/BiFunction;" .null A s s.heap ∨ va_Z "jdk/internal/util/Preconditions" "SIOOBE_FORMATTER" "Ljava/util/function/BiFunction;" (.ref t20) A s s.heap) → ∃ sx : Nat → Nat, sx 8 = b ∧ pm_E sx A s s.heap := by
    intro t20 hf
    refine ⟨fun k => if k < 5 then adK k else if k = 8 then b else if k = 9 then t else if k < 15 then adV (k - 10) else t20, rfl, va_Zref (args := args) (hts _ (tl_4 65 rfl)) (hp _ (tb_1 1 rfl rfl)) ht hA, hT, va_Zof (args := args) (hts _ (tl_3 46 rfl)) (hp _ (tb_1 17 rfl rfl)) (va_eqi (gi _ _ g4)) hA, ⟨fun i hi => ?_, fun i j hi hj e => ?_⟩, fun i hi => ?_, ⟨fun C hC => ?_, hf⟩, fun w hw => ?_⟩
    · have e1 : (fun k => if k < 5 then adK k else if k = 8 then b else if k = 9 then t else if k < 15 then adV (k - 10) else t20) i = adK i := if_pos hi
      have e2 : (fun i => (fun k => if k < 5 then adK k else if k = 8 then b else if k = 9 then t else if k < 15 then adV (k - 10) else t20) (10 + i)) i = adV i := by
        show (if 10 + i < 5 then adK (10 + i) else if 10 + i = 8 then b else if 10 + i = 9 then t else if 10 + i < 15 then adV (10 + i - 10) else t20) = adV i
        rw [if_neg (by omega), if_neg (by omega), if_neg (by omega), if_pos (by omega), show 10 + i - 10 = i by omega]
      rw [e1, e2]
      exact hS.1 i hi
    · have e : (if i < 5 then adK i else if i = 8 then b else if i = 9 then t else if i < 15 then adV (i - 10) else t20) = (if j < 5 then adK j else if j = 8 then b else if j = 9 then t else if j < 15 then adV (j - 10) else t20) := e
      rw [if_pos hi, if_pos hj] at e
      exact hS.2 i j hi hj e
    · have e1 : (fun k => if k < 5 then adK k else if k = 8 then b else if k = 9 then t else if k < 15 then adV (k - 10) else t20) i = adK i := if_pos hi
      rw [e1]
      exact vk_R.of (hts _ (tl_3 _ (gz_7 i hi))) (hev i hi)
    · have : C = RX0 ∨ C = RX6 ∨ C = RX10 ∨ C = RX9 := by simpa using hC
      rcases this with rfl | rfl | rfl | rfl
      · exact va_AO.of (hts _ (tl_1 38 rfl))
      · exact va_AO.of (hts _ (tl_1 40 rfl))
      · exact va_AO.of (hts _ (tl_1 42 rfl))
      · exact va_AO.of (hts _ (tl_1 192 rfl))
    · have h1 := hts w (List.mem_filter.mp hw).1
      have h2 := (List.mem_filter.mp hw).2
      cases w <;> first | (simp [pm_isN] at h2; done) | exact va_tabs rfl rfl h1
  rcases hZf with h | ⟨t20, h⟩
  · exact mk 0 (Or.inl h)
  · exact mk t20 (Or.inr h)
end START
/-- the law from its entry -/
theorem law_all (l : Launch) {N : Nat} (scr : Nat → Int32) (hN : N ≤ 3072) : wq l N scr 0 [some (.retAddr 8), none, none, none] [] 0 0 [] m0F l0F r0F := by
  obtain ⟨n0, n1, n2, n3⟩ := kF_len
  refine wq_new (pc := 0) (ci := 11) (C := RX11) (T := TX11) (mi' := m0F) (ml' := l0F) (mr' := r0F) dL_law_0 rfl ii_X11 tyX11_ok ⟨tb_1 23 rfl rfl, tb_1 24 rfl rfl, tb_1 1 rfl rfl⟩ (Nat.le_of_ble_eq_true rfl) (Nat.le_of_ble_eq_true rfl) (fun ad => fs_0 ad ⟨rfl, rfl, rfl⟩ (by decide)) (fun _ _ => rfl) (fun _ _ => rfl) (fun _ _ => rfl) (fun _ _ => rfl) (fun _ _ => rfl) ?_
  show wq l N scr 3 [some (.retAddr 8), none, none, none] [.ref 0] 1 11 k0F m0F l0F r0F
  refine wq_dup (pc := 3) dL_law_3 rfl ?_
  refine wq_callI (pc := 4) (As := []) (b := 0) (rest := [.ref 0]) (d' := 4) (mc' := 234) (ms' := 25482) dL_law_4 ml_L_9 in_X11_init rfl rfl (Nat.le_of_ble_eq_true rfl) (Nat.le_of_ble_eq_true rfl) (by decide) ⟨Nat.le_of_ble_eq_true rfl, Nat.le_of_ble_eq_true rfl⟩ (n_X11 (d := 0) (h := 0) (n := 1) rfl n0 (by decide) (zz_0.mono (Nat.zero_le 1))) (fun r kd' mi' ml' mr' q _ => ?_)
  obtain ⟨rfl, rfl, rfl, rfl, rfl⟩ := q
  show wq l N scr 7 [some (.retAddr 8), none, none, none] [.ref 0] 235 25493 k1F m1F l0F r1F
  refine wq_astore_n (pc := 7) dL_law_7 (by show 1 < 4; decide) rfl ?_
  show wq l N scr 8 [some (.retAddr 8), some (.ref 0), none, none] [] 235 25493 k1F m1F l0F r1F
  refine wq_new (pc := 8) (ci := 12) (C := RX12) (T := TX12) (mi' := m1F) (ml' := l0F) (mr' := r1F) dL_law_8 rfl ii_X12 tyX12_ok ⟨tb_6 4 rfl rfl, tb_6 5 rfl rfl, tb_1 15 rfl rfl⟩ (Nat.le_of_ble_eq_true rfl) (Nat.le_of_ble_eq_true rfl) (fun ad => fs_0 ad (zz_1 _ (Nat.le_of_eq n1.symm)) (by decide)) (fun _ _ => rfl) (fun _ _ => rfl) (fun _ _ => rfl) (fun k e => e ▸ (zz_1 _ (Nat.le_of_eq n1.symm)).2.2) (fun _ _ => rfl) ?_
  rw [n1]
  show wq l N scr 11 [some (.retAddr 8), some (.ref 0), none, none] [.ref 235] 236 25554 k2F m1F l0F r1F
  refine wq_dup (pc := 11) dL_law_11 rfl ?_
  have hh : k2F[235]? = some (0, 12) := by decide +kernel
  refine wq_callI (pc := 12) (As := []) (b := 235) (rest := [.ref 235]) (d' := 1) (mc' := 31) (ms' := 58837) dL_law_12 ml_L_12 in_X12_init rfl rfl (Nat.le_of_ble_eq_true rfl) (Nat.le_of_ble_eq_true rfl) (by decide) ⟨Nat.le_of_ble_eq_true rfl, Nat.le_of_ble_eq_true rfl⟩ (n_X12 (d := 0) (h := 235) (n := 236) hh n2 (by decide) (zz_1.mono (by decide))) (fun r kd' mi' ml' mr' q _ => ?_)
  obtain ⟨rfl, rfl, rfl, rfl, rfl⟩ := q
  show wq l N scr 15 [some (.retAddr 8), some (.ref 0), none, none] [.ref 235] 267 84391 kdF miF l0F mrF
  refine wq_astore_n (pc := 15) dL_law_15 (by show 2 < 4; decide) rfl ?_
  show wq l N scr 16 [some (.retAddr 8), some (.ref 0), some (.ref 235), none] [] 267 84391 kdF miF l0F mrF
  refine wq_iconst (v := 0) (pc := 16) dL_law_16 (by decide) ?_
  refine wq_istore_n (pc := 17) dL_law_17 (by show 3 < 4; decide) rfl ?_
  show c_L_law_18 l N scr 267 84391 kdF mrF 0 235 (nI 0) miF l0F
  exact law_loop tx_F tz_F (fun a b mi ml I => c_text (d := 3) tx_F tz_F I) (fun a b c mi ml I => c_cordon (d := 7) tx_F tz_F I) hN ⟨Nat.le_of_ble_eq_true rfl, Nat.le_of_ble_eq_true rfl⟩ (N + 1) 0 miF l0F (by omega) (by omega) iv_F
theorem whole_start {p : Program} {e : Env} {s : State} {m : MethodId} {below : List Frame} {meth : Method} {c : Code} (l : Launch) (hflags : l.flags = flags0) {b L : Nat} {xs : Nat → Int32} (hL : L ≤ 3072) (C0 : lw_At p s m meth c b L xs) : W p l e room_1 s m #[Value.ref b] below meth c s.heap [] 0 0 (lw_Z below #[Value.ref b] s) (entryFrame m ([Value.ref b] : List Value).toArray 4) := by
  obtain ⟨hx, hb, hr, hml, hown, hts, hX, hbl, hlocks, hgv⟩ := id C0
  have hA : ∀ a : Nat, a < s.heap.size → ¬ (fun q : Nat => s.heap.size ≤ q) a := fun a ha => Nat.not_le.mpr ha
  have hp : ∀ w ∈ pm_tbl, w.before #[Value.ref b] s = true := fun w hw => hts w (pm_out hw)
  obtain ⟨dC, dI, hK1⟩ := gz_K hp m.cls
  obtain ⟨dA, hK2⟩ := gz_T hts m.cls
  obtain ⟨sx, h8, hE⟩ := gz_E (b := b) (A := fun q : Nat => s.heap.size ≤ q) hts hgv hA
  have hl := lv_entry ([.ref b]) (n := 4) (Nat.le_of_ble_eq_true rfl)
  rw [lg_entry_eq]
  generalize (lg_sl ([.ref b]) ++ List.replicate (4 - (lg_sl ([.ref b])).length) Slot.unset).toArray = ls at hl ⊢
  have hl : lv_has ls 4 [(0, .ref b)] := hl
  have LV : pm_LV (fun _ => 0) sx 0 ls [some (.retAddr 8), none, none, none] := by
    refine ⟨hl.1, hl.2.1, fun i v hi => ?_⟩
    match i, hi with
    | 0, hi =>
      cases hi
      refine ⟨trivial, ?_⟩
      have := hl.2.2 (0, .ref b) List.mem_cons_self
      show ls[0]? = some (.val (.ref (sx 8)))
      rw [h8]; exact this
    | 1, hi => cases hi
    | 2, hi => cases hi
    | 3, hi => cases hi
    | i + 4, hi => simp at hi
  have C : lw_C M_L p s m #[Value.ref b] meth c (dC, dI) dA sx (fun q : Nat => s.heap.size ≤ q) := ⟨hx, hb, hml, hr, hlocks, hown, hp, ⟨hK1, hK2⟩, trivial, fun q hq => hq, hE⟩
  have WR : pm_WR (dC, dI) dA (fun _ => 0) (fun q : Nat => s.heap.size ≤ q) [] m0F l0F r0F s.heap := ⟨fun k q h => by simp [pm_wl] at h, ⟨fun i j p q h => by simp [pm_wl] at h, fun k q h => by simp [pm_wl] at h⟩, fun k j a h => (by cases h), fun k n h => by simp at h⟩
  have X0 : lw_X L xs sx (fun q : Nat => s.heap.size ≤ q) #[Value.ref b] s := by
    refine ⟨by rw [h8], rfl, by rw [h8]; exact hX, by rw [h8]; exact hbl, fun v hv => ?_⟩
    rw [h8]
    simpa using hv
  exact law_all l xs hL p e s m #[Value.ref b] below meth c s.heap [] (dC, dI) dA (fun _ => 0) sx (fun q : Nat => s.heap.size ≤ q) ls 0 (fun _ => 0) C rfl LV (fun v hv => by cases hv) WR va_S.rf (fun _ _ => rfl) (Nat.le_refl 0) X0
