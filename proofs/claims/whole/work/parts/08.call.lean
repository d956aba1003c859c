/-! calls -/
/-- the locals at a method's entry -/
def pm_en : Nat → List Value → List (Option Value)
  | n, [] => List.replicate n none
  | n, v :: vs => if v.category = 2 then some v :: none :: pm_en (n - 2) vs else some v :: pm_en (n - 1) vs
def pm_wd (vs : List Value) : Nat := (vs.map fun v => v.category).sum
def wpc (l : Launch) (M : pm_M) (d mc ms : Nat) (As : List Value) (kd : pm_K) (mi : pm_I) (ml : pm_L) (mr : pm_R) (Q : pm_Q) : Prop :=
  wp l M d mc ms 0 (pm_en M.2.2.1 As) [] 0 0 kd mi ml mr Q
theorem pm_en_len : ∀ (vs : List Value) (n : Nat), pm_wd vs ≤ n → (pm_en n vs).length = n := by
  intro vs
  induction vs with
  | nil => intro n _; simp [pm_en]
  | cons v vs ih =>
    intro n h
    rcases lv_cat v with hc | hc
    · have h2 : pm_wd vs + 1 ≤ n := by simp only [pm_wd, List.map_cons, List.sum_cons, hc] at h ⊢; omega
      simp [pm_en, hc, ih (n - 1) (by omega)]; omega
    · have h2 : pm_wd vs + 2 ≤ n := by simp only [pm_wd, List.map_cons, List.sum_cons, hc] at h ⊢; omega
      simp [pm_en, hc, ih (n - 2) (by omega)]; omega
theorem pm_en_at (ad sx : Nat → Nat) : ∀ (vs : List Value) (n k i : Nat) (v : Value), (pm_en n vs)[i]? = some (some v) → v ∈ vs ∧ (k + i, pm_cv ad sx v) ∈ lv_args k (vs.map (pm_cv ad sx)) := by
  intro vs
  induction vs with
  | nil => intro n k i v h; simp [pm_en, List.getElem?_replicate] at h
  | cons w vs ih =>
    intro n k i v h
    rcases lv_cat w with hc | hc
    · simp only [pm_en, hc] at h
      rw [if_neg (by decide)] at h
      cases i with
      | zero => cases h; exact ⟨List.mem_cons_self, by simp [lv_args]⟩
      | succ i =>
        obtain ⟨h1, h2⟩ := ih (n - 1) (k + 1) i v h
        refine ⟨List.mem_cons_of_mem _ h1, ?_⟩
        simp only [List.map_cons, lv_args, pm_cv_cat, hc]
        exact List.mem_cons_of_mem _ (by rw [show k + (i + 1) = k + 1 + i by omega]; exact h2)
    · simp only [pm_en, hc] at h
      rw [if_pos trivial] at h
      cases i with
      | zero => cases h; exact ⟨List.mem_cons_self, by simp [lv_args]⟩
      | succ i =>
        cases i with
        | zero => cases h
        | succ i =>
          obtain ⟨h1, h2⟩ := ih (n - 2) (k + 2) i v h
          refine ⟨List.mem_cons_of_mem _ h1, ?_⟩
          simp only [List.map_cons, lv_args, pm_cv_cat, hc]
          exact List.mem_cons_of_mem _ (by rw [show k + (i + 1 + 1) = k + 2 + i by omega]; exact h2)
/-- the contract at one world -/
def pm_pre (D : va_G) (dA : Nat → ClassId) (ad sx : Nat → Nat) (kd : pm_K) (mi : pm_I) (ml : pm_L) (mr : pm_R) (sz : Nat) : State → Prop := fun U =>
  U.heap.size = sz ∧ va_P D pm_cl (pm_wl ad dA kd mi ml mr) U.heap ∧ va_K D pm_cl (pm_tys dA) U ∧ va_D (fun _ => True) (pm_wl ad dA kd mi ml mr) ∧ pm_E sx (va_A (pm_wl ad dA kd mi ml mr) sz) U U.heap
def pm_okM (M : pm_M) : Prop := plainName M.1.cls = true ∧ Cond.code M.1 M.2.1 M.2.2.1 M.2.2.2 ∈ pm_tbl ∧ Cond.initialized M.1.cls ∈ pm_tbl ∧ (M.1.cls ≠ "java/lang/invoke/MethodHandle" ∧ M.1.cls ≠ "java/lang/invoke/VarHandle") ∧ M.2.2.1 ≤ 19
theorem pm_met {l : Launch} {M : pm_M} {d mc ms : Nat} {As : List Value} {kd : pm_K} {mi : pm_I} {ml : pm_L} {mr : pm_R} {Q : pm_Q} {D : va_G} {dA : Nat → ClassId} {ad sx : Nat → Nat} {sz : Nat} (hM : pm_okM M) (hw : pm_wd As ≤ M.2.2.1) (hvs : ∀ v ∈ As, pm_vok kd.length v) (hr : ∀ k j a, mr k j = some a → a < kd.length) (hb : pm_bok kd mi) (h : wpc l M d mc ms As kd mi ml mr Q) :
    Met l M.1 (pm_ws M) (pm_room d mc ms) (va_Pc (As.map (pm_cv ad sx)) (pm_pre D dA ad sx kd mi ml mr sz)) (pm_Qc D dA sx (va_A (pm_wl ad dA kd mi ml mr) sz) Q kd.length ad) mc ms (va_A (pm_wl ad dA kd mi ml mr) sz) := by
  refine Met.ofW (cc := M.2.1) (maxL := M.2.2.1) (ret := M.2.2.2) hM.1 rfl ?_
  intro p e s m args below meth c s₁ B hml hv
  obtain ⟨rfl, hsz, hP, hK, hD0, hE⟩ := hv
  have hts := atoms_spec (ws := pm_ws M) B.pre
  subst hsz
  have hl := lv_entry (As.map (pm_cv ad sx)) (n := M.2.2.1) (by
    have e : (lg_sl (As.map (pm_cv ad sx))).length = pm_wd As := by
      clear h hvs hw hP hK hD0 hE hts B
      induction As with
      | nil => rfl
      | cons v vs ih =>
        have ih' : (List.flatMap (fun v => if v.category = 2 then [Slot.val v, .second] else [.val v]) (List.map (pm_cv ad sx) vs)).length = pm_wd vs := ih
        rcases lv_cat v with hc | hc
        · simp only [List.map_cons, lg_sl, List.flatMap_cons, List.length_append, pm_cv_cat, hc, pm_wd, List.sum_cons]
          rw [ih']; simp [pm_wd]
        · simp only [List.map_cons, lg_sl, List.flatMap_cons, List.length_append, pm_cv_cat, hc, pm_wd, List.sum_cons]
          rw [ih']; simp [pm_wd]
    rw [e]; exact hw)
  rw [lg_entry_eq]
  generalize (lg_sl (As.map (pm_cv ad sx)) ++ List.replicate (M.2.2.1 - (lg_sl (As.map (pm_cv ad sx))).length) Slot.unset).toArray = ls at hl ⊢
  refine h p e s m _ below meth c s.heap [] D dA ad sx (va_A (pm_wl ad dA kd mi ml mr) s.heap.size) ls kd.length ad ⟨B.exec, B.bytes, hml, B.returns, B.notSynchronized, findClass_of_methodNamed B.named, fun w hw => hts w (List.mem_cons_of_mem _ hw), hK, (name_of_methodNamed B.named B.method).1, fun q hq => Or.inr hq, hE⟩ (pm_en_len _ _ hw) ?_ (fun v hv => by cases hv) ⟨hP, hD0.self, hr, hb⟩ va_S.rf (fun _ _ => rfl) (Nat.le_refl _)
  refine ⟨hl.1.trans (pm_en_len _ _ hw).symm, hl.2.1, fun i v hi => ?_⟩
  obtain ⟨h1, h2⟩ := pm_en_at ad sx As M.2.2.1 0 i v hi
  refine ⟨hvs v h1, ?_⟩
  have := hl.2.2 _ h2
  simpa using this
theorem pm_blind {As : List Value} {D : va_G} {dA : Nat → ClassId} {ad sx : Nat → Nat} {kd : pm_K} {mi : pm_I} {ml : pm_L} {mr : pm_R} {sz : Nat} : FrameBlind (va_Pc As (pm_pre D dA ad sx kd mi ml mr sz)) := by
  intro a U g mk q
  obtain ⟨q0, q1, qP, qK, qD, qE⟩ := q
  exact ⟨q0, q1, qP, va_K.moved (u := U) (U := U.calling g mk a) (Vm.Alike.refl U.vm) qK, qD, pm_E.same (u := U) rfl qE⟩
