/-! rules: fields and arrays -/
/-- a place of the pool that names a field: of class ci, at place j -/
def pm_fl (own : String) (idx ci j : Nat) : Prop := ∃ (C : String) (T : u_T), pm_cl[ci]? = some (C, T, pm_N ci) ∧ j < pm_N ci ∧ (∀ w ∈ u_ws C T (pm_N ci), w ∈ pm_tbl) ∧
  (∀ a, a < pm_N ci → ∀ b, b < pm_N ci → a ≠ b → (T a).2.1 ≠ (T b).2.1) ∧ (∀ k, k < pm_N ci → parseFieldDescriptor (T k).2.2.1 = some (pm_ty ci k)) ∧
  (Cond.fieldLink own idx (T j).1 (T j).2.1 (T j).2.2.1 ∈ pm_tbl ∨ ∃ host, Cond.fieldLinkNest own idx (T j).1 (T j).2.1 (T j).2.2.1 host ∈ pm_tbn)
def pm_fin (ci j : Nat) : Bool := match pm_cl[ci]? with
  | some q => (q.2.1 j).2.2.2
  | none => true
theorem pm_fs_at {ad : Nat → Nat} {mi : pm_I} {ml : pm_L} {mr : pm_R} {h ci j : Nat} (hj : j < pm_N ci) : (pm_fs ad mi ml mr h ci)[j]? = some (pm_fv ad mi ml mr h (pm_kt (pm_ty ci j)) j) := by
  simp [pm_fs, hj]
theorem pm_fs_len {ad : Nat → Nat} {mi : pm_I} {ml : pm_L} {mr : pm_R} {h ci : Nat} : (pm_fs ad mi ml mr h ci).length = pm_N ci := by simp [pm_fs]
theorem pm_ce0 {ad : Nat → Nat} {dA : Nat → ClassId} {ci : Nat} {mi : pm_I} {ml : pm_L} {mr : pm_R} {k : Nat} : pm_ce ad dA (0, ci) mi ml mr k = .inr (ci, pm_fs ad mi ml mr k ci) := rfl
section PMM
variable {l : Launch} {M : pm_M} {d mc ms pc : Nat} {L : List (Option Value)} {S : List Value} {cs ss : Nat} {kd : pm_K} {mi : pm_I} {ml : pm_L} {mr : pm_R} {Q : pm_Q}
theorem wp_get {i ci j h : Nat} {v : Value} (hd : decode M.2.1 pc = .ok (.getfield i, 3)) (hf : pm_fl M.1.cls i ci j) (hk : kd[h]? = some (0, ci)) (hv : (∀ n, (∀ k j a, mr k j = some a → a < n) → pm_vok n v) ∧ ∀ ad sx, pm_fv ad mi ml mr h (pm_kt (pm_ty ci j)) j = pm_cv ad sx v) (k9 : wp l M d mc ms (pc + 3) L (v :: S) cs ss kd mi ml mr Q) : wp l M d mc ms pc L (.ref h :: S) cs ss kd mi ml mr Q := by
  intro p e s m args below meth c H locs D dA ad sx A ls n0 ad0 C hn hL hS hW hF h1 h2
  obtain ⟨Cn, T, e1, e2, e3, e4, e5, e6⟩ := hf
  have K := k9 p e s m args below meth c H locs D dA ad sx A ls n0 ad0 C hn hL (pm_sc (hv.1 _ hW.2.2.1) (pm_st hS)) hW hF h1 h2
  have e9 : (pm_fs ad mi ml mr h ci)[j]? = some (pm_cv ad sx v) := by rw [pm_fs_at e2, hv.2 ad sx]
  rcases e6 with e6 | ⟨host, e6⟩
  · exact va_get C.1 C.2.1 C.2.2.2.2.2.2.1 e3 C.2.2.2.2.2.1 C.2.2.2.2.2.2.2.1 hW.1 h (pm_wl_at hk) e1 j e2 (C.2.2.2.2.2.2.1 _ e6) (fun _ z => z) e9 hd K
  · exact va_getN C.1 C.2.1 C.2.2.2.2.2.2.1 e3 C.2.2.2.2.2.1 C.2.2.2.2.2.2.2.1 hW.1 h (pm_wl_at hk) e1 j e2 (C.N e6) (fun _ z => z) e9 hd K
theorem wp_getI {i ci j h : Nat} (hd : decode M.2.1 pc = .ok (.getfield i, 3)) (hf : pm_fl M.1.cls i ci j) (ht : pm_kt (pm_ty ci j) = 0) (hk : kd[h]? = some (0, ci)) (k9 : wp l M d mc ms (pc + 3) L (.int (mi h j) :: S) cs ss kd mi ml mr Q) : wp l M d mc ms pc L (.ref h :: S) cs ss kd mi ml mr Q :=
  wp_get (v := .int (mi h j)) hd hf hk ⟨fun _ _ => trivial, fun ad sx => by rw [ht]; rfl⟩ k9
theorem wp_getL {i ci j h : Nat} (hd : decode M.2.1 pc = .ok (.getfield i, 3)) (hf : pm_fl M.1.cls i ci j) (ht : pm_kt (pm_ty ci j) = 1) (hk : kd[h]? = some (0, ci)) (k9 : wp l M d mc ms (pc + 3) L (.long (ml h j) :: S) cs ss kd mi ml mr Q) : wp l M d mc ms pc L (.ref h :: S) cs ss kd mi ml mr Q :=
  wp_get (v := .long (ml h j)) hd hf hk ⟨fun _ _ => trivial, fun ad sx => by rw [ht]; rfl⟩ k9
theorem wp_getR {i ci j h a : Nat} (hd : decode M.2.1 pc = .ok (.getfield i, 3)) (hf : pm_fl M.1.cls i ci j) (ht : pm_kt (pm_ty ci j) = 2) (hk : kd[h]? = some (0, ci)) (hr : mr h j = some a) (k9 : wp l M d mc ms (pc + 3) L (.ref a :: S) cs ss kd mi ml mr Q) : wp l M d mc ms pc L (.ref h :: S) cs ss kd mi ml mr Q :=
  wp_get (v := .ref a) hd hf hk ⟨fun n hn => hn _ _ _ hr, fun ad sx => by rw [ht]; show (match mr h j with | none => Value.null | some a => .ref (ad a)) = _; rw [hr]; rfl⟩ k9
theorem pm_fs_set {ad : Nat → Nat} {mi mi' : pm_I} {ml ml' : pm_L} {mr mr' : pm_R} {h ci j : Nat} {v : Value} (hj : j < pm_N ci) (h0 : pm_fv ad mi' ml' mr' h (pm_kt (pm_ty ci j)) j = v) (h1 : ∀ b, b ≠ j → mi' h b = mi h b) (h2 : ∀ b, b ≠ j → ml' h b = ml h b) (h3 : ∀ b, b ≠ j → mr' h b = mr h b) : (pm_fs ad mi ml mr h ci).set j v = pm_fs ad mi' ml' mr' h ci := by
  apply List.ext_getElem?
  intro b
  by_cases hb : b = j
  · subst hb
    rw [List.getElem?_set_self (by rw [pm_fs_len]; exact hj), pm_fs_at hj, h0]
  · rw [List.getElem?_set_ne (fun z => hb z.symm)]
    by_cases hb2 : b < pm_N ci
    · rw [pm_fs_at hb2, pm_fs_at hb2]
      unfold pm_fv
      rw [h1 b hb, h2 b hb, h3 b hb]
    · rw [List.getElem?_eq_none (by rw [pm_fs_len]; omega), List.getElem?_eq_none (by rw [pm_fs_len]; omega)]
theorem wp_put {i ci j h : Nat} {v : Value} {mi' : pm_I} {ml' : pm_L} {mr' : pm_R} (hd : decode M.2.1 pc = .ok (.putfield i, 3)) (hf : pm_fl M.1.cls i ci j) (hk : kd[h]? = some (0, ci)) (hfin : pm_fin ci j = false ∨ (M.1.name = "<init>" ∧ ∃ q, pm_cl[ci]? = some q ∧ (q.2.1 j).1 = M.1.cls ∧ Cond.fieldLink M.1.cls i (q.2.1 j).1 (q.2.1 j).2.1 (q.2.1 j).2.2.1 ∈ pm_tbl))
    (hn9 : ∀ ad sx, narrow (pm_ty ci j) (pm_cv ad sx v) = pm_cv ad sx v) (hfit : ∀ ad sx, fits (pm_ty ci j) (pm_cv ad sx v) = true) (h0 : ∀ ad sx, pm_fv ad mi' ml' mr' h (pm_kt (pm_ty ci j)) j = pm_cv ad sx v) (hi1 : ∀ a b, ¬ (a = h ∧ b = j) → mi' a b = mi a b) (hl1 : ∀ a b, ¬ (a = h ∧ b = j) → ml' a b = ml a b) (hr1 : ∀ a b, ¬ (a = h ∧ b = j) → mr' a b = mr a b)
    (hr2 : ∀ a, mr' h j = some a → mr h j = some a ∨ v = .ref a) (k9 : wp l M d mc ms (pc + 3) L S cs ss kd mi' ml' mr' Q) : wp l M d mc ms pc L (v :: .ref h :: S) cs ss kd mi ml mr Q := by
  intro p e s m args below meth c H locs D dA ad sx A ls n0 ad0 C hn hL hS hW hF h1 h2
  obtain ⟨Cn, T, e1, e2, e3, e4, e5, e6⟩ := hf
  have rows : ∀ a, a ≠ h → mi' a = mi a ∧ ml' a = ml a ∧ mr' a = mr a := fun a ha => ⟨funext fun b => hi1 a b fun z => ha z.1, funext fun b => hl1 a b fun z => ha z.1, funext fun b => hr1 a b fun z => ha z.1⟩
  have eset : (pm_wl ad dA kd mi ml mr).set h (ad h, .inr (ci, (pm_fs ad mi ml mr h ci).set j (pm_cv ad sx v))) = pm_wl ad dA kd mi' ml' mr' := by
    rw [pm_fs_set e2 (h0 ad sx) (fun b hb => hi1 h b fun z => hb z.2) (fun b hb => hl1 h b fun z => hb z.2) (fun b hb => hr1 h b fun z => hb z.2)]
    exact pm_wl_set hk (fun a ha => (rows a ha).1) (fun a ha => (rows a ha).2.1) (fun a ha => (rows a ha).2.2)
  have hval : ∀ k j' a, mr' k j' = some a → a < kd.length := by
    intro k j' a ha
    by_cases z : k = h ∧ j' = j
    · obtain ⟨rfl, rfl⟩ := z
      rcases hr2 a ha with z | rfl
      · exact hW.2.2.1 _ _ _ z
      · exact pm_sh hS
    · rw [hr1 k j' z] at ha
      exact hW.2.2.1 _ _ _ ha
  have hbok : pm_bok kd mi' := by
    intro k n hkn b
    have hne : k ≠ h := fun z => by subst z; rw [hk] at hkn; cases hkn
    rw [hi1 k b fun z => hne z.1]
    exact hW.2.2.2 k n hkn b
  have K : ∀ (H1 : Heap) (locs1 : List Loc), va_P D pm_cl ((pm_wl ad dA kd mi ml mr).set h (ad h, .inr (ci, (pm_fs ad mi ml mr h ci).set j (pm_cv ad sx v)))) H1 → va_D A ((pm_wl ad dA kd mi ml mr).set h (ad h, .inr (ci, (pm_fs ad mi ml mr h ci).set j (pm_cv ad sx v)))) → va_S A s.heap H1 locs1 → _ := fun H1 locs1 hP hD hS1 => k9 p e s m args below meth c H1 locs1 D dA ad sx A ls n0 ad0 C hn hL (pm_st (pm_st hS)) ⟨by rw [← eset]; exact hP, by rw [← eset]; exact hD, hval, hbok⟩ hS1 h1 h2
  have hT : pm_fin ci j = (T j).2.2.2 := by unfold pm_fin; rw [e1]
  rcases hfin with hfin | ⟨hin, q, hq, hq2, hq3⟩
  · rw [hT] at hfin
    rcases e6 with e6 | ⟨host, e6⟩
    · exact va_put C.1 C.2.1 C.2.2.2.2.2.2.1 e3 (pm_ty ci) e5 e4 C.2.2.2.2.2.1 C.2.2.2.2.2.2.2.1 hW.1 hW.2.1 hF h (pm_wl_at hk) e1 j e2 (C.2.2.2.2.2.2.1 _ e6) (fun _ z => z) hfin (e5 j e2) (hn9 ad sx) (hfit ad sx) (by rw [pm_fs_len]; exact e2) hd K
    · exact va_putN C.1 C.2.1 C.2.2.2.2.2.2.1 e3 (pm_ty ci) e5 e4 C.2.2.2.2.2.1 C.2.2.2.2.2.2.2.1 hW.1 hW.2.1 hF h (pm_wl_at hk) e1 j e2 (C.N e6) (fun _ z => z) hfin (e5 j e2) (hn9 ad sx) (hfit ad sx) (by rw [pm_fs_len]; exact e2) hd K
  · rw [e1] at hq
    cases hq
    by_cases hz : (T j).2.2.2 = true
    · exact va_putF C.1 C.2.1 C.2.2.2.2.2.2.1 e3 (pm_ty ci) e5 e4 C.2.2.2.2.2.1 C.2.2.2.2.2.2.2.1 hW.1 hW.2.1 hF h (pm_wl_at hk) e1 j e2 (C.2.2.2.2.2.2.1 _ hq3) (fun _ z => z) hz (C.2.2.2.2.2.2.2.2.1.trans hin) hq2 (e5 j e2) (hn9 ad sx) (hfit ad sx) (by rw [pm_fs_len]; exact e2) hd K
    · exact va_put C.1 C.2.1 C.2.2.2.2.2.2.1 e3 (pm_ty ci) e5 e4 C.2.2.2.2.2.1 C.2.2.2.2.2.2.2.1 hW.1 hW.2.1 hF h (pm_wl_at hk) e1 j e2 (C.2.2.2.2.2.2.1 _ hq3) (fun _ z => z) (by simpa using hz) (e5 j e2) (hn9 ad sx) (hfit ad sx) (by rw [pm_fs_len]; exact e2) hd K
theorem pm_up_ne {α : Type} (f : Nat → Nat → α) {k j a b : Nat} (v : α) (h : ¬ (a = k ∧ b = j)) : pm_up f k j v a b = f a b := if_neg h
theorem wp_putI {i ci j h : Nat} {x : Int32} (hd : decode M.2.1 pc = .ok (.putfield i, 3)) (hf : pm_fl M.1.cls i ci j) (ht : pm_ty ci j = .int) (hfin : pm_fin ci j = false) (hk : kd[h]? = some (0, ci)) (k9 : wp l M d mc ms (pc + 3) L S cs ss kd (pm_up mi h j x) ml mr Q) : wp l M d mc ms pc L (.int x :: .ref h :: S) cs ss kd mi ml mr Q :=
  wp_put (v := .int x) hd hf hk (Or.inl hfin) (fun _ _ => by rw [ht]; rfl) (fun _ _ => by rw [ht]; rfl) (fun _ _ => by rw [ht]; exact congrArg Value.int (pm_up_s mi h j x)) (fun a b z => pm_up_ne mi x z) (fun _ _ _ => rfl) (fun _ _ _ => rfl) (fun a z => Or.inl z) k9
/-- a boolean field: 0 or 1 -/
theorem wp_putZ {i ci j h : Nat} {x : Int32} (hd : decode M.2.1 pc = .ok (.putfield i, 3)) (hf : pm_fl M.1.cls i ci j) (ht : pm_ty ci j = .boolean) (hfin : pm_fin ci j = false) (hk : kd[h]? = some (0, ci)) (hx : x = 0 ∨ x = 1) (k9 : wp l M d mc ms (pc + 3) L S cs ss kd (pm_up mi h j x) ml mr Q) : wp l M d mc ms pc L (.int x :: .ref h :: S) cs ss kd mi ml mr Q :=
  wp_put (v := .int x) hd hf hk (Or.inl hfin) (fun _ _ => by rw [ht]; rcases hx with rfl | rfl <;> rfl) (fun _ _ => by rw [ht]; rcases hx with rfl | rfl <;> rfl) (fun _ _ => by rw [ht]; exact congrArg Value.int (pm_up_s mi h j x)) (fun a b z => pm_up_ne mi x z) (fun _ _ _ => rfl) (fun _ _ _ => rfl) (fun a z => Or.inl z) k9
theorem wp_putL {i ci j h : Nat} {x : Int64} (hd : decode M.2.1 pc = .ok (.putfield i, 3)) (hf : pm_fl M.1.cls i ci j) (ht : pm_ty ci j = .long) (hfin : pm_fin ci j = false) (hk : kd[h]? = some (0, ci)) (k9 : wp l M d mc ms (pc + 3) L S cs ss kd mi (pm_up ml h j x) mr Q) : wp l M d mc ms pc L (.long x :: .ref h :: S) cs ss kd mi ml mr Q :=
  wp_put (v := .long x) hd hf hk (Or.inl hfin) (fun _ _ => by rw [ht]; rfl) (fun _ _ => by rw [ht]; rfl) (fun _ _ => by rw [ht]; exact congrArg Value.long (pm_up_s ml h j x)) (fun _ _ _ => rfl) (fun a b z => pm_up_ne ml x z) (fun _ _ _ => rfl) (fun a z => Or.inl z) k9
/-- a final reference in a constructor -/
theorem wp_putR {i ci j h a : Nat} (hd : decode M.2.1 pc = .ok (.putfield i, 3)) (hf : pm_fl M.1.cls i ci j) (ht : pm_kt (pm_ty ci j) = 2) (hin : M.1.name = "<init>" ∧ ∃ q, pm_cl[ci]? = some q ∧ (q.2.1 j).1 = M.1.cls ∧ Cond.fieldLink M.1.cls i (q.2.1 j).1 (q.2.1 j).2.1 (q.2.1 j).2.2.1 ∈ pm_tbl) (hk : kd[h]? = some (0, ci)) (k9 : wp l M d mc ms (pc + 3) L S cs ss kd mi ml (pm_up mr h j (some a)) Q) : wp l M d mc ms pc L (.ref a :: .ref h :: S) cs ss kd mi ml mr Q :=
  wp_put (v := .ref a) hd hf hk (Or.inr hin) (fun ad _ => by generalize pm_ty ci j = t at ht; cases t <;> first | rfl | (simp [pm_kt] at ht)) (fun ad _ => by generalize pm_ty ci j = t at ht; cases t <;> first | rfl | (simp [pm_kt] at ht))
    (fun ad sx => by rw [ht]; show (match pm_up mr h j (some a) h j with | none => Value.null | some a => .ref (ad a)) = _; rw [pm_up_s]; rfl) (fun _ _ _ => rfl) (fun _ _ _ => rfl) (fun a b z => pm_up_ne mr _ z) (fun b z => Or.inr (by rw [pm_up_s] at z; cases z; rfl)) k9
end PMM
