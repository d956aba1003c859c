/-! rules: stores into locals, iinc, weakening, returns -/
theorem pm_clr_len (L : List (Option Value)) (i : Nat) : (pm_clr L i).length = L.length := by
  cases i with
  | zero => rfl
  | succ j => unfold pm_clr; dsimp only; split <;> (try split) <;> simp
theorem pm_clr_get {L : List (Option Value)} {i a : Nat} {w : Value} (hi : i < L.length) (h : (pm_clr L i)[a]? = some (some w)) : L[a]? = some (some w) ∧ ¬ (a + 1 = i ∧ w.category = 2) := by
  cases i with
  | zero => exact ⟨h, fun z => by omega⟩
  | succ j =>
    unfold pm_clr at h
    dsimp only at h
    have hj : j < L.length := by omega
    split at h
    · rename_i w0 hw0
      split at h
      · by_cases haj : a = j
        · subst haj
          rw [List.getElem?_set_self hj] at h
          cases Option.some.inj h
        · rw [List.getElem?_set_ne (fun z => haj z.symm)] at h
          exact ⟨h, fun z => by omega⟩
      · rename_i hne
        refine ⟨h, fun z => ?_⟩
        have : a = j := by omega
        subst this
        rw [hw0] at h
        cases h
        exact hne z.2
    · rename_i hne
      refine ⟨h, fun z => ?_⟩
      have : a = j := by omega
      subst this
      exact hne _ h
theorem pm_stL_len (L : List (Option Value)) (i : Nat) (v : Value) : (pm_stL L i v).length = L.length := by
  unfold pm_stL
  split <;> simp [pm_clr_len]
theorem pm_stL_get {L : List (Option Value)} {i a : Nat} {v w : Value} (hi : i < L.length) (h : (pm_stL L i v)[a]? = some (some w)) : (a = i ∧ w = v) ∨ (a ≠ i ∧ (v.category = 2 → a ≠ i + 1) ∧ L[a]? = some (some w) ∧ ¬ (a + 1 = i ∧ w.category = 2)) := by
  have key : ((pm_clr L i).set i (some v))[a]? = some (some w) → (a = i ∧ w = v) ∨ (a ≠ i ∧ L[a]? = some (some w) ∧ ¬ (a + 1 = i ∧ w.category = 2)) := by
    intro h
    by_cases hai : a = i
    · subst hai
      rw [List.getElem?_set_self (by rw [pm_clr_len]; exact hi)] at h
      exact Or.inl ⟨rfl, (Option.some.inj (Option.some.inj h)).symm⟩
    · rw [List.getElem?_set_ne (fun z => hai z.symm)] at h
      exact Or.inr ⟨hai, pm_clr_get hi h⟩
  unfold pm_stL at h
  split at h
  · by_cases hai : a = i + 1
    · subst hai
      rw [List.getElem?_set] at h
      split at h
      · split at h <;> cases h
      · omega
    · rw [List.getElem?_set_ne (fun z => hai z.symm)] at h
      rcases key h with h | h
      · exact Or.inl h
      · exact Or.inr ⟨h.1, fun _ => hai, h.2⟩
  · rename_i hc
    rcases key h with h | h
    · exact Or.inl h
    · exact Or.inr ⟨h.1, fun z => absurd z hc, h.2⟩
def pm_lvl (ad sx : Nat → Nat) (L : List (Option Value)) : List (Nat × Value) := L.zipIdx.filterMap fun q => q.1.map fun v => (q.2, pm_cv ad sx v)
theorem pm_lvl_mem {ad sx : Nat → Nat} {L : List (Option Value)} {q : Nat × Value} : q ∈ pm_lvl ad sx L ↔ ∃ v, L[q.1]? = some (some v) ∧ q.2 = pm_cv ad sx v := by
  unfold pm_lvl
  rw [List.mem_filterMap]
  constructor
  · rintro ⟨⟨o, i⟩, hm, hq⟩
    cases o with
    | none => cases hq
    | some v =>
      cases hq
      exact ⟨v, (by simpa using List.mem_zipIdx_iff_getElem?.mp hm), rfl⟩
  · rintro ⟨v, h1, h2⟩
    refine ⟨(some v, q.1), List.mem_zipIdx_iff_getElem?.mpr (by simpa using h1), ?_⟩
    show some (q.1, pm_cv ad sx v) = some q
    rw [← h2]
theorem pm_LV.has {ad sx : Nat → Nat} {n : Nat} {ls : Array Slot} {L : List (Option Value)} (h : pm_LV ad sx n ls L) : lv_has ls L.length (pm_lvl ad sx L) := by
  refine ⟨h.1, h.2.1, fun q hq => ?_⟩
  obtain ⟨v, h1, h2⟩ := pm_lvl_mem.mp hq
  rw [h2]
  exact (h.2.2 _ _ h1).2
theorem pm_LV.set1 {ad sx : Nat → Nat} {n : Nat} {ls ls' : Array Slot} {L : List (Option Value)} {i : Nat} {v : Value} (h : pm_LV ad sx n ls L) (hi : i < L.length) (hv : pm_vok n v) (hc : v.category = 1)
    (hh : lv_has ls' L.length ((i, pm_cv ad sx v) :: (pm_lvl ad sx L).filter (fun q => !(q.1 == i) && !(q.1 + 1 == i && q.2.category == 2)))) : pm_LV ad sx n ls' (pm_stL L i v) := by
  refine ⟨by rw [pm_stL_len]; exact hh.1, hh.2.1, fun a w ha => ?_⟩
  rcases pm_stL_get hi ha with ⟨rfl, rfl⟩ | ⟨h1, -, h2, h3⟩
  · exact ⟨hv, hh.2.2 _ List.mem_cons_self⟩
  · refine ⟨(h.2.2 _ _ h2).1, hh.2.2 (a, pm_cv ad sx w) (List.mem_cons_of_mem _ (List.mem_filter.mpr ⟨pm_lvl_mem.mpr ⟨w, h2, rfl⟩, ?_⟩))⟩
    simp only [pm_cv_cat, Bool.and_eq_true, Bool.not_eq_true', beq_eq_false_iff_ne, ne_eq, Bool.and_eq_false_imp, beq_iff_eq]
    exact ⟨h1, fun z z2 => h3 ⟨z, z2⟩⟩
theorem pm_LV.set2 {ad sx : Nat → Nat} {n : Nat} {ls ls' : Array Slot} {L : List (Option Value)} {i : Nat} {x : Int64} (h : pm_LV ad sx n ls L) (hi : i < L.length)
    (hh : lv_has ls' L.length ((i, Value.long x) :: (pm_lvl ad sx L).filter (fun q => !(q.1 == i) && (!(q.1 == i + 1) && !(q.1 + 1 == i && q.2.category == 2))))) : pm_LV ad sx n ls' (pm_stL L i (.long x)) := by
  refine ⟨by rw [pm_stL_len]; exact hh.1, hh.2.1, fun a w ha => ?_⟩
  rcases pm_stL_get hi ha with ⟨rfl, rfl⟩ | ⟨h1, h4, h2, h3⟩
  · exact ⟨trivial, hh.2.2 _ List.mem_cons_self⟩
  · refine ⟨(h.2.2 _ _ h2).1, hh.2.2 (a, pm_cv ad sx w) (List.mem_cons_of_mem _ (List.mem_filter.mpr ⟨pm_lvl_mem.mpr ⟨w, h2, rfl⟩, ?_⟩))⟩
    simp only [pm_cv_cat, Bool.and_eq_true, Bool.not_eq_true', beq_eq_false_iff_ne, ne_eq, Bool.and_eq_false_imp, beq_iff_eq]
    exact ⟨h1, h4 rfl, fun z z2 => h3 ⟨z, z2⟩⟩
section PMS
variable {l : Launch} {M : pm_M} {d mc ms pc : Nat} {L : List (Option Value)} {S : List Value} {cs ss : Nat} {kd : pm_K} {mi : pm_I} {ml : pm_L} {mr : pm_R} {Q : pm_Q}
theorem wp_istore_n {k : Fin 4} {x : Int32} {L' : List (Option Value)} (hd : decode M.2.1 pc = .ok (.istore_n k, 1)) (hi : (k : Nat) < L.length) (hL' : pm_stL L (k : Nat) (.int x) = L') (k9 : wp l M d mc ms (pc + 1) L' S cs ss kd mi ml mr Q) : wp l M d mc ms pc L (.int x :: S) cs ss kd mi ml mr Q := by
  intro p e s m args below meth c H locs D dA ad sx A ls n0 ad0 C hn hL hS hW hF h1 h2
  subst hL'
  exact lv_istore_n C.1 C.2.1 hd rfl hL.has hi rfl (fun ls' h' => k9 p e s m args below meth c H locs D dA ad sx A ls' n0 ad0 C ((pm_stL_len _ _ _).trans hn) (hL.set1 hi trivial rfl h') (pm_st hS) hW hF h1 h2)

theorem wp_istore {i : Nat} {x : Int32} {L' : List (Option Value)} (hd : decode M.2.1 pc = .ok (.istore i, 2)) (hi : i < L.length) (hL' : pm_stL L i (.int x) = L') (k9 : wp l M d mc ms (pc + 2) L' S cs ss kd mi ml mr Q) : wp l M d mc ms pc L (.int x :: S) cs ss kd mi ml mr Q := by
  intro p e s m args below meth c H locs D dA ad sx A ls n0 ad0 C hn hL hS hW hF h1 h2
  subst hL'
  exact lv_istore C.1 C.2.1 hd hL.has hi rfl (fun ls' h' => k9 p e s m args below meth c H locs D dA ad sx A ls' n0 ad0 C ((pm_stL_len _ _ _).trans hn) (hL.set1 hi trivial rfl h') (pm_st hS) hW hF h1 h2)

theorem wp_astore_n {k : Fin 4} {x : Nat} {L' : List (Option Value)} (hd : decode M.2.1 pc = .ok (.astore_n k, 1)) (hi : (k : Nat) < L.length) (hL' : pm_stL L (k : Nat) (.ref x) = L') (k9 : wp l M d mc ms (pc + 1) L' S cs ss kd mi ml mr Q) : wp l M d mc ms pc L (.ref x :: S) cs ss kd mi ml mr Q := by
  intro p e s m args below meth c H locs D dA ad sx A ls n0 ad0 C hn hL hS hW hF h1 h2
  subst hL'
  exact lv_astore_n C.1 C.2.1 hd rfl hL.has hi rfl (fun ls' h' => k9 p e s m args below meth c H locs D dA ad sx A ls' n0 ad0 C ((pm_stL_len _ _ _).trans hn) (hL.set1 hi (pm_sh hS) rfl h') (pm_st hS) hW hF h1 h2)

theorem wp_astore {i : Nat} {x : Nat} {L' : List (Option Value)} (hd : decode M.2.1 pc = .ok (.astore i, 2)) (hi : i < L.length) (hL' : pm_stL L i (.ref x) = L') (k9 : wp l M d mc ms (pc + 2) L' S cs ss kd mi ml mr Q) : wp l M d mc ms pc L (.ref x :: S) cs ss kd mi ml mr Q := by
  intro p e s m args below meth c H locs D dA ad sx A ls n0 ad0 C hn hL hS hW hF h1 h2
  subst hL'
  exact lv_astore C.1 C.2.1 hd hL.has hi rfl (fun ls' h' => k9 p e s m args below meth c H locs D dA ad sx A ls' n0 ad0 C ((pm_stL_len _ _ _).trans hn) (hL.set1 hi (pm_sh hS) rfl h') (pm_st hS) hW hF h1 h2)

theorem wp_astore_nX {k : Fin 4} {x : Nat} {L' : List (Option Value)} (hd : decode M.2.1 pc = .ok (.astore_n k, 1)) (hi : (k : Nat) < L.length) (hL' : pm_stL L (k : Nat) (.retAddr x) = L') (k9 : wp l M d mc ms (pc + 1) L' S cs ss kd mi ml mr Q) : wp l M d mc ms pc L (.retAddr x :: S) cs ss kd mi ml mr Q := by
  intro p e s m args below meth c H locs D dA ad sx A ls n0 ad0 C hn hL hS hW hF h1 h2
  subst hL'
  exact lv_astore_n C.1 C.2.1 hd rfl hL.has hi rfl (fun ls' h' => k9 p e s m args below meth c H locs D dA ad sx A ls' n0 ad0 C ((pm_stL_len _ _ _).trans hn) (hL.set1 hi trivial rfl h') (pm_st hS) hW hF h1 h2)

theorem wp_astoreX {i : Nat} {x : Nat} {L' : List (Option Value)} (hd : decode M.2.1 pc = .ok (.astore i, 2)) (hi : i < L.length) (hL' : pm_stL L i (.retAddr x) = L') (k9 : wp l M d mc ms (pc + 2) L' S cs ss kd mi ml mr Q) : wp l M d mc ms pc L (.retAddr x :: S) cs ss kd mi ml mr Q := by
  intro p e s m args below meth c H locs D dA ad sx A ls n0 ad0 C hn hL hS hW hF h1 h2
  subst hL'
  exact lv_astore C.1 C.2.1 hd hL.has hi rfl (fun ls' h' => k9 p e s m args below meth c H locs D dA ad sx A ls' n0 ad0 C ((pm_stL_len _ _ _).trans hn) (hL.set1 hi trivial rfl h') (pm_st hS) hW hF h1 h2)

theorem wp_lstore_n {k : Fin 4} {x : Int64} {L' : List (Option Value)} (hd : decode M.2.1 pc = .ok (.lstore_n k, 1)) (hi : (k : Nat) + 1 < L.length) (hL' : pm_stL L (k : Nat) (.long x) = L') (k9 : wp l M d mc ms (pc + 1) L' S cs ss kd mi ml mr Q) : wp l M d mc ms pc L (.long x :: S) cs ss kd mi ml mr Q := by
  intro p e s m args below meth c H locs D dA ad sx A ls n0 ad0 C hn hL hS hW hF h1 h2
  subst hL'
  exact lv_lstore_n C.1 C.2.1 hd rfl hL.has hi rfl (fun ls' h' => k9 p e s m args below meth c H locs D dA ad sx A ls' n0 ad0 C ((pm_stL_len _ _ _).trans hn) (hL.set2 (by omega) h') (pm_st hS) hW hF h1 h2)

theorem wp_lstore {i : Nat} {x : Int64} {L' : List (Option Value)} (hd : decode M.2.1 pc = .ok (.lstore i, 2)) (hi : i + 1 < L.length) (hL' : pm_stL L i (.long x) = L') (k9 : wp l M d mc ms (pc + 2) L' S cs ss kd mi ml mr Q) : wp l M d mc ms pc L (.long x :: S) cs ss kd mi ml mr Q := by
  intro p e s m args below meth c H locs D dA ad sx A ls n0 ad0 C hn hL hS hW hF h1 h2
  subst hL'
  exact lv_lstore C.1 C.2.1 hd hL.has hi rfl (fun ls' h' => k9 p e s m args below meth c H locs D dA ad sx A ls' n0 ad0 C ((pm_stL_len _ _ _).trans hn) (hL.set2 (by omega) h') (pm_st hS) hW hF h1 h2)

theorem wp_iinc {i : Nat} {n : Int} {x v : Int32} {L' : List (Option Value)} (hd : decode M.2.1 pc = .ok (.iinc i n, 3)) (hl : L[i]? = some (some (.int x))) (hv : x + Int32.ofInt n = v) (hL' : pm_stL L i (.int v) = L') (k9 : wp l M d mc ms (pc + 3) L' S cs ss kd mi ml mr Q) : wp l M d mc ms pc L S cs ss kd mi ml mr Q := by
  intro p e s m args below meth c H locs D dA ad sx A ls n0 ad0 C hn hL hS hW hF h1 h2
  subst hL'
  have hi : i < L.length := (List.getElem?_eq_some_iff.mp hl).1
  obtain ⟨k, hk⟩ := List.getElem?_of_mem (pm_lvl_mem.mpr ⟨_, hl, rfl⟩ : (i, pm_cv ad sx (.int x)) ∈ pm_lvl ad sx L)
  exact lv_iinc C.1 C.2.1 hd hL.has hk hv hi rfl (fun ls' h' => k9 p e s m args below meth c H locs D dA ad sx A ls' n0 ad0 C ((pm_stL_len _ _ _).trans hn) (hL.set1 hi trivial rfl h') hS hW hF h1 h2)

/-- fewer locals known -/
def pm_le : List (Option Value) → List (Option Value) → Prop
  | [], [] => True
  | none :: a, _ :: b => pm_le a b
  | some v :: a, o :: b => o = some v ∧ pm_le a b
  | _, _ => False
theorem pm_le.at {a b : List (Option Value)} (h : pm_le a b) : a.length = b.length ∧ ∀ (i : Nat) (v : Value), a[i]? = some (some v) → b[i]? = some (some v) := by
  induction a generalizing b with
  | nil => cases b with
    | nil => exact ⟨rfl, fun i v h => h⟩
    | cons _ _ => exact absurd h (by simp [pm_le])
  | cons o a ih => cases b with
    | nil => cases o <;> exact absurd h (by simp [pm_le])
    | cons o2 b =>
      cases o with
      | none =>
        obtain ⟨e1, e2⟩ := ih (b := b) h
        refine ⟨by simp [e1], fun i v hi => ?_⟩
        cases i with
        | zero => cases hi
        | succ i => exact e2 i v hi
      | some w =>
        obtain ⟨e1, e2⟩ := ih (b := b) h.2
        refine ⟨by simp [e1], fun i v hi => ?_⟩
        cases i with
        | zero => cases hi; rw [h.1]; rfl
        | succ i => exact e2 i v hi
theorem wp_less {L' : List (Option Value)} (h : pm_le L' L) (k : wp l M d mc ms pc L' S cs ss kd mi ml mr Q) : wp l M d mc ms pc L S cs ss kd mi ml mr Q := by
  intro p e s m args below meth c H locs D dA ad sx A ls n0 ad0 C hn hL hS hW hF h1 h2
  obtain ⟨e1, e2⟩ := h.at
  exact k p e s m args below meth c H locs D dA ad sx A ls n0 ad0 C (e1.trans hn) ⟨hL.1.trans e1.symm, hL.2.1, fun i v hi => hL.2.2 i v (e2 i v hi)⟩ hS hW hF h1 h2
theorem wp_mono {Q' : pm_Q} (hQ : ∀ r kd mi ml mr, Q r kd mi ml mr → Q' r kd mi ml mr) (k : wp l M d mc ms pc L S cs ss kd mi ml mr Q) : wp l M d mc ms pc L S cs ss kd mi ml mr Q' := by
  intro p e s m args below meth c H locs D dA ad sx A ls n0 ad0 C hn hL hS hW hF h1 h2 T hT X
  obtain ⟨t, a, oc, b1, b2, ⟨rv, kd', mi', ml', mr', ad', c1, c2, c3⟩, b4⟩ := k p e s m args below meth c H locs D dA ad sx A ls n0 ad0 C hn hL hS hW hF h1 h2 T hT X
  exact ⟨t, a, oc, b1, b2, ⟨rv, kd', mi', ml', mr', ad', c1, hQ _ _ _ _ _ c2, c3⟩, b4⟩
theorem wp_widen {k n : Nat} (h1 : cs ≤ k) (h2 : ss ≤ n) (kk : wp l M d mc ms pc L S k n kd mi ml mr Q) : wp l M d mc ms pc L S cs ss kd mi ml mr Q := by
  intro p e s m args below meth c H locs D dA ad sx A ls n0 ad0 C hn hL hS hW hF h3 h4
  exact W.widen h1 h2 (kk p e s m args below meth c H locs D dA ad sx A ls n0 ad0 C hn hL hS hW hF h3 h4)

theorem wp_ireti {v : Int32} (hd : decode M.2.1 pc = .ok (.ireturn, 1)) (hr : M.2.2.2 = some .int) (hQ : Q (some (.int v)) kd mi ml mr) : wp l M d mc ms pc L [.int v] mc ms kd mi ml mr Q := by
  intro p e s m args below meth c H locs D dA ad sx A ls n0 ad0 C hn hL hS hW hF h1 h2
  exact W.iret C.1 C.2.1 (C.2.2.2.1.trans hr) (fun t ht hw => ⟨some (.int v), kd, mi, ml, mr, ad, rfl, hQ, by rw [ht]; exact hW, h1, h2, (fun _ z => by cases z; trivial), hF.F ht⟩) hF.2.2 hd C.2.2.2.2.1

theorem wp_lret {v : Int64} (hd : decode M.2.1 pc = .ok (.lreturn, 1)) (hr : M.2.2.2 = some .long) (hQ : Q (some (.long v)) kd mi ml mr) : wp l M d mc ms pc L [.long v] mc ms kd mi ml mr Q := by
  intro p e s m args below meth c H locs D dA ad sx A ls n0 ad0 C hn hL hS hW hF h1 h2
  exact W.lret C.1 C.2.1 (C.2.2.2.1.trans hr) (fun t ht hw => ⟨some (.long v), kd, mi, ml, mr, ad, rfl, hQ, by rw [ht]; exact hW, h1, h2, (fun _ z => by cases z; trivial), hF.F ht⟩) hF.2.2 hd C.2.2.2.2.1

theorem wp_vret  (hd : decode M.2.1 pc = .ok (.return_, 1)) (hr : M.2.2.2 = none) (hQ : Q (none) kd mi ml mr) : wp l M d mc ms pc L [] mc ms kd mi ml mr Q := by
  intro p e s m args below meth c H locs D dA ad sx A ls n0 ad0 C hn hL hS hW hF h1 h2
  exact W.vret C.1 C.2.1 (C.2.2.2.1.trans hr) (fun t ht hw => ⟨none, kd, mi, ml, mr, ad, rfl, hQ, by rw [ht]; exact hW, h1, h2, (fun _ z => by cases z), hF.F ht⟩) hF.2.2 hd C.2.2.2.2.1

theorem wp_zret {v : Int32} {ty : FieldType} (hd : decode M.2.1 pc = .ok (.ireturn, 1)) (hr : M.2.2.2 = some ty) (hn9 : narrow ty (.int v) = .int v) (hQ : Q (some (.int v)) kd mi ml mr) : wp l M d mc ms pc L [.int v] mc ms kd mi ml mr Q := by
  intro p e s m args below meth c H locs D dA ad sx A ls n0 ad0 C hn hL hS hW hF h1 h2
  exact W.zret C.1 C.2.1 (C.2.2.2.1.trans hr) hn9 (fun t ht hw => ⟨some (.int v), kd, mi, ml, mr, ad, rfl, hQ, by rw [ht]; exact hW, h1, h2, (fun _ z => by cases z; trivial), hF.F ht⟩) hF.2.2 hd C.2.2.2.2.1
theorem wp_aret {v : Value} {ty : FieldType} (hd : decode M.2.1 pc = .ok (.areturn, 1)) (hr : M.2.2.2 = some ty) (hrt : (∃ n, ty = .object n) ∨ ∃ t, ty = .array t) (hv : v = .null ∨ ∃ a, v = .ref a) (hQ : Q (some v) kd mi ml mr) : wp l M d mc ms pc L [v] mc ms kd mi ml mr Q := by
  intro p e s m args below meth c H locs D dA ad sx A ls n0 ad0 C hn hL hS hW hF h1 h2
  exact W.aret C.1 C.2.1 (C.2.2.2.1.trans hr) hrt (by rcases hv with rfl | ⟨a, rfl⟩; exact Or.inl rfl; exact Or.inr ⟨_, rfl⟩) (fun t ht hw => ⟨some v, kd, mi, ml, mr, ad, rfl, hQ, by rw [ht]; exact hW, h1, h2, (fun _ z => by cases z; exact pm_sh hS), hF.F ht⟩) hF.2.2 hd C.2.2.2.2.1
end PMS
section PMSN
variable {l : Launch} {M : pm_M} {d mc ms pc : Nat} {L : List (Option Value)} {S : List Value} {cs ss : Nat} {kd : pm_K} {mi : pm_I} {ml : pm_L} {mr : pm_R} {Q : pm_Q}

theorem wp_astore_nN {k : Fin 4} {L' : List (Option Value)} (hd : decode M.2.1 pc = .ok (.astore_n k, 1)) (hi : (k : Nat) < L.length) (hL' : pm_stL L (k : Nat) .null = L') (k9 : wp l M d mc ms (pc + 1) L' S cs ss kd mi ml mr Q) : wp l M d mc ms pc L (.null :: S) cs ss kd mi ml mr Q := by
  intro p e s m args below meth c H locs D dA ad sx A ls n0 ad0 C hn hL hS hW hF h1 h2
  subst hL'
  exact lv_astore_nN C.1 C.2.1 hd rfl hL.has hi rfl (fun ls' h' => k9 p e s m args below meth c H locs D dA ad sx A ls' n0 ad0 C ((pm_stL_len _ _ _).trans hn) (hL.set1 hi trivial rfl h') (pm_st hS) hW hF h1 h2)
theorem wp_astoreN {i : Nat} {L' : List (Option Value)} (hd : decode M.2.1 pc = .ok (.astore i, 2)) (hi : i < L.length) (hL' : pm_stL L i .null = L') (k9 : wp l M d mc ms (pc + 2) L' S cs ss kd mi ml mr Q) : wp l M d mc ms pc L (.null :: S) cs ss kd mi ml mr Q := by
  intro p e s m args below meth c H locs D dA ad sx A ls n0 ad0 C hn hL hS hW hF h1 h2
  subst hL'
  exact lv_astoreN C.1 C.2.1 hd hL.has hi rfl (fun ls' h' => k9 p e s m args below meth c H locs D dA ad sx A ls' n0 ad0 C ((pm_stL_len _ _ _).trans hn) (hL.set1 hi trivial rfl h') (pm_st hS) hW hF h1 h2)
theorem wp_aload_nN {k : Fin 4} (hd : decode M.2.1 pc = .ok (.aload_n k, 1)) (hl : L[(k : Nat)]? = some (some .null)) (k9 : wp l M d mc ms (pc + 1) L (.null :: S) cs ss kd mi ml mr Q) : wp l M d mc ms pc L S cs ss kd mi ml mr Q := by
  intro p e s m args below meth c H locs D dA ad sx A ls n0 ad0 C hn hL hS hW hF h1 h2
  exact lv_aload_nN C.1 C.2.1 hd rfl (hL.2.2 _ _ hl).2 (k9 p e s m args below meth c H locs D dA ad sx A ls n0 ad0 C hn hL (pm_sc trivial hS) hW hF h1 h2)
theorem wp_aloadN {i : Nat} (hd : decode M.2.1 pc = .ok (.aload i, 2)) (hl : L[i]? = some (some .null)) (k9 : wp l M d mc ms (pc + 2) L (.null :: S) cs ss kd mi ml mr Q) : wp l M d mc ms pc L S cs ss kd mi ml mr Q := by
  intro p e s m args below meth c H locs D dA ad sx A ls n0 ad0 C hn hL hS hW hF h1 h2
  exact lv_aloadN C.1 C.2.1 hd (hL.2.2 _ _ hl).2 (k9 p e s m args below meth c H locs D dA ad sx A ls n0 ad0 C hn hL (pm_sc trivial hS) hW hF h1 h2)
end PMSN
