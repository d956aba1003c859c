/-! rules: arrays -/
theorem pm_row_set {α : Type} (f : Nat → Nat → α) (k j : Nat) (v : α) : (fun q => if q = j then v else f k q) = pm_up f k j v k := by
  funext q
  by_cases h : q = j
  · subst h; rw [if_pos rfl, pm_up_s]
  · rw [if_neg h, pm_up_j f v h]
section PMA
variable {l : Launch} {M : pm_M} {d mc ms pc : Nat} {L : List (Option Value)} {S : List Value} {cs ss : Nat} {kd : pm_K} {mi : pm_I} {ml : pm_L} {mr : pm_R} {Q : pm_Q}
theorem wp_iald {a n : Nat} {i : Int32} (hd : decode M.2.1 pc = .ok (.iaload, 1)) (hk : kd[a]? = some (1, n)) (hi : vp_in i n) (k9 : wp l M d mc ms (pc + 1) L (.int (mi a i.toNatClampNeg) :: S) cs ss kd mi ml mr Q) : wp l M d mc ms pc L (.int i :: .ref a :: S) cs ss kd mi ml mr Q := by
  intro p e s m args below meth c H locs D dA ad sx A ls n0 ad0 C hn hL hS hW hF h1 h2
  exact va_iald C.1 C.2.1 C.2.2.2.2.2.2.2.1 hW.1 a 0 (pm_wl_at hk) rfl hi hd (k9 p e s m args below meth c H locs D dA ad sx A ls n0 ad0 C hn hL (pm_sc trivial (pm_st (pm_st hS))) hW hF h1 h2)
theorem wp_bald {a n : Nat} {i : Int32} (hd : decode M.2.1 pc = .ok (.baload, 1)) (hk : kd[a]? = some (3, n)) (hi : vp_in i n) (k9 : wp l M d mc ms (pc + 1) L (.int (mi a i.toNatClampNeg) :: S) cs ss kd mi ml mr Q) : wp l M d mc ms pc L (.int i :: .ref a :: S) cs ss kd mi ml mr Q := by
  intro p e s m args below meth c H locs D dA ad sx A ls n0 ad0 C hn hL hS hW hF h1 h2
  exact va_bald C.1 C.2.1 C.2.2.2.2.2.2.2.1 hW.1 a 2 (pm_wl_at hk) rfl hi hd (k9 p e s m args below meth c H locs D dA ad sx A ls n0 ad0 C hn hL (pm_sc trivial (pm_st (pm_st hS))) hW hF h1 h2)
theorem wp_zald {a n : Nat} {i : Int32} (hd : decode M.2.1 pc = .ok (.baload, 1)) (hk : kd[a]? = some (4, n)) (hi : vp_in i n) (k9 : wp l M d mc ms (pc + 1) L (.int (mi a i.toNatClampNeg) :: S) cs ss kd mi ml mr Q) : wp l M d mc ms pc L (.int i :: .ref a :: S) cs ss kd mi ml mr Q := by
  intro p e s m args below meth c H locs D dA ad sx A ls n0 ad0 C hn hL hS hW hF h1 h2
  exact va_zald C.1 C.2.1 C.2.2.2.2.2.2.2.1 hW.1 a 3 (pm_wl_at hk) rfl hi hd (k9 p e s m args below meth c H locs D dA ad sx A ls n0 ad0 C hn hL (pm_sc trivial (pm_st (pm_st hS))) hW hF h1 h2)
theorem wp_lald {a n : Nat} {i : Int32} (hd : decode M.2.1 pc = .ok (.laload, 1)) (hk : kd[a]? = some (2, n)) (hi : vp_in i n) (k9 : wp l M d mc ms (pc + 1) L (.long (ml a i.toNatClampNeg) :: S) cs ss kd mi ml mr Q) : wp l M d mc ms pc L (.int i :: .ref a :: S) cs ss kd mi ml mr Q := by
  intro p e s m args below meth c H locs D dA ad sx A ls n0 ad0 C hn hL hS hW hF h1 h2
  exact va_lald C.1 C.2.1 C.2.2.2.2.2.2.2.1 hW.1 a 1 (pm_wl_at hk) rfl hi hd (k9 p e s m args below meth c H locs D dA ad sx A ls n0 ad0 C hn hL (pm_sc trivial (pm_st (pm_st hS))) hW hF h1 h2)
theorem wp_aald {a n t b : Nat} {i : Int32} (hd : decode M.2.1 pc = .ok (.aaload, 1)) (ht : t < 4) (hk : kd[a]? = some (5 + t, n)) (hi : vp_in i n) (hr : mr a i.toNatClampNeg = some b) (k9 : wp l M d mc ms (pc + 1) L (.ref b :: S) cs ss kd mi ml mr Q) : wp l M d mc ms pc L (.int i :: .ref a :: S) cs ss kd mi ml mr Q := by
  intro p e s m args below meth c H locs D dA ad sx A ls n0 ad0 C hn hL hS hW hF h1 h2
  have K := k9 p e s m args below meth c H locs D dA ad sx A ls n0 ad0 C hn hL (pm_sc (hW.2.2.1 _ _ _ hr) (pm_st (pm_st hS))) hW hF h1 h2
  have e9 : ((mr a i.toNatClampNeg).map ad) = some (ad b) := by rw [hr]; rfl
  have K2 : W p l e (pm_room d mc ms) s m args below meth c H locs cs ss (MQ below (pm_Qc D dA sx A Q n0 ad0) args s mc ms A) (F0 m (pc + 1) ls (va_rf ((fun j => (mr a j).map ad) i.toNatClampNeg) :: S.map (pm_cv ad sx))) := by
    show W p l e _ s m args below meth c H locs cs ss _ (F0 m (pc + 1) ls (va_rf ((mr a i.toNatClampNeg).map ad) :: S.map (pm_cv ad sx)))
    rw [e9]; exact K
  match t, ht with
  | 0, _ => exact va_aldq C.1 C.2.1 C.2.2.2.2.2.2.2.1 hW.1 a 4 (pm_wl_at hk) rfl hi hd K2
  | 1, _ => exact va_aldq C.1 C.2.1 C.2.2.2.2.2.2.2.1 hW.1 a 5 (pm_wl_at hk) rfl hi hd K2
  | 2, _ => exact va_aldq C.1 C.2.1 C.2.2.2.2.2.2.2.1 hW.1 a 6 (pm_wl_at hk) rfl hi hd K2
  | 3, _ => exact va_aldq C.1 C.2.1 C.2.2.2.2.2.2.2.1 hW.1 a 7 (pm_wl_at hk) rfl hi hd K2
theorem wp_alen {a t n : Nat} {v : Int32} (hd : decode M.2.1 pc = .ok (.arraylength, 1)) (ht : 1 ≤ t ∧ t ≤ 8) (hk : kd[a]? = some (t, n)) (hv : Int32.ofNat n = v) (k9 : wp l M d mc ms (pc + 1) L (.int v :: S) cs ss kd mi ml mr Q) : wp l M d mc ms pc L (.ref a :: S) cs ss kd mi ml mr Q := by
  intro p e s m args below meth c H locs D dA ad sx A ls n0 ad0 C hn hL hS hW hF h1 h2
  have K := k9 p e s m args below meth c H locs D dA ad sx A ls n0 ad0 C hn hL (pm_sc trivial (pm_st hS)) hW hF h1 h2
  match t, ht with
  | 1, _ => exact va_alen C.1 C.2.1 C.2.2.2.2.2.2.2.1 hW.1 a 0 (pm_wl_at hk) rfl hv hd K
  | 2, _ => exact va_alen C.1 C.2.1 C.2.2.2.2.2.2.2.1 hW.1 a 1 (pm_wl_at hk) rfl hv hd K
  | 3, _ => exact va_alen C.1 C.2.1 C.2.2.2.2.2.2.2.1 hW.1 a 2 (pm_wl_at hk) rfl hv hd K
  | 4, _ => exact va_alen C.1 C.2.1 C.2.2.2.2.2.2.2.1 hW.1 a 3 (pm_wl_at hk) rfl hv hd K
  | 5, _ => exact va_alen C.1 C.2.1 C.2.2.2.2.2.2.2.1 hW.1 a 4 (pm_wl_at hk) rfl hv hd K
  | 6, _ => exact va_alen C.1 C.2.1 C.2.2.2.2.2.2.2.1 hW.1 a 5 (pm_wl_at hk) rfl hv hd K
  | 7, _ => exact va_alen C.1 C.2.1 C.2.2.2.2.2.2.2.1 hW.1 a 6 (pm_wl_at hk) rfl hv hd K
  | 8, _ => exact va_alen C.1 C.2.1 C.2.2.2.2.2.2.2.1 hW.1 a 7 (pm_wl_at hk) rfl hv hd K
theorem pm_bok_up {kd : pm_K} {mi : pm_I} {a j t n : Nat} {x : Int32} (h : pm_bok kd mi) (hk : kd[a]? = some (t, n)) (hx : t = 3 → x.toInt8.toInt32 = x) : pm_bok kd (pm_up mi a j x) := by
  intro k n2 hkn b
  by_cases z : k = a ∧ b = j
  · obtain ⟨rfl, rfl⟩ := z
    rw [pm_up_s]
    rw [hk] at hkn
    cases hkn
    exact hx rfl
  · rw [pm_up_ne mi x z]
    exact h k n2 hkn b
theorem wp_iast {a n : Nat} {i x : Int32} (hd : decode M.2.1 pc = .ok (.iastore, 1)) (hk : kd[a]? = some (1, n)) (hi : vp_in i n) (k9 : wp l M d mc ms (pc + 1) L S cs ss kd (pm_up mi a i.toNatClampNeg x) ml mr Q) : wp l M d mc ms pc L (.int x :: .int i :: .ref a :: S) cs ss kd mi ml mr Q := by
  intro p e s m args below meth c H locs D dA ad sx A ls n0 ad0 C hn hL hS hW hF h1 h2
  refine va_iast C.1 C.2.1 C.2.2.2.2.2.2.2.1 hW.1 hW.2.1 hF a 0 (pm_wl_at hk) rfl hi hd (fun H1 locs1 hP hD hS1 => ?_)
  have eset : (pm_wl ad dA kd mi ml mr).set a (ad a, .inl (dA 1, n, .inl (upd (mi a) i.toNatClampNeg x))) = pm_wl ad dA kd (pm_up mi a i.toNatClampNeg x) ml mr := by
    have := pm_wl_set (ad := ad) (dA := dA) (mi := mi) (mi' := pm_up mi a i.toNatClampNeg x) (ml := ml) (ml' := ml) (mr := mr) (mr' := mr) hk (fun b hb => pm_up_row mi x hb) (fun _ _ => rfl) (fun _ _ => rfl)
    rw [← this]
    show _ = (pm_wl ad dA kd mi ml mr).set a (ad a, .inl (dA 1, n, .inl (pm_up mi a i.toNatClampNeg x a)))
    rw [← pm_row_set]; rfl
  exact k9 p e s m args below meth c H1 locs1 D dA ad sx A ls n0 ad0 C hn hL (pm_st (pm_st (pm_st hS))) ⟨by rw [← eset]; exact hP, by rw [← eset]; exact hD, hW.2.2.1, pm_bok_up hW.2.2.2 hk (fun z => by cases z)⟩ hS1 h1 h2
theorem wp_bast {a n : Nat} {i x : Int32} (hd : decode M.2.1 pc = .ok (.bastore, 1)) (hk : kd[a]? = some (3, n)) (hi : vp_in i n) (k9 : wp l M d mc ms (pc + 1) L S cs ss kd (pm_up mi a i.toNatClampNeg x.toInt8.toInt32) ml mr Q) : wp l M d mc ms pc L (.int x :: .int i :: .ref a :: S) cs ss kd mi ml mr Q := by
  intro p e s m args below meth c H locs D dA ad sx A ls n0 ad0 C hn hL hS hW hF h1 h2
  refine va_bast C.1 C.2.1 C.2.2.2.2.2.2.2.1 hW.1 hW.2.1 hF a 2 (pm_wl_at hk) rfl hi hd (fun H1 locs1 hP hD hS1 => ?_)
  have eset : (pm_wl ad dA kd mi ml mr).set a (ad a, .inl (dA 3, n, .inl (upd (mi a) i.toNatClampNeg (vp_nar .byte x)))) = pm_wl ad dA kd (pm_up mi a i.toNatClampNeg x.toInt8.toInt32) ml mr := by
    have := pm_wl_set (ad := ad) (dA := dA) (mi := mi) (mi' := pm_up mi a i.toNatClampNeg x.toInt8.toInt32) (ml := ml) (ml' := ml) (mr := mr) (mr' := mr) hk (fun b hb => pm_up_row mi _ hb) (fun _ _ => rfl) (fun _ _ => rfl)
    rw [← this]
    show _ = (pm_wl ad dA kd mi ml mr).set a (ad a, .inl (dA 3, n, .inl (pm_up mi a i.toNatClampNeg x.toInt8.toInt32 a)))
    rw [← pm_row_set]; rfl
  exact k9 p e s m args below meth c H1 locs1 D dA ad sx A ls n0 ad0 C hn hL (pm_st (pm_st (pm_st hS))) ⟨by rw [← eset]; exact hP, by rw [← eset]; exact hD, hW.2.2.1, pm_bok_up hW.2.2.2 hk (fun z => by simp)⟩ hS1 h1 h2
theorem wp_zast {a n : Nat} {i x : Int32} (hd : decode M.2.1 pc = .ok (.bastore, 1)) (hk : kd[a]? = some (4, n)) (hi : vp_in i n) (k9 : wp l M d mc ms (pc + 1) L S cs ss kd (pm_up mi a i.toNatClampNeg (x &&& 1)) ml mr Q) : wp l M d mc ms pc L (.int x :: .int i :: .ref a :: S) cs ss kd mi ml mr Q := by
  intro p e s m args below meth c H locs D dA ad sx A ls n0 ad0 C hn hL hS hW hF h1 h2
  refine va_zast C.1 C.2.1 C.2.2.2.2.2.2.2.1 hW.1 hW.2.1 hF a 3 (pm_wl_at hk) rfl hi hd (fun H1 locs1 hP hD hS1 => ?_)
  have eset : (pm_wl ad dA kd mi ml mr).set a (ad a, .inl (dA 4, n, .inl (upd (mi a) i.toNatClampNeg (vp_nar .boolean x)))) = pm_wl ad dA kd (pm_up mi a i.toNatClampNeg (x &&& 1)) ml mr := by
    have := pm_wl_set (ad := ad) (dA := dA) (mi := mi) (mi' := pm_up mi a i.toNatClampNeg (x &&& 1)) (ml := ml) (ml' := ml) (mr := mr) (mr' := mr) hk (fun b hb => pm_up_row mi _ hb) (fun _ _ => rfl) (fun _ _ => rfl)
    rw [← this]
    show _ = (pm_wl ad dA kd mi ml mr).set a (ad a, .inl (dA 4, n, .inl (pm_up mi a i.toNatClampNeg (x &&& 1) a)))
    rw [← pm_row_set]; rfl
  exact k9 p e s m args below meth c H1 locs1 D dA ad sx A ls n0 ad0 C hn hL (pm_st (pm_st (pm_st hS))) ⟨by rw [← eset]; exact hP, by rw [← eset]; exact hD, hW.2.2.1, pm_bok_up hW.2.2.2 hk (fun z => by cases z)⟩ hS1 h1 h2
theorem wp_last {a n : Nat} {i : Int32} {x : Int64} (hd : decode M.2.1 pc = .ok (.lastore, 1)) (hk : kd[a]? = some (2, n)) (hi : vp_in i n) (k9 : wp l M d mc ms (pc + 1) L S cs ss kd mi (pm_up ml a i.toNatClampNeg x) mr Q) : wp l M d mc ms pc L (.long x :: .int i :: .ref a :: S) cs ss kd mi ml mr Q := by
  intro p e s m args below meth c H locs D dA ad sx A ls n0 ad0 C hn hL hS hW hF h1 h2
  refine va_last C.1 C.2.1 C.2.2.2.2.2.2.2.1 hW.1 hW.2.1 hF a 1 (pm_wl_at hk) rfl hi hd (fun H1 locs1 hP hD hS1 => ?_)
  have eset : (pm_wl ad dA kd mi ml mr).set a (ad a, .inl (dA 2, n, .inr (.inl (vp_updL (ml a) i.toNatClampNeg x)))) = pm_wl ad dA kd mi (pm_up ml a i.toNatClampNeg x) mr := by
    have := pm_wl_set (ad := ad) (dA := dA) (mi := mi) (mi' := mi) (ml := ml) (ml' := pm_up ml a i.toNatClampNeg x) (mr := mr) (mr' := mr) hk (fun _ _ => rfl) (fun b hb => pm_up_row ml _ hb) (fun _ _ => rfl)
    rw [← this]
    show _ = (pm_wl ad dA kd mi ml mr).set a (ad a, .inl (dA 2, n, .inr (.inl (pm_up ml a i.toNatClampNeg x a))))
    rw [← pm_row_set]; rfl
  exact k9 p e s m args below meth c H1 locs1 D dA ad sx A ls n0 ad0 C hn hL (pm_st (pm_st (pm_st hS))) ⟨by rw [← eset]; exact hP, by rw [← eset]; exact hD, hW.2.2.1, hW.2.2.2⟩ hS1 h1 h2
theorem wp_aast {a n t ci b : Nat} {i : Int32} (hd : decode M.2.1 pc = .ok (.aastore, 1)) (ht : (t, ci) ∈ [(0, 0), (1, 6), (2, 10), (3, 9)]) (hk : kd[a]? = some (5 + t, n)) (hb : kd[b]? = some (0, ci)) (hi : vp_in i n) (k9 : wp l M d mc ms (pc + 1) L S cs ss kd mi ml (pm_up mr a i.toNatClampNeg (some b)) Q) : wp l M d mc ms pc L (.ref b :: .int i :: .ref a :: S) cs ss kd mi ml mr Q := by
  intro p e s m args below meth c H locs D dA ad sx A ls n0 ad0 C hn hL hS hW hF h1 h2
  have hval : ∀ k j' a', pm_up mr a i.toNatClampNeg (some b) k j' = some a' → a' < kd.length := by
    intro k j' a' ha
    by_cases z : k = a ∧ j' = i.toNatClampNeg
    · obtain ⟨rfl, rfl⟩ := z
      rw [pm_up_s] at ha
      cases ha
      exact pm_sh hS
    · rw [pm_up_ne mr _ z] at ha
      exact hW.2.2.1 _ _ _ ha
  have eset : ∀ tt, kd[a]? = some (tt + 5, n) → (pm_wl ad dA kd mi ml mr).set a (ad a, .inl (dA (tt + 5), n, .inr (.inr (.inr (.inr (va_up (fun j => (mr a j).map ad) i.toNatClampNeg (some (ad b)))))))) = pm_wl ad dA kd mi ml (pm_up mr a i.toNatClampNeg (some b)) := by
    intro tt hk
    have := pm_wl_set (ad := ad) (dA := dA) (mi := mi) (mi' := mi) (ml := ml) (ml' := ml) (mr := mr) (mr' := pm_up mr a i.toNatClampNeg (some b)) hk (fun _ _ => rfl) (fun _ _ => rfl) (fun b hb => pm_up_row mr _ hb)
    rw [← this]
    show _ = (pm_wl ad dA kd mi ml mr).set a (ad a, .inl (dA (tt + 5), n, .inr (.inr (.inr (.inr fun j => (pm_up mr a i.toNatClampNeg (some b) a j).map ad)))))
    congr 9
    funext j
    by_cases hj : j = i.toNatClampNeg
    · subst hj; rw [pm_up_s]; simp [va_up]
    · rw [pm_up_j mr _ hj]; simp [va_up, hj]
  have KK : ∀ tt, kd[a]? = some (tt + 5, n) → ∀ (H1 : Heap) (locs1 : List Loc), va_P D pm_cl ((pm_wl ad dA kd mi ml mr).set a (ad a, .inl (dA (tt + 5), n, .inr (.inr (.inr (.inr (va_up (fun j => (mr a j).map ad) i.toNatClampNeg (some (ad b))))))))) H1 → va_D A ((pm_wl ad dA kd mi ml mr).set a (ad a, .inl (dA (tt + 5), n, .inr (.inr (.inr (.inr (va_up (fun j => (mr a j).map ad) i.toNatClampNeg (some (ad b))))))))) → va_S A s.heap H1 locs1 → W p l e (pm_room d mc ms) s m args below meth c H1 locs1 cs ss (MQ below (pm_Qc D dA sx A Q n0 ad0) args s mc ms A) (F0 m (pc + 1) ls (S.map (pm_cv ad sx))) := by
    intro tt hk H1 locs1 hP hD hS1
    rw [eset tt hk] at hP hD
    exact k9 p e s m args below meth c H1 locs1 D dA ad sx A ls n0 ad0 C hn hL (pm_st (pm_st (pm_st hS))) ⟨hP, hD, hval, hW.2.2.2⟩ hS1 h1 h2
  simp only [List.mem_cons, Prod.mk.injEq, List.not_mem_nil, or_false] at ht
  rcases ht with ⟨rfl, rfl⟩ | ⟨rfl, rfl⟩ | ⟨rfl, rfl⟩ | ⟨rfl, rfl⟩
  · exact va_astq C.1 C.2.1 C.2.2.2.2.2.2.2.1 hW.1 hW.2.1 hF a 4 b 0 (pm_wl_at hk) rfl (pm_wl_at hb) rfl hi hd (KK 0 hk)
  · exact va_astq C.1 C.2.1 C.2.2.2.2.2.2.2.1 hW.1 hW.2.1 hF a 5 b 6 (pm_wl_at hk) rfl (pm_wl_at hb) rfl hi hd (KK 1 hk)
  · exact va_astq C.1 C.2.1 C.2.2.2.2.2.2.2.1 hW.1 hW.2.1 hF a 6 b 10 (pm_wl_at hk) rfl (pm_wl_at hb) rfl hi hd (KK 2 hk)
  · exact va_astq C.1 C.2.1 C.2.2.2.2.2.2.2.1 hW.1 hW.2.1 hF a 7 b 9 (pm_wl_at hk) rfl (pm_wl_at hb) rfl hi hd (KK 3 hk)
end PMA
