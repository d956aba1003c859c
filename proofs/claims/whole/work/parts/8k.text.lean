/-! text: the class's call, the reference's call -/
def offS (k : Nat) : Nat := if k = 0 then 7 else if k = 1 then 13 else if k = 2 then 17 else 22
def lenS (k : Nat) : Nat := if k = 0 then 5 else if k = 2 then 4 else 3
def wdS (k : Nat) : Nat := if k = 0 then 53 else if k = 1 then 121 else if k = 2 then 39 else 31
/-- the row r stands in the k-th sort's slot at o -/
def SlX (k : Nat) (mi : pm_I) (ml : pm_L) (o : Nat) (r : Nat → Int32) : Prop := if k = 0 then CC mi ml o r else if k = 2 then mi o 0 = r 0 ∧ mi o 1 = r 1 ∧ RR mi (o + 1) 2 r else RR mi o 0 r
theorem and_255 (v : Int32) : (v &&& 255) = nI (v &&& 255).toNatClampNeg ∧ (v &&& 255).toNatClampNeg < 256 := by
  have h : (v &&& 255) = nI (v.toBitVec.toNat % 256) := by
    apply Int32.toBitVec.inj
    apply BitVec.eq_of_toNat_eq
    have h1 : (v &&& 255).toBitVec.toNat = v.toBitVec.toNat &&& 255 := by
      rw [Int32.toBitVec_and, BitVec.toNat_and]; rfl
    have h2 : (nI (v.toBitVec.toNat % 256)).toBitVec.toNat = v.toBitVec.toNat % 256 := by
      show (BitVec.ofNat 32 (v.toBitVec.toNat % 256)).toNat = _
      rw [BitVec.toNat_ofNat, Nat.mod_eq_of_lt]
      have := Nat.mod_lt v.toBitVec.toNat (show 0 < 256 by decide)
      omega
    rw [h1, h2]
    exact Nat.and_two_pow_sub_one_eq_mod _ 8
  have l := Nat.mod_lt v.toBitVec.toNat (show 0 < 256 by decide)
  rw [h, z_cl (by omega)]
  exact ⟨rfl, l⟩
section TXC
variable {l : Launch} {d x z T h o k j n m : Nat} {kd : pm_K} {mr : pm_R} {mi mi' : pm_I} {ml ml' : pm_L} {t : Nat → Nat} {r : Nat → Int32} {a b u v : Int32}
theorem txR_ok {p : Int32} (H : txR k t n 0 p r) : okA k r := ((txR_fun H H).2.2 rfl).2
/-- the draft, copied into a slot -/
theorem SlX_of (hk : k < 4) (D : DrX k mi ml h r) (O : okA k r) (c0 : k = 0 → cpP P0 mi' o mi (h + 2) ∧ ml' o 3 = ml (h + 2) 3) (c2 : k = 2 → cpP P10 mi' o mi (h + 12)) (c1 : k = 1 ∨ k = 3 → cpP P6 mi' o mi (h + 8)) : SlX k mi' ml' o r := by
  unfold DrX at D
  unfold okA at O
  unfold SlX
  rcases (show k = 0 ∨ k = 1 ∨ k = 2 ∨ k = 3 by omega) with rfl | rfl | rfl | rfl
  · rw [if_pos rfl] at D O ⊢
    exact D.mv O (c0 rfl).1 (c0 rfl).2 fun _ _ => rfl
  · rw [if_neg (by omega), if_neg (by omega)] at D ⊢
    exact D.mv (c1 (Or.inl rfl)) fun _ _ => rfl
  · rw [if_neg (by omega), if_pos rfl] at D ⊢
    obtain ⟨d1, d2, d3⟩ := D
    have c := c2 rfl
    have f0 := c 0 0 (Or.inl ⟨rfl, Or.inl rfl⟩)
    have f1 := c 0 1 (Or.inl ⟨rfl, Or.inr rfl⟩)
    rw [Nat.add_zero, Nat.add_zero] at f0 f1
    exact ⟨f0.trans d1, f1.trans d2, d3.mv (P10.six c) fun _ _ => rfl⟩
  · rw [if_neg (by omega), if_neg (by omega)] at D ⊢
    exact D.mv (c1 (Or.inr rfl)) fun _ _ => rfl
theorem s_put {K : pm_I → pm_L → Prop} (tT : TX9s kd mr T) (th : TX5s kd mr h) (hT : T + 44 < h) (hk : k < 4) (hj : j < 2) (hu : u = nI k) (hv : v = nI j) (hm : mi (T + 2) k = nI m) (hm2 : m ≤ 2) (D : DrX k mi ml h r) (O : okA k r)
    (k9 : ∀ mi' ml', (∀ a, a ≠ T + 2 → (a < T + offS k + 19 * j ∨ T + offS k + 19 * j + lenS k < a) → mi' a = mi a ∧ ml' a = ml a) → mi' (T + 2) k = nI (max m (j + 1)) → (∀ i, i ≠ k → mi' (T + 2) i = mi (T + 2) i) → ml' (T + 2) = ml (T + 2) → SlX k mi' ml' (T + offS k + 19 * j) r → K mi' ml') : wV l M_X9_put (d + 3) [.ref T, .int u, .int v, .ref h] kd mr mi ml K := by
  subst hu; subst hv
  obtain ⟨⟨t1, t2⟩, ⟨t3, t4⟩, ⟨t5, t6⟩, t7, t8⟩ := TX9s_two tT hj
  have ti : (nI k).toInt = (k : Int) := z_toInt (by omega)
  have vj : vp_in (nI j) 2 := z_in hj (by omega)
  have vk : vp_in (nI k) 4 := z_in hk (by omega)
  have e : (nI j).toNatClampNeg = j := z_cl (by omega)
  have fin : ∀ mi1 ml1, (∀ a, (a < T + offS k + 19 * j ∨ T + offS k + 19 * j + lenS k < a) → mi1 a = mi a ∧ ml1 a = ml a) → SlX k mi1 ml1 (T + offS k + 19 * j) r → c_X9_put_109 l (d + 3) kd mr T h (nI k) (nI j) mi1 ml1 K := by
    intro mi1 ml1 f S
    have oS : T + 2 < T + offS k + 19 * j := by unfold offS; split <;> (try split) <;> (try split) <;> omega
    refine w_X9_put_109 tT th ⟨vk, vk, ?_⟩
    rw [z_cl (show k < 2147483648 by omega), (f (T + 2) (Or.inl oS)).1, hm, nI_1]
    have lt : (nI m < nI (j + 1)) = (m < j + 1) := z_lt (by omega) (by omega)
    have ei : (if nI m < nI (j + 1) then nI (j + 1) else nI m) = nI (max m (j + 1)) := by
      by_cases q : m < j + 1
      · rw [if_pos (by rw [lt]; exact q)]; congr 1; omega
      · rw [if_neg (by rw [lt]; exact q)]; congr 1; omega
    rw [ei]
    refine k9 _ ml1 (fun a h1 h2 => ⟨(pm_up_row _ _ h1).trans (f a h2).1, (f a h2).2⟩) (pm_up_s _ _ _ _) (fun i hi => ?_) (f _ (Or.inl oS)).2 ?_
    · rw [pm_up_j _ _ hi, (f (T + 2) (Or.inl oS)).1]
    · have ne : ∀ a, T + offS k + 19 * j ≤ a → pm_up mi1 (T + 2) k (nI (max m (j + 1))) a = mi1 a := fun a ha => pm_up_row _ _ (by omega)
      unfold SlX at S ⊢
      by_cases k0 : k = 0
      · rw [if_pos k0] at S ⊢
        exact S.same (fun a h1 _ => ne a h1) rfl
      · rw [if_neg k0] at S ⊢
        by_cases k2 : k = 2
        · rw [if_pos k2] at S ⊢
          obtain ⟨s1, s2, s3⟩ := S
          rw [ne _ (Nat.le_refl _)]
          exact ⟨s1, s2, s3.same (ne _ (by omega)) (ne _ (by omega)) (ne _ (by omega)) (ne _ (by omega))⟩
        · rw [if_neg k2] at S ⊢
          exact S.same (ne _ (by omega)) (ne _ (by omega)) (ne _ (by omega)) (ne _ (by omega))
  refine w_X9_put tT th ⟨fun q => absurd q (nI_pos (by omega)), fun _ => ⟨fun q => absurd q (nI_ge (b := 4) hk (by omega)), fun _ => ⟨fun q => absurd q (nI_pos (by omega)), fun _ => ⟨fun _ => ?_, fun q => absurd (by rw [show ((2 : Int32)) = nI 2 from rfl, z_lt (by omega) (by omega)]; exact hj) q⟩⟩⟩⟩
  rw [ti, e]
  refine ⟨fun y => ?_, fun y => ?_, fun y => ?_, fun y => ?_⟩
  · have k3 : k = 3 := by omega
    subst k3
    refine ⟨vj, _, t7, t8, s_take6 t8 (TX5s_a9 th) (by omega) fun mi1 g1 g2 g3 => fin mi1 ml (fun a ha => ?_) (SlX_of (h := h) (mi := mi) (ml := ml) hk D O (fun q => by omega) (fun q => by omega) fun _ => g3)⟩
    exact ⟨g1 a (by unfold offS lenS at ha; simp at ha; omega), rfl⟩
  · have k0 : k = 0 := by omega
    subst k0
    refine ⟨vj, _, t1, t2, s_take0 t2 (TX5s_a8 th) (by omega) fun mi1 ml1 g1 g2 g3 => fin mi1 ml1 (fun a ha => ?_) (SlX_of (h := h) (mi := mi) (ml := ml) hk D O (fun _ => ⟨g2, g3⟩) (fun q => by omega) fun q => by omega)⟩
    exact g1 a (by unfold offS lenS at ha; simp at ha; omega)
  · have k1 : k = 1 := by omega
    subst k1
    refine ⟨vj, _, t3, t4, s_take6 t4 (TX5s_a9 th) (by omega) fun mi1 g1 g2 g3 => fin mi1 ml (fun a ha => ?_) (SlX_of (h := h) (mi := mi) (ml := ml) hk D O (fun q => by omega) (fun q => by omega) fun _ => g3)⟩
    exact ⟨g1 a (by unfold offS lenS at ha; simp at ha; omega), rfl⟩
  · have k2 : k = 2 := by omega
    subst k2
    refine ⟨vj, _, t5, t6, s_take10 t6 (TX5s_a10 th) (by omega) fun mi1 g1 g2 => fin mi1 ml (fun a ha => ?_) (SlX_of (h := h) (mi := mi) (ml := ml) hk D O (fun q => by omega) (fun _ => g2) fun q => by omega)⟩
    exact ⟨g1 a (by unfold offS lenS at ha; simp at ha; omega), rfl⟩
/-- what the class's text leaves as it was, but for the slot -/
def xR (x : Nat) (mi mi' : pm_I) (ml ml' : pm_L) (f p : Int32) : Prop := (∀ a, ((x + 46 ≤ a ∧ a ≤ x + 182) ∨ x + 200 ≤ a) → mi' a = mi a ∧ ml' a = ml a) ∧ mi' (x + 2) = mi (x + 2) ∧ mi' (x + 1) 1 = nI 0 ∧ mi' (x + 1) 2 = f ∧ mi' (x + 1) 3 = p
/-- a text may be taken: further, or instead -/
def mayT (b : Int32) (m j : Nat) : Prop := (b = -1 ∧ m < 2 ∧ j = m) ∨ (b = nI j ∧ j < m)
theorem X_text {K : Int32 → pm_I → pm_L → Prop} (tx : TX11s kd mr x) (hk : k < 4) (hu : u = nI k) (hl : mi (x + 1) 1 = nI n) (hn : n ≤ 600) (ht : ∀ i, i < n → (mi (x + 2) i &&& 255) = nI (t i) ∧ t i < 256) (hm : mi (x + 3) k = nI m) (hm2 : m ≤ 2) (hb : mayT b m j)
    (kf : ∀ mi' ml' f p r, txR k t n f p r → ¬ f = 0 → xR x mi mi' ml ml' f p → (∀ a, x + 3 ≤ a → a ≤ x + 45 → mi' a = mi a ∧ ml' a = ml a) → K (-1) mi' ml')
    (kt : ∀ mi' ml' p r, txR k t n 0 p r → xR x mi mi' ml ml' 0 p → (∀ a, x + 4 ≤ a → a ≤ x + 45 → (a < x + 1 + offS k + 19 * j ∨ x + 1 + offS k + 19 * j + lenS k < a) → mi' a = mi a ∧ ml' a = ml a) → mi' (x + 3) k = nI (max m (j + 1)) → (∀ i, i ≠ k → mi' (x + 3) i = mi (x + 3) i) → SlX k mi' ml' (x + 1 + offS k + 19 * j) r → K (nI j) mi' ml') : wI l M_X11_text (d + 10) [.ref x, .int u, .int b] kd mr mi ml K := by
  subst hu
  have j2 : j < 2 := by unfold mayT at hb; omega
  refine w_X11_text tx ?_
  rw [hl]
  have A0 : ∀ a, a ≠ x + 1 → pm_up (pm_up (pm_up mi (x + 1) 1 0) (x + 1) 2 0) (x + 1) 3 (-1) a = mi a := fun a ha => by rw [pm_up_row _ _ ha, pm_up_row _ _ ha, pm_up_row _ _ ha]
  have A1 : pm_up (pm_up (pm_up mi (x + 1) 1 0) (x + 1) 2 0) (x + 1) 3 (-1) (x + 1) 1 = 0 := by rw [pm_up_j _ _ (by decide), pm_up_j _ _ (by decide), pm_up_s]
  generalize pm_up (pm_up (pm_up mi (x + 1) 1 0) (x + 1) 2 0) (x + 1) 3 (-1) = miA at A0 A1 ⊢
  have hmA : miA (x + 1 + 2) k = nI m := by rw [A0 _ (by omega)]; exact hm
  refine w_X9_manyOf (TX11s_a0 tx) ⟨fun q => absurd q (nI_pos (by omega)), fun _ => ⟨fun q => absurd q (nI_ge (b := 4) hk (by omega)), fun _ => ⟨z_in hk (by omega), ?_⟩⟩⟩
  rw [z_cl (by omega), hmA]
  refine ⟨fun q => absurd q (nI_m2 (by omega)), fun _ => ?_⟩
  have e2 : ((2 : Int32) ≤ nI m) = (2 ≤ m) := z_le (a := 2) (by omega) (by omega)
  have go : ∀ x5 : Int32, (if x5 = 0 then b else nI m) = nI j → c_X11_text_97 l (d + 10) kd mr x (nI k) b (nI n) (nI m) x5 miA ml K := by
    intro x5 h5
    refine w_X11_text_97 tx (s_read (t := t) (n := n) (TX11s_a3 tx) (TX9s_a0 (TX11s_a0 tx)) (by omega) hk rfl rfl hn (fun i hi => ?_) fun mi1 ml1 r f p fr H h6 h7 D => ?_)
    · have := ht i hi
      rw [A0 _ (by omega)]; exact this
    · rw [h6, h7, h5]
      have F0 : ∀ a, a ≠ x + 1 → (a < x + 183 ∨ x + 183 + 16 < a) → mi1 a = mi a ∧ ml1 a = ml a := fun a h1 h2 => ⟨((fr a h2).1).trans (A0 a h1), (fr a h2).2⟩
      have b0 : ∀ a, a ≠ x + 1 → pm_up (pm_up mi1 (x + 1) 2 f) (x + 1) 3 p a = mi1 a := fun a ha => by rw [pm_up_row _ _ ha, pm_up_row _ _ ha]
      have b1 : pm_up (pm_up mi1 (x + 1) 2 f) (x + 1) 3 p (x + 1) 1 = nI 0 := by rw [pm_up_j _ _ (by decide), pm_up_j _ _ (by decide), (fr (x + 1) (by omega)).1]; exact A1
      have b2 : pm_up (pm_up mi1 (x + 1) 2 f) (x + 1) 3 p (x + 1) 2 = f := by rw [pm_up_j _ _ (by decide), pm_up_s]
      have b3 : pm_up (pm_up mi1 (x + 1) 2 f) (x + 1) 3 p (x + 1) 3 = p := pm_up_s _ _ _ _
      generalize pm_up (pm_up mi1 (x + 1) 2 f) (x + 1) 3 p = mi2 at *
      have G0 : ∀ a, a ≠ x + 1 → (a < x + 183 ∨ x + 183 + 16 < a) → mi2 a = mi a ∧ ml1 a = ml a := fun a h1 h2 => ⟨(b0 a h1).trans (F0 a h1 h2).1, (F0 a h1 h2).2⟩
      refine ⟨fun hf => ?_, fun hf => kf mi2 ml1 f p r H hf ⟨fun a ha => G0 a (by omega) (by omega), (G0 _ (by omega) (by omega)).1, b1, b2, b3⟩ fun a h1 h2 => G0 a (by omega) (by omega)⟩
      subst hf
      have D2 : DrX k mi2 ml1 (x + 183) r := by
        have D := D rfl
        unfold DrX at D ⊢
        by_cases k0 : k = 0
        · rw [if_pos k0] at D ⊢
          exact D.same (fun a h1 _ => b0 a (by omega)) rfl
        · rw [if_neg k0] at D ⊢
          by_cases k2 : k = 2
          · rw [if_pos k2] at D ⊢
            rw [b0 _ (by omega)]
            exact ⟨D.1, D.2.1, D.2.2.same (b0 _ (by omega)) (b0 _ (by omega)) (b0 _ (by omega)) (b0 _ (by omega))⟩
          · rw [if_neg k2] at D ⊢
            exact D.same (b0 _ (by omega)) (b0 _ (by omega)) (b0 _ (by omega)) (b0 _ (by omega))
      refine s_put (d := d + 6) (k := k) (j := j) (m := m) (r := r) (TX11s_a0 tx) (TX11s_a3 tx) (by omega) hk j2 rfl rfl (by rw [b0 _ (by omega), (F0 _ (by omega) (by omega)).1]; exact hm) hm2 D2 (txR_ok H) fun mi3 ml3 g1 g2 g3 g4 S => ?_
      have oS : 7 ≤ offS k ∧ offS k + 19 * j + lenS k ≤ 44 := by
        unfold offS lenS
        rcases (show k = 0 ∨ k = 1 ∨ k = 2 ∨ k = 3 by omega) with rfl | rfl | rfl | rfl <;> simp <;> omega
      refine kt mi3 ml3 p r H ⟨fun a ha => ?_, ?_, ?_, ?_, ?_⟩ (fun a h1 h2 h3 => ?_) g2 (fun i hi => ?_) S
      · obtain ⟨q1, q2⟩ := g1 a (by omega) (by omega)
        obtain ⟨q3, q4⟩ := G0 a (by omega) (by omega)
        exact ⟨q1.trans q3, q2.trans q4⟩
      · rw [(g1 (x + 2) (by omega) (by omega)).1]; exact (G0 _ (by omega) (by omega)).1
      · rw [(g1 (x + 1) (by omega) (by omega)).1]; exact b1
      · rw [(g1 (x + 1) (by omega) (by omega)).1]; exact b2
      · rw [(g1 (x + 1) (by omega) (by omega)).1]; exact b3
      · obtain ⟨q1, q2⟩ := g1 a (by omega) (by omega)
        obtain ⟨q3, q4⟩ := G0 a (by omega) (by omega)
        exact ⟨q1.trans q3, q2.trans q4⟩
      · have := g3 i hi
        rw [this, (G0 _ (by omega) (by omega)).1]
  rcases hb with ⟨rfl, hm1, rfl⟩ | ⟨rfl, hjm⟩
  · have ec : (decide ((-1 : Int32) = -1) && (!decide ((2 : Int32) ≤ nI j))) = true := by
      rw [decide_eq_false (show ¬ (2 : Int32) ≤ nI j by rw [e2]; omega)]; rfl
    rw [ec]
    exact ⟨fun _ => go _ (if_neg (by decide)), fun y => (by cases y)⟩
  · have ec : (decide (nI j = (-1 : Int32)) && (!decide ((2 : Int32) ≤ nI m))) = false := by
      rw [decide_eq_false (nI_m1' (by omega))]; rfl
    have ec2 : (!decide (nI j < (0 : Int32)) && (!decide (nI m ≤ nI j))) = true := by
      rw [decide_eq_false (nI_pos (n := j) (by omega)), decide_eq_false (nI_ge hjm (by omega))]; rfl
    rw [ec, ec2]
    exact ⟨fun y => (by cases y), fun _ => ⟨fun _ => go _ (if_pos rfl), fun y => (by cases y)⟩⟩
/-- what the reference's text leaves as it was, but for the slot -/
def zR (z : Nat) (mi mi' : pm_I) (ml ml' : pm_L) (f p : Int32) : Prop := (∀ a, (a < z ∨ z + 12 ≤ a) → mi' a = mi a ∧ ml' a = ml a) ∧ mi' (z + 1) = mi (z + 1) ∧ (mi' (z + 2) 0 = nI 0 ∧ mi' (z + 3) 0 = f ∧ mi' (z + 4) 0 = p) ∧ ∀ j, j ≠ 0 → mi' (z + 2) j = mi (z + 2) j ∧ mi' (z + 3) j = mi (z + 3) j ∧ mi' (z + 4) j = mi (z + 4) j
theorem s_storeZ {K : pm_I → pm_L → Prop} (tz : TX12s kd mr z) (hk : k < 4) (hj : j < 2) (hu : u = nI k) (hv : v = nI j)
    (k9 : ∀ mi', (∀ a, a ≠ z + 6 + k → mi' a = mi a) → (∀ i, i < wdS k → mi' (z + 6 + k) (wdS k * j + i) = mi (z + 10) i) → (∀ i, (i < wdS k * j ∨ wdS k * j + wdS k ≤ i) → mi' (z + 6 + k) i = mi (z + 6 + k) i) → K mi' ml) : wV l M_X12_storeAll (d + 1) [.ref z, .int u, .int v] kd mr mi ml K := by
  subst hu; subst hv
  have loop : ∀ (a1 na1 wd : Nat), kd[a1]? = some (1, na1) → 2 * wd ≤ na1 → na1 < 4000 → wd ≤ 121 → a1 = z + 6 + k → wd = wdS k → wV l M_X12_store d [.ref z, .ref a1, .int (nI wd), .int (nI j)] kd mr mi ml K := by
    intro a1 na1 wd ka hna hna2 hwd ea ew
    have bj : wd * j + wd ≤ na1 := by
      rcases (show j = 0 ∨ j = 1 by omega) with rfl | rfl <;> omega
    have lp : ∀ (q c : Nat) (mi1 : pm_I), c + q = wd → (∀ a, a ≠ a1 → mi1 a = mi a) → (∀ i, i < c → mi1 a1 (wd * j + i) = mi (z + 10) i) → (∀ i, (i < wd * j ∨ wd * j + c ≤ i) → mi1 a1 i = mi a1 i) → c_X12_store_3 l d kd mr z a1 na1 (nI wd) (nI j) (nI c) mi1 ml K := by
      intro q
      induction q with
      | zero =>
        intro c mi1 hc g1 g2 g3
        have : c = wd := by omega
        subst this
        refine w_X12_store_3 tz ka ⟨fun _ => k9 mi1 (fun a ha => g1 a (by omega)) ?_ ?_, fun y => absurd (nI_le (Nat.le_refl _) (by omega)) y⟩
        · rw [← ea, ← ew]; exact g2
        · rw [← ea, ← ew]; exact g3
      | succ q ih =>
        intro c mi1 hc g1 g2 g3
        have ei : nI wd * nI j + nI c = nI (wd * j + c) := by rw [z_mul, nI_add]
        have bound : wd * j + c < na1 := by omega
        refine w_X12_store_3 tz ka ⟨fun y => absurd y (nI_ge (by omega) (by omega)), fun _ => ⟨z_in (by omega) (by omega), ?_⟩⟩
        rw [ei, z_cl (show wd * j + c < 2147483648 by omega), z_cl (show c < 2147483648 by omega), nI_1]
        refine ⟨z_in bound (by omega), ih (c + 1) _ (by omega) (fun a ha => by rw [pm_up_row _ _ ha]; exact g1 a ha) (fun i hi => ?_) fun i hi => ?_⟩
        · by_cases q : i = c
          · subst q; rw [pm_up_s, g1 _ (by omega)]
          · rw [pm_up_j _ _ (by omega)]; exact g2 i (by omega)
        · rw [pm_up_j _ _ (by omega)]; exact g3 i (by omega)
    exact w_X12_store tz ka (lp wd 0 mi (by omega) (fun _ _ => rfl) (fun i hi => absurd hi (Nat.not_lt_zero i)) fun _ _ => rfl)
  have ti : (nI k).toInt = (k : Int) := z_toInt (by omega)
  refine w_X12_storeAll tz ?_
  rw [ti]
  refine ⟨fun y => ?_, fun y => ?_, fun y => ?_, fun y => ?_⟩
  · have k3 : k = 3 := by omega
    subst k3
    exact loop (z + 9) 248 31 (TX12s_a9 tz) (by omega) (by omega) (by omega) (by omega) rfl
  · have k0 : k = 0 := by omega
    subst k0
    exact loop (z + 6) 424 53 (TX12s_a6 tz) (by omega) (by omega) (by omega) (by omega) rfl
  · have k1 : k = 1 := by omega
    subst k1
    exact loop (z + 7) 968 121 (TX12s_a7 tz) (by omega) (by omega) (by omega) (by omega) rfl
  · have k2 : k = 2 := by omega
    subst k2
    exact loop (z + 8) 312 39 (TX12s_a8 tz) (by omega) (by omega) (by omega) (by omega) rfl
theorem Z_text {K : Int32 → pm_I → pm_L → Prop} (tz : TX12s kd mr z) (hk : k < 4) (hu : u = nI k) (hl : mi (z + 2) 0 = nI n) (hn : n ≤ 600) (ht : ∀ i, i < n → (mi (z + 1) i &&& 255) = nI (t i) ∧ t i < 256) (hm : mi (z + 5) k = nI m) (hm2 : m ≤ 2) (hb : mayT b m j)
    (kf : ∀ mi' ml' f p r, txR k t n f p r → ¬ f = 0 → zR z mi mi' ml ml' f p → (∀ a, z + 5 ≤ a → a ≤ z + 9 → mi' a = mi a) → K (-1) mi' ml')
    (kt : ∀ mi' ml' p r, txR k t n 0 p r → zR z mi mi' ml ml' 0 p → (∀ a, z + 6 ≤ a → a ≤ z + 9 → a ≠ z + 6 + k → mi' a = mi a) → mi' (z + 5) k = nI (max m (j + 1)) → (∀ i, i ≠ k → mi' (z + 5) i = mi (z + 5) i) → (∀ i, i < wdS k → mi' (z + 6 + k) (wdS k * j + i) = r i) → (∀ i, (i < wdS k * j ∨ wdS k * j + wdS k ≤ i) → mi' (z + 6 + k) i = mi (z + 6 + k) i) → K (nI j) mi' ml') : wI l M_X12_text (d + 9) [.ref z, .int u, .int b] kd mr mi ml K := by
  subst hu
  have j2 : j < 2 := by unfold mayT at hb; omega
  have wd : wdS k ≤ 121 := by
    unfold wdS
    split <;> (try split) <;> (try split) <;> omega
  refine w_X12_text tz ?_
  have hl' : mi (z + 2) (Int32.toNatClampNeg 0) = nI n := hl
  have x0 : Int32.toNatClampNeg 0 = 0 := rfl
  rw [hl', x0]
  have A0 : ∀ a, a ≠ z → a ≠ z + 2 → a ≠ z + 3 → a ≠ z + 4 → pm_up (pm_up (pm_up (pm_up (pm_up mi z 0 0) z 11 (nI n)) (z + 2) 0 0) (z + 3) 0 0) (z + 4) 0 (-1) a = mi a := fun a h1 h2 h3 h4 => by rw [pm_up_row _ _ h4, pm_up_row _ _ h3, pm_up_row _ _ h2, pm_up_row _ _ h1, pm_up_row _ _ h1]
  have A11 : pm_up (pm_up (pm_up (pm_up (pm_up mi z 0 0) z 11 (nI n)) (z + 2) 0 0) (z + 3) 0 0) (z + 4) 0 (-1) z 11 = nI n := by rw [pm_up_row _ _ (by omega), pm_up_row _ _ (by omega), pm_up_row _ _ (by omega), pm_up_s]
  have A2 : pm_up (pm_up (pm_up (pm_up (pm_up mi z 0 0) z 11 (nI n)) (z + 2) 0 0) (z + 3) 0 0) (z + 4) 0 (-1) (z + 2) 0 = nI 0 := by rw [pm_up_row _ _ (by omega), pm_up_row _ _ (by omega), pm_up_s]; rfl
  have Aj : ∀ i, i ≠ 0 → pm_up (pm_up (pm_up (pm_up (pm_up mi z 0 0) z 11 (nI n)) (z + 2) 0 0) (z + 3) 0 0) (z + 4) 0 (-1) (z + 2) i = mi (z + 2) i ∧ pm_up (pm_up (pm_up (pm_up (pm_up mi z 0 0) z 11 (nI n)) (z + 2) 0 0) (z + 3) 0 0) (z + 4) 0 (-1) (z + 3) i = mi (z + 3) i ∧ pm_up (pm_up (pm_up (pm_up (pm_up mi z 0 0) z 11 (nI n)) (z + 2) 0 0) (z + 3) 0 0) (z + 4) 0 (-1) (z + 4) i = mi (z + 4) i := fun i hi => by
    refine ⟨?_, ?_, ?_⟩
    · rw [pm_up_row _ _ (by omega), pm_up_row _ _ (by omega), pm_up_j _ _ hi, pm_up_row _ _ (by omega), pm_up_row _ _ (by omega)]
    · rw [pm_up_row _ _ (by omega), pm_up_j _ _ hi, pm_up_row _ _ (by omega), pm_up_row _ _ (by omega), pm_up_row _ _ (by omega)]
    · rw [pm_up_j _ _ hi, pm_up_row _ _ (by omega), pm_up_row _ _ (by omega), pm_up_row _ _ (by omega), pm_up_row _ _ (by omega)]
  generalize pm_up (pm_up (pm_up (pm_up (pm_up mi z 0 0) z 11 (nI n)) (z + 2) 0 0) (z + 3) 0 0) (z + 4) 0 (-1) = miA at *
  have hmA : miA (z + 5) k = nI m := by rw [A0 _ (by omega) (by omega) (by omega) (by omega)]; exact hm
  have P : tpZ miA z t n := ⟨A11, hn, fun i hi => by rw [A0 _ (by omega) (by omega) (by omega) (by omega)]; exact ht i hi⟩
  have go : c_X12_text_75 l (d + 9) kd mr z (nI k) b miA ml K := by
    refine w_X12_text_75 tz (s_readZ tz P hk rfl fun mi1 ml1 r f p f1 H hr => ?_)
    have B0 : ∀ a, a ≠ z + 3 → a ≠ z + 4 → pm_up (pm_up mi1 (z + 3) 0 f) (z + 4) 0 p a = mi1 a := fun a h1 h2 => by rw [pm_up_row _ _ h2, pm_up_row _ _ h1]
    have B3 : pm_up (pm_up mi1 (z + 3) 0 f) (z + 4) 0 p (z + 3) 0 = f := by rw [pm_up_row _ _ (by omega), pm_up_s]
    have B4 : pm_up (pm_up mi1 (z + 3) 0 f) (z + 4) 0 p (z + 4) 0 = p := pm_up_s _ _ _ _
    have Bj : ∀ i, i ≠ 0 → pm_up (pm_up mi1 (z + 3) 0 f) (z + 4) 0 p (z + 3) i = mi1 (z + 3) i ∧ pm_up (pm_up mi1 (z + 3) 0 f) (z + 4) 0 p (z + 4) i = mi1 (z + 4) i := fun i hi => by
      refine ⟨?_, ?_⟩
      · rw [pm_up_row _ _ (by omega), pm_up_j _ _ hi]
      · rw [pm_up_j _ _ hi, pm_up_row _ _ (by omega)]
    generalize pm_up (pm_up mi1 (z + 3) 0 f) (z + 4) 0 p = mi2 at *
    have r1 : ∀ a, a ≠ z → a ≠ z + 2 → a ≠ z + 3 → a ≠ z + 4 → a ≠ z + 10 → a ≠ z + 11 → mi2 a = mi a := fun a h1 h2 h3 h4 h5 h6 => by rw [B0 a h3 h4, f1.1 a h1 h5 h6, A0 a h1 h2 h3 h4]
    have zr : zR z mi mi2 ml ml1 f p := by
      refine ⟨fun a ha => ⟨r1 a (by omega) (by omega) (by omega) (by omega) (by omega) (by omega), f1.2.1 a (by omega)⟩, r1 _ (by omega) (by omega) (by omega) (by omega) (by omega) (by omega), ⟨?_, B3, B4⟩, fun i hi => ⟨?_, ?_, ?_⟩⟩
      · rw [B0 _ (by omega) (by omega), f1.1 _ (by omega) (by omega) (by omega)]; exact A2
      · rw [B0 _ (by omega) (by omega), f1.1 _ (by omega) (by omega) (by omega)]; exact (Aj i hi).1
      · rw [(Bj i hi).1, f1.1 _ (by omega) (by omega) (by omega)]; exact (Aj i hi).2.1
      · rw [(Bj i hi).2, f1.1 _ (by omega) (by omega) (by omega)]; exact (Aj i hi).2.2
    refine ⟨fun hf => ?_, fun hf => kf mi2 ml1 f p r H (of_decide_eq_false hf) zr fun a h1 h2 => r1 a (by omega) (by omega) (by omega) (by omega) (by omega) (by omega)⟩
    have hf : f = 0 := of_decide_eq_true hf
    subst hf
    have hr := hr rfl
    have m5 : mi2 (z + 5) = mi (z + 5) := r1 _ (by omega) (by omega) (by omega) (by omega) (by omega) (by omega)
    have hm5 : mi2 (z + 5) k = nI m := by rw [m5]; exact hm
    have st : nI m + b2i (decide (b = -1)) = nI (max m (j + 1)) → c_X12_text_100 l (d + 9) kd mr z (nI k) b (nI j) mi2 ml1 K := fun he => by
      refine w_X12_text_100 tz ⟨z_in (by omega) (by omega), z_in (by omega) (by omega), ?_⟩
      rw [z_cl (show k < 2147483648 by omega), hm5, he]
      refine s_storeZ (d := d + 7) (k := k) (j := j) tz hk j2 rfl rfl fun mi3 g1 g2 g3 => ?_
      have q1 : ∀ a, a ≠ z + 6 + k → a ≠ z + 5 → mi3 a = mi2 a := fun a h1 h2 => by rw [g1 a h1, pm_up_row _ _ h2]
      refine kt mi3 ml1 p r H ⟨fun a ha => ?_, ?_, ⟨?_, ?_, ?_⟩, fun i hi => ?_⟩ (fun a h1 h2 h3 => ?_) ?_ (fun i hi => ?_) (fun i hi => ?_) fun i hi => ?_
      · rw [q1 a (by omega) (by omega)]; exact zr.1 a ha
      · rw [q1 _ (by omega) (by omega)]; exact zr.2.1
      · rw [q1 _ (by omega) (by omega)]; exact zr.2.2.1.1
      · rw [q1 _ (by omega) (by omega)]; exact zr.2.2.1.2.1
      · rw [q1 _ (by omega) (by omega)]; exact zr.2.2.1.2.2
      · rw [q1 (z + 2) (by omega) (by omega), q1 (z + 3) (by omega) (by omega), q1 (z + 4) (by omega) (by omega)]; exact zr.2.2.2 i hi
      · rw [q1 a (by omega) (by omega)]; exact r1 a (by omega) (by omega) (by omega) (by omega) (by omega) (by omega)
      · rw [g1 _ (by omega), pm_up_s]
      · rw [g1 _ (by omega), pm_up_j _ _ hi, m5]
      · rw [g2 i hi, pm_up_row _ _ (by omega), B0 _ (by omega) (by omega)]; exact hr i (by omega)
      · rw [g3 i hi, pm_up_row _ _ (by omega), r1 _ (by omega) (by omega) (by omega) (by omega) (by omega) (by omega)]
    rcases hb with ⟨rfl, hm1, rfl⟩ | ⟨rfl, hjm⟩
    · refine ⟨fun q => absurd rfl q, fun _ => ⟨z_in (by omega) (by omega), ?_⟩⟩
      rw [z_cl (show k < 2147483648 by omega), hm5]
      refine st ?_
      rw [show b2i (decide ((-1 : Int32) = -1)) = 1 from rfl, nI_1]
      congr 1; omega
    · refine ⟨fun _ => st ?_, fun q => absurd q (nI_m1' (by omega))⟩
      rw [decide_eq_false (nI_m1' (n := j) (by omega)), show b2i false = nI 0 from rfl, nI_add]
      congr 1; omega
  refine s_in2 (m := 3) rfl (by omega) ⟨fun y => ?_, fun _ => ?_⟩
  · rw [isK_nI (by omega), decide_eq_true (show k < 3 + 1 by omega)] at y; cases y
  · rcases hb with ⟨rfl, hm1, rfl⟩ | ⟨rfl, hjm⟩
    · refine ⟨fun q => absurd rfl q, fun _ => ⟨z_in (by omega) (by omega), ?_⟩⟩
      rw [z_cl (show k < 2147483648 by omega), hmA]
      have e2 : (nI j = (2 : Int32)) = (j = 2) := z_eq (b := 2) (by omega) (by omega)
      rw [e2]
      exact ⟨fun _ => go, fun q => by omega⟩
    · refine ⟨fun _ => s_is (d := d + 7) (s := k) (m := m) tz rfl (by omega) hmA (by omega) ⟨fun _ => go, fun y => ?_⟩, fun q => absurd q (nI_m1' (by omega))⟩
      rw [isK_nI (by omega), decide_eq_true hjm] at y; cases y
end TXC
