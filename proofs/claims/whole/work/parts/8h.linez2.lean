/-! the reference's lines -/
/-- counts are never too great -/
def DwZ (k : Nat) (mi : pm_I) (z : Nat) : Prop := if k = 0 then (∃ p, p ≤ 6 ∧ mi (z + 10) 3 = nI p) ∧ (∃ p, p ≤ 6 ∧ mi (z + 10) 4 = nI p) else if k = 1 then ∃ p, p ≤ 40 ∧ mi (z + 10) 0 = nI p else if k = 2 then ∃ p, p ≤ 12 ∧ mi (z + 10) 2 = nI p else ∃ p, p ≤ 10 ∧ mi (z + 10) 0 = nI p
def DrZ (mi : pm_I) (z : Nat) (r : Nat → Int32) : Prop := (∀ i, i < 121 → mi (z + 10) i = r i) ∧ mi z 21 = r 200 ∧ mi z 22 = r 201 ∧ mi z 23 = r 202
def outZ (k : Nat) (mi : pm_I) (ml : pm_L) (z : Nat) (t : Nat → Nat) (n : Nat) (R : LRT) (b : Bool) : Prop := match R with
  | .inl p => b = false ∧ mi z 16 = nI p
  | .inr (s, F, r) => b = true ∧ tkZ mi ml z t n s ∧ ltZ mi z F s ∧ DwZ k mi z ∧ (F.1 = 0 → DrZ mi z r)
def fSn (z : Nat) (mi mi' : pm_I) (ml ml' : pm_L) : Prop := (∀ a, a ≠ z → a ≠ z + 10 → a ≠ z + 11 → mi' a = mi a) ∧ (∀ a, ml' a = ml a) ∧ ∀ j, (j < 19 ∨ 25 ≤ j) → mi' z j = mi z j
section LZ
variable {l : Launch} {d z k : Nat} {kd : pm_K} {mr : pm_R} {mi mi' : pm_I} {ml ml' : pm_L} {t : Nat → Nat} {n s p i : Nat} {F : Nat × Nat} {r : Nat → Int32} {x : Int32}
theorem fSn.rf : fSn z mi mi ml ml := ⟨fun _ _ _ _ => rfl, fun _ => rfl, fun _ _ => rfl⟩
theorem fSn.up {a j : Nat} (f : fSn z mi mi' ml ml') (h : a = z + 10 ∨ a = z + 11) : fSn z mi (pm_up mi' a j x) ml ml' := ⟨fun b g1 g2 g3 => (pm_up_row _ _ (by omega)).trans (f.1 b g1 g2 g3), f.2.1, fun i g => by rw [pm_up_row _ _ (by omega)]; exact f.2.2 i g⟩
theorem fSn.uz {j : Nat} (f : fSn z mi mi' ml ml') (h : 19 ≤ j ∧ j < 25) : fSn z mi (pm_up mi' z j x) ml ml' := ⟨fun b g1 g2 g3 => (pm_up_row _ _ g1).trans (f.1 b g1 g2 g3), f.2.1, fun i g => (pm_up_j _ _ (by omega)).trans (f.2.2 i g)⟩
theorem fSn.K (f : fSn z mi mi' ml ml') : fK z mi mi' ml ml' := ⟨f.1, fun a _ => f.2.1 a, fun j g => f.2.2 j (by omega)⟩
theorem fSn.tr {mi2 : pm_I} {ml2 : pm_L} (h1 : fSn z mi mi' ml ml') (h2 : fSn z mi' mi2 ml' ml2) : fSn z mi mi2 ml ml2 := ⟨fun a g1 g2 g3 => (h2.1 a g1 g2 g3).trans (h1.1 a g1 g2 g3), fun a => (h2.2.1 a).trans (h1.2.1 a), fun j g => (h2.2.2 j g).trans (h1.2.2 j g)⟩
theorem tkZ.fSn (X : tkZ mi ml z t n s) (f : fSn z mi mi' ml ml') : tkZ mi' ml' z t n s := X.cg (fun j _ _ _ => f.2.2 j (by omega)) (f.2.1 z)
theorem ltZ.fSn {b : Nat} (L : ltZ mi z F b) (f : fSn z mi mi' ml ml') : ltZ mi' z F b := L.cg (f.2.2 17 (by omega)) (f.2.2 18 (by omega))
theorem DwZ.cg (W : DwZ k mi z) (h : mi' (z + 10) = mi (z + 10)) : DwZ k mi' z := by
  unfold DwZ at W ⊢; rw [h]; exact W
theorem DwZ.up (W : DwZ k mi z) (h0 : k = 0 → i ≠ 3 ∧ i ≠ 4) (h2 : k = 2 → i ≠ 2) (h1 : k ≠ 0 → k ≠ 2 → i ≠ 0) : DwZ k (pm_up mi (z + 10) i x) z := by
  unfold DwZ at W ⊢
  by_cases k0 : k = 0
  · rw [if_pos k0] at W ⊢
    rw [pm_up_j _ _ (Ne.symm (h0 k0).1), pm_up_j _ _ (Ne.symm (h0 k0).2)]; exact W
  · rw [if_neg k0] at W ⊢
    by_cases k1 : k = 1
    · rw [if_pos k1] at W ⊢
      rw [pm_up_j _ _ (Ne.symm (h1 k0 (by omega)))]; exact W
    · rw [if_neg k1] at W ⊢
      by_cases k2 : k = 2
      · rw [if_pos k2] at W ⊢
        rw [pm_up_j _ _ (Ne.symm (h2 k2))]; exact W
      · rw [if_neg k2] at W ⊢
        rw [pm_up_j _ _ (Ne.symm (h1 k0 k2))]; exact W
theorem DrZ.up (D : DrZ mi z r) (hi : i < 200) : DrZ (pm_up mi (z + 10) i x) z (up1 r i x) := by
  obtain ⟨d1, d2, d3, d4⟩ := D
  refine ⟨fun j hj => ?_, ?_, ?_, ?_⟩
  · by_cases q : j = i
    · subst q; rw [pm_up_s, up1_s]
    · rw [pm_up_j _ _ q, up1_n _ _ q]; exact d1 j hj
  · rw [pm_up_row _ _ (by omega), up1_n _ _ (by omega)]; exact d2
  · rw [pm_up_row _ _ (by omega), up1_n _ _ (by omega)]; exact d3
  · rw [pm_up_row _ _ (by omega), up1_n _ _ (by omega)]; exact d4
theorem DrZ.cg (D : DrZ mi z r) (h : mi' (z + 10) = mi (z + 10)) (h1 : mi' z 21 = mi z 21) (h2 : mi' z 22 = mi z 22) (h3 : mi' z 23 = mi z 23) : DrZ mi' z r := by
  unfold DrZ at D ⊢; rw [h, h1, h2, h3]; exact D
theorem DrZ.fV (D : DrZ mi z r) (f : fV z mi mi') : DrZ mi' z r := D.cg (f.1 _ (by omega)) (f.2 21 (by omega) (by omega)) (f.2 22 (by omega) (by omega)) (f.2 23 (by omega) (by omega))
theorem DrZ.fT (D : DrZ mi z r) (f : fT z mi mi' ml ml') : DrZ mi' z r := D.cg (f.1 _ (by omega)) (f.2.1 21 (by omega)) (f.2.1 22 (by omega)) (f.2.1 23 (by omega))
theorem DrZ.fJ {Q : Nat → Prop} (D : DrZ mi z r) (f : fJn z Q mi mi' ml ml') : DrZ mi' z r := D.cg (f.1 _ (by omega) (by omega)) (f.2.2.2 21 (by omega)) (f.2.2.2 22 (by omega)) (f.2.2.2 23 (by omega))
theorem Z_num1 {j lo hi : Nat} {u v w : Int32} {g : Nat → Nat → Int32} {C K : Bool → pm_I → pm_L → Prop} (tz : TX12s kd mr z) (P : tpZ mi z t n) (X : tkZ mi ml z t n s) (L : ltZ mi z F s) (hu : u = nI j) (hj : j < 3) (hv : v = nI lo) (hw : w = nI hi) (hl : lo < 100 ∧ hi < 100)
    (cf : ∀ mi1 ml1, K false mi1 ml1 → C false mi1 ml1)
    (ct : ∀ x mi1 ml1, x < 100 → mi1 (z + 11) j = nI x → fJn z (fun i => i = j) mi mi1 ml ml1 → ((nmF t n lo hi s F).1 = 0 → F.1 = 0 ∧ lo ≤ x ∧ x ≤ hi) → (lo ≤ x ∧ x ≤ hi → mi1 z 24 = mi z 24) → (¬ (lo ≤ x ∧ x ≤ hi) → mi1 z 24 = 0) → (∀ mi2 ml2, fSn z mi1 mi2 ml1 ml2 → DwZ k mi2 z → ((nmF t n lo hi s F).1 = 0 → DrZ mi2 z (g x)) → K true mi2 ml2) → C true mi1 ml1)
    (k9 : ∀ b mi' ml', fK z mi mi' ml ml' → outZ k mi' ml' z t n (num1 t n lo hi s F g) b → K b mi' ml') : wB l M_X12_take (d + 2) [.ref z, .int u, .int v, .int w] kd mr mi ml C := by
  refine s_takeN tz P X L hu hj hv hw hl (fun mi1 ml1 hk v100 f X1 L1 e g1 g2 => ct _ mi1 ml1 v100 e f (fun h0 => ?_) g1 g2 fun mi2 ml2 f2 W2 D2 => k9 true mi2 ml2 (f.K.tr f2.K) ?_) (fun mi1 ml1 hk f e => cf _ _ (k9 false mi1 ml1 f ?_))
  · obtain ⟨a1, a2, a3, -⟩ := nmF_0 h0
    exact ⟨a1, a2, a3⟩
  · unfold num1
    rw [if_pos hk]
    refine ⟨rfl, X1.fSn f2, L1.fSn f2, W2, fun h0 => ?_⟩
    obtain ⟨a1, a2, a3, -⟩ := nmF_0 h0
    have : nmV t n lo hi s = tkV t n s := if_pos ⟨a2, a3⟩
    rw [this]; exact D2 h0
  · unfold num1
    rw [if_neg hk]
    exact ⟨rfl, e⟩
theorem Z_num2 {j j2 lo hi lo2 hi2 : Nat} {u v w u2 v2 w2 : Int32} {g : Nat → Nat → Nat → Int32} {C1 C K : Bool → pm_I → pm_L → Prop} (tz : TX12s kd mr z) (P : tpZ mi z t n) (X : tkZ mi ml z t n s) (L : ltZ mi z F s) (hu : u = nI j) (hj : j < 3) (hv : v = nI lo) (hw : w = nI hi) (hl : lo < 100 ∧ hi < 100) (hu2 : u2 = nI j2) (hj2 : j2 < 3) (hv2 : v2 = nI lo2) (hw2 : w2 = nI hi2) (hl2 : lo2 < 100 ∧ hi2 < 100) (hne : j ≠ j2)
    (c1f : ∀ mi1 ml1, K false mi1 ml1 → C1 false mi1 ml1)
    (c1t : ∀ mi1 ml1, wB l M_X12_take (d + 2) [.ref z, .int u2, .int v2, .int w2] kd mr mi1 ml1 C → C1 true mi1 ml1)
    (cf : ∀ mi1 ml1, K false mi1 ml1 → C false mi1 ml1)
    (ct : ∀ x y mi1 ml1, x < 100 → y < 100 → mi1 (z + 11) j = nI x → mi1 (z + 11) j2 = nI y → fJn z (fun i => i = j ∨ i = j2) mi mi1 ml ml1 → ((nmF t n lo2 hi2 (nx t n s) (nmF t n lo hi s F)).1 = 0 → F.1 = 0 ∧ lo ≤ x ∧ x ≤ hi ∧ lo2 ≤ y ∧ y ≤ hi2 ∧ mi1 z 24 = mi z 24) → (mi1 z 24 ≠ 0 → (lo ≤ x ∧ x ≤ hi) ∧ lo2 ≤ y ∧ y ≤ hi2) → (∀ mi2 ml2, fSn z mi1 mi2 ml1 ml2 → DwZ k mi2 z → ((nmF t n lo2 hi2 (nx t n s) (nmF t n lo hi s F)).1 = 0 → DrZ mi2 z (g x y)) → K true mi2 ml2) → C true mi1 ml1)
    (k9 : ∀ b mi' ml', fK z mi mi' ml ml' → outZ k mi' ml' z t n (num2 t n lo hi lo2 hi2 s F g) b → K b mi' ml') : wB l M_X12_take (d + 2) [.ref z, .int u, .int v, .int w] kd mr mi ml C1 := by
  refine s_takeN tz P X L hu hj hv hw hl (fun mi1 ml1 hk v100 f X1 L1 e g1 g2 => c1t mi1 ml1 (Z_num1 (k := k) (K := K) (g := g (nmV t n lo hi s)) tz (P.fK f.K) X1 L1 hu2 hj2 hv2 hw2 hl2 cf (fun y mi2 ml2 y100 ey f2 h0 g1' g2' kk => ct _ y mi2 ml2 v100 y100 ?_ ey ?_ (fun q => ?_) (fun q => ?_) fun mi3 ml3 f3 W3 D3 => kk mi3 ml3 f3 W3 fun q => ?_) fun b mi' ml' f' o => k9 b mi' ml' (f.K.tr f') ?_)) (fun mi1 ml1 hk f e => c1f _ _ (k9 false mi1 ml1 f ?_))
  · rw [f2.2.2.1 j hne]; exact e
  · refine ⟨fun a h1 h2 => (f2.1 a h1 h2).trans (f.1 a h1 h2), fun a h1 => (f2.2.1 a h1).trans (f.2.1 a h1), fun i hi => (f2.2.2.1 i fun q => hi (Or.inr q)).trans (f.2.2.1 i fun q => hi (Or.inl q)), fun i hi => (f2.2.2.2 i hi).trans (f.2.2.2 i hi)⟩
  · obtain ⟨b1, b2, b3⟩ := h0 q
    obtain ⟨a1, a2, a3, -⟩ := nmF_0 b1
    exact ⟨a1, a2, a3, b2, b3, (g1' ⟨b2, b3⟩).trans (g1 ⟨a2, a3⟩)⟩
  · by_cases b : lo2 ≤ y ∧ y ≤ hi2
    · by_cases a : lo ≤ tkV t n s ∧ tkV t n s ≤ hi
      · exact ⟨a, b⟩
      · exact absurd ((g1' b).trans (g2 a)) q
    · exact absurd (g2' b) q
  · obtain ⟨b1, b2, b3⟩ := h0 q
    obtain ⟨a1, a2, a3, -⟩ := nmF_0 b1
    have : nmV t n lo hi s = tkV t n s := if_pos ⟨a2, a3⟩
    rw [this]; exact D3 q
  · unfold num2
    rw [if_pos hk]; exact o
  · unfold num2
    rw [if_neg hk]
    exact ⟨rfl, e⟩
/-- a player, a person -/
theorem Z_oneLine {cn at9 q : Nat} {u v w : Int32} {K : Bool → pm_I → pm_L → Prop} (tz : TX12s kd mr z) (P : tpZ mi z t n) (X : tkZ mi ml z t n s) (L : ltZ mi z F s) (W : DwZ 0 mi z) (D : F.1 = 0 → DrZ mi z r ∧ gN r cn ≠ 6) (hcn : (cn = 3 ∧ at9 = 9) ∨ (cn = 4 ∧ at9 = 27)) (hq : q < 4) (hu : u = nI cn) (hv : v = nI at9) (hw : w = nI q)
    (k9 : ∀ b mi' ml', fK z mi mi' ml ml' → outZ 0 mi' ml' z t n (num2 t n 0 7 0 7 s F fun a b => addT (cellF r a b) cn at9 q a b) b → K b mi' ml') : wB l M_X12_oneLine (d + 4) [.ref z, .int u, .int v, .int w] kd mr mi ml K := by
  subst hu; subst hv; subst hw
  refine w_X12_oneLine tz (w_X12_takeCell tz (Z_num2 (k := 0) (K := K) (j := 0) (j2 := 1) (lo := 0) (hi := 7) (lo2 := 0) (hi2 := 7) (g := fun a b => addT (cellF r a b) cn at9 q a b) tz P X L rfl (by decide) rfl rfl (by decide) rfl (by decide) rfl rfl (by decide) (by decide) (fun mi1 ml1 h => ⟨fun _ => ⟨fun y => (by cases y), fun _ => h⟩, fun y => (by cases y)⟩) (fun mi1 ml1 h => ⟨fun y => (by cases y), fun _ => h⟩) (fun mi1 ml1 h => ⟨fun y => (by cases y), fun _ => ⟨fun y => (by cases y), fun _ => h⟩⟩) (fun a b mi1 ml1 a100 b100 ea eb f h0 g24 kk => ⟨fun _ => ⟨z_in (a := 0) (by omega) (by omega), w_X12_greater ⟨z_in (a := 1) (by omega) (by omega), w_X12_greater ⟨fun _ => ⟨z_in (by omega) (by omega), ?_⟩, fun y => (by cases y)⟩⟩⟩, fun y => (by cases y)⟩) k9))
  have ea' : mi1 (z + 11) (Int32.toNatClampNeg 0) = nI a := ea
  have eb' : mi1 (z + 11) (Int32.toNatClampNeg (0 + 1)) = nI b := eb
  rw [ea', eb']
  generalize hm : pm_up (pm_up mi1 z 21 (if mi1 z 21 ≤ nI a then nI a else mi1 z 21)) z 22 (if mi1 z 22 ≤ nI b then nI b else mi1 z 22) = m3
  have M0 : ∀ a, a ≠ z → m3 a = mi1 a := fun a ha => by rw [← hm, pm_up_row _ _ ha, pm_up_row _ _ ha]
  have fm : fSn z mi1 m3 ml1 ml1 := by rw [← hm]; exact (fSn.rf.uz (by omega)).uz (by omega)
  have D3 : (nmF t n 0 7 (nx t n s) (nmF t n 0 7 s F)).1 = 0 → DrZ m3 z (cellF r a b) := fun y => by
    obtain ⟨d1, d2, d3, d4⟩ := (D (h0 y).1).1.fJ f
    refine ⟨fun i hi => ?_, ?_, ?_, ?_⟩
    · rw [M0 _ (by omega), cellF_n (by omega)]; exact d1 i hi
    · rw [← hm, pm_up_j _ _ (by decide), pm_up_s, cellF_2.1, d2]; rfl
    · rw [← hm, pm_up_s, cellF_2.2, d3]; rfl
    · rw [← hm, pm_up_j _ _ (by decide), pm_up_j _ _ (by decide), d4]
      unfold cellF
      rw [up1_n _ _ (by decide), up1_n _ _ (by decide)]
  clear hm
  have w10 : m3 (z + 10) = mi (z + 10) := by rw [M0 _ (by omega), f.1 _ (by omega) (by omega)]
  have w11 : m3 (z + 11) = mi1 (z + 11) := M0 _ (by omega)
  have W3 : DwZ 0 m3 z := W.cg w10
  obtain ⟨⟨p, p6, hp⟩, hW⟩ : (∃ p, p ≤ 6 ∧ m3 (z + 10) cn = nI p) ∧ ∀ v i, DwZ 0 (pm_up (pm_up (pm_up (pm_up m3 (z + 10) (at9 + i) v) (z + 10) (at9 + 6 + i) (nI a)) (z + 10) (at9 + 12 + i) (nI b)) (z + 10) cn (nI (i + 1))) z ∨ 6 ≤ i := by
    have W3' := W3
    unfold DwZ at W3'
    rw [if_pos rfl] at W3'
    obtain ⟨⟨p1, h1, h2⟩, p2, h3, h4⟩ := W3'
    refine ⟨?_, fun v i => ?_⟩
    · rcases hcn with ⟨rfl, -⟩ | ⟨rfl, -⟩
      · exact ⟨p1, h1, h2⟩
      · exact ⟨p2, h3, h4⟩
    · rcases Nat.lt_or_ge i 6 with hi | hi
      · left
        unfold DwZ
        rw [if_pos rfl]
        rcases hcn with ⟨rfl, rfl⟩ | ⟨rfl, rfl⟩
        · refine ⟨⟨i + 1, by omega, pm_up_s _ _ _ _⟩, p2, h3, ?_⟩
          rw [pm_up_j _ _ (by omega), pm_up_j _ _ (by omega), pm_up_j _ _ (by omega), pm_up_j _ _ (by omega)]; exact h4
        · refine ⟨⟨p1, h1, ?_⟩, i + 1, by omega, pm_up_s _ _ _ _⟩
          rw [pm_up_j _ _ (by omega), pm_up_j _ _ (by omega), pm_up_j _ _ (by omega), pm_up_j _ _ (by omega)]; exact h2
      · exact Or.inr hi
  have e6 : ((6 : Int32) ≤ nI p) = (6 ≤ p) := z_le (a := 6) (by omega) (by omega)
  have i1 : nI at9 + nI p = nI (at9 + p) := nI_add _ _
  have i2 : nI at9 + 6 + nI p = nI (at9 + 6 + p) := by rw [show nI at9 + 6 = nI (at9 + 6) from nI_add at9 6, nI_add]
  have i3 : nI at9 + 12 + nI p = nI (at9 + 12 + p) := by rw [show nI at9 + 12 = nI (at9 + 12) from nI_add at9 12, nI_add]
  rw [z_cl (show cn < 2147483648 by omega), hp, e6, i1, i2, i3, z_cl (show at9 + p < 2147483648 by omega), z_cl (show at9 + 6 + p < 2147483648 by omega), z_cl (show at9 + 12 + p < 2147483648 by omega)]
  have x0 : m3 (z + 11) (Int32.toNatClampNeg 0) = nI a := by rw [w11]; exact ea
  have x1 : m3 (z + 11) (Int32.toNatClampNeg 1) = nI b := by rw [w11]; exact eb
  rw [x0, x1]
  have gp : (nmF t n 0 7 (nx t n s) (nmF t n 0 7 s F)).1 = 0 → gN (cellF r a b) cn = p := fun y => gN_of (((D3 y).1 cn (by omega)).symm.trans hp) (by omega)
  have gr : gN (cellF r a b) cn = gN r cn := cellF_g (by omega)
  refine ⟨fun g => kk m3 ml1 fm W3 fun y => ?_, fun g => ⟨z_in (by omega) (by omega), z_in (by omega) (by omega), z_in (by omega) (by omega), z_in (by omega) (by omega), z_in (by omega) (by omega), ?_⟩⟩
  · have a1 := gp y
    have a2 := (D (h0 y).1).2
    omega
  · have ec : pm_up (pm_up (pm_up m3 (z + 10) (at9 + p) (nI q)) (z + 10) (at9 + 6 + p) (nI a)) (z + 10) (at9 + 12 + p) (nI b) (z + 10) cn + 1 = nI (p + 1) := by
      rw [pm_up_j _ _ (by omega), pm_up_j _ _ (by omega), pm_up_j _ _ (by omega), hp]; exact nI_1 p
    rw [ec]
    refine kk _ _ ((((fm.up (Or.inl rfl)).up (Or.inl rfl)).up (Or.inl rfl)).up (Or.inl rfl)) ((hW (nI q) p).resolve_right (by omega)) fun y => ?_
    have Dc := D3 y
    obtain ⟨t1, t2, t3, t4, t5, t6, t7, t8⟩ := addT_at (r := cellF r a b) (k := q) (a := a) (b := b) (gp y) (by omega) hcn (by omega) (by omega) (by omega)
    obtain ⟨d1, d2, d3, d4⟩ := Dc
    refine ⟨fun i hi => ?_, ?_, ?_, ?_⟩
    · by_cases q0 : i = cn
      · subst q0; rw [pm_up_s, t2]
      · rw [pm_up_j _ _ q0]
        by_cases q3 : i = at9 + 12 + p
        · subst q3; rw [pm_up_s, t7]
        · rw [pm_up_j _ _ q3]
          by_cases q2 : i = at9 + 6 + p
          · subst q2; rw [pm_up_s, t6]
          · rw [pm_up_j _ _ q2]
            by_cases q1 : i = at9 + p
            · subst q1; rw [pm_up_s, t3]
            · rw [pm_up_j _ _ q1, t8 i q0 q1 q2 q3]; exact d1 i hi
    · rw [pm_up_row _ _ (by omega), pm_up_row _ _ (by omega), pm_up_row _ _ (by omega), pm_up_row _ _ (by omega), t8 _ (by omega) (by omega) (by omega) (by omega)]; exact d2
    · rw [pm_up_row _ _ (by omega), pm_up_row _ _ (by omega), pm_up_row _ _ (by omega), pm_up_row _ _ (by omega), t8 _ (by omega) (by omega) (by omega) (by omega)]; exact d3
    · rw [pm_up_row _ _ (by omega), pm_up_row _ _ (by omega), pm_up_row _ _ (by omega), pm_up_row _ _ (by omega), t8 _ (by omega) (by omega) (by omega) (by omega)]; exact d4
theorem Z_wallLine {K : Bool → pm_I → pm_L → Prop} (tz : TX12s kd mr z) (P : tpZ mi z t n) (X : tkZ mi ml z t n s) (L : ltZ mi z F s) (W : DwZ 0 mi z) (D : F.1 = 0 → DrZ mi z r ∧ prC r) (g1 : mi z 24 = 1)
    (k9 : ∀ b mi' ml', fK z mi mi' ml ml' → outZ 0 mi' ml' z t n (num2 t n 0 7 0 7 s F fun a b => wallR (cellF r a b) a b) b → K b mi' ml') : wB l M_X12_wallLine (d + 4) [.ref z] kd mr mi ml K := by
  refine w_X12_wallLine tz (w_X12_takeCell tz (Z_num2 (k := 0) (K := K) (j := 0) (j2 := 1) (lo := 0) (hi := 7) (lo2 := 0) (hi2 := 7) (g := fun a b => wallR (cellF r a b) a b) tz P X L rfl (by decide) rfl rfl (by decide) rfl (by decide) rfl rfl (by decide) (by decide) (fun mi1 ml1 h => ⟨fun _ => ⟨fun y => (by cases y), fun _ => h⟩, fun y => (by cases y)⟩) (fun mi1 ml1 h => ⟨fun y => (by cases y), fun _ => h⟩) (fun mi1 ml1 h => ⟨fun y => (by cases y), fun _ => ⟨fun y => (by cases y), fun _ => h⟩⟩) (fun a b mi1 ml1 a100 b100 ea eb f h0 g24 kk => ⟨fun _ => ⟨z_in (a := 0) (by omega) (by omega), w_X12_greater ⟨z_in (a := 1) (by omega) (by omega), w_X12_greater ⟨fun _ => ?_, fun y => (by cases y)⟩⟩⟩, fun y => (by cases y)⟩) k9))
  have ea' : mi1 (z + 11) (Int32.toNatClampNeg 0) = nI a := ea
  have eb' : mi1 (z + 11) (Int32.toNatClampNeg (0 + 1)) = nI b := eb
  rw [ea', eb']
  generalize hm : pm_up (pm_up mi1 z 21 (if mi1 z 21 ≤ nI a then nI a else mi1 z 21)) z 22 (if mi1 z 22 ≤ nI b then nI b else mi1 z 22) = m3
  have M0 : ∀ a, a ≠ z → m3 a = mi1 a := fun a ha => by rw [← hm, pm_up_row _ _ ha, pm_up_row _ _ ha]
  have M24 : m3 z 24 = mi1 z 24 := by rw [← hm, pm_up_j _ _ (by decide), pm_up_j _ _ (by decide)]
  have fm : fSn z mi1 m3 ml1 ml1 := by rw [← hm]; exact (fSn.rf.uz (by omega)).uz (by omega)
  have D3 : (nmF t n 0 7 (nx t n s) (nmF t n 0 7 s F)).1 = 0 → DrZ m3 z (cellF r a b) := fun y => by
    obtain ⟨d1, d2, d3, d4⟩ := (D (h0 y).1).1.fJ f
    refine ⟨fun i hi => ?_, ?_, ?_, ?_⟩
    · rw [M0 _ (by omega), cellF_n (by omega)]; exact d1 i hi
    · rw [← hm, pm_up_j _ _ (by decide), pm_up_s, cellF_2.1, d2]; rfl
    · rw [← hm, pm_up_s, cellF_2.2, d3]; rfl
    · rw [← hm, pm_up_j _ _ (by decide), pm_up_j _ _ (by decide), d4]
      unfold cellF
      rw [up1_n _ _ (by decide), up1_n _ _ (by decide)]
  clear hm
  have w10 : m3 (z + 10) = mi (z + 10) := by rw [M0 _ (by omega), f.1 _ (by omega) (by omega)]
  have w11 : m3 (z + 11) = mi1 (z + 11) := M0 _ (by omega)
  have W3 : DwZ 0 m3 z := W.cg w10
  have x0 : m3 (z + 11) (Int32.toNatClampNeg 0) = nI a := by rw [w11]; exact ea
  have x1 : m3 (z + 11) (Int32.toNatClampNeg 1) = nI b := by rw [w11]; exact eb
  rw [M24, x0, x1]
  refine ⟨fun g => kk m3 ml1 fm W3 fun y => ?_, fun g => ?_⟩
  · have := (h0 y).2.2.2.2.2
    rw [g, g1] at this
    exact absurd this (by decide)
  · obtain ⟨⟨-, a7⟩, -, b7⟩ := g24 g
    have i1 : (45 : Int32) + nI b = nI (45 + b) := nI_add 45 b
    rw [i1, z_cl (show 45 + b < 2147483648 by omega)]
    refine ⟨z_in (by omega) (by omega), z_in (by omega) (by omega), kk _ _ (fm.up (Or.inl rfl)) (W3.up (fun _ => by omega) (fun y => by omega) (fun y => absurd rfl y)) fun y => ?_⟩
    have pr := (D (h0 y).1).2
    have e1 := (pr.1 (45 + b) (by omega)).1
    have ev : m3 (z + 10) (45 + b) = nI (gN r (45 + b)) := by rw [(D3 y).1 _ (by omega), cellF_n (by omega)]; exact e1
    have es : ((1 : Int32) <<< (nI a &&& 31)) = nI (2 ^ a) := z_shl a (by omega)
    rw [ev, es, z_or]
    have := (D3 y).up (i := 45 + b) (x := nI (gN r (45 + b) ||| 2 ^ a)) (by omega)
    have eg : gN (cellF r a b) (45 + b) = gN r (45 + b) := cellF_g (by omega)
    unfold wallR
    rw [eg]; exact this
theorem Z_sizeLine {K : Bool → pm_I → pm_L → Prop} (tz : TX12s kd mr z) (P : tpZ mi z t n) (X : tkZ mi ml z t n s) (L : ltZ mi z F s) (W : DwZ 0 mi z) (D : F.1 = 0 → DrZ mi z r)
    (k9 : ∀ b mi' ml', fK z mi mi' ml ml' → outZ 0 mi' ml' z t n (num2 t n 2 8 2 8 s F fun a b => up1 (up1 r 0 (nI a)) 1 (nI b)) b → K b mi' ml') : wB l M_X12_sizeLine (d + 3) [.ref z] kd mr mi ml K := by
  refine w_X12_sizeLine tz (Z_num2 (k := 0) (K := K) (j := 0) (j2 := 1) (lo := 2) (hi := 8) (lo2 := 2) (hi2 := 8) (g := fun a b => up1 (up1 r 0 (nI a)) 1 (nI b)) tz P X L rfl (by decide) rfl rfl (by decide) rfl (by decide) rfl rfl (by decide) (by decide) (fun mi1 ml1 h => ⟨fun _ => h, fun y => (by cases y)⟩) (fun mi1 ml1 h => ⟨fun y => (by cases y), fun _ => h⟩) (fun mi1 ml1 h => ⟨fun y => (by cases y), fun _ => h⟩) (fun a b mi1 ml1 a100 b100 ea eb f h0 g24 kk => ⟨fun _ => ?_, fun y => (by cases y)⟩) k9)
  have ea' : mi1 (z + 11) (Int32.toNatClampNeg 0) = nI a := ea
  have eb' : mi1 (z + 11) (Int32.toNatClampNeg 1) = nI b := eb
  rw [ea', eb']
  have W1 : DwZ 0 mi1 z := W.cg (f.1 _ (by omega) (by omega))
  exact kk _ _ ((fSn.rf.up (Or.inl rfl)).up (Or.inl rfl)) ((W1.up (fun _ => by decide) (fun y => by omega) (fun y => absurd rfl y)).up (fun _ => by decide) (fun y => by omega) (fun y => absurd rfl y)) fun y => (((D (h0 y).1).fJ f).up (by decide)).up (by decide)
theorem Z_windLine {K : Bool → pm_I → pm_L → Prop} (tz : TX12s kd mr z) (P : tpZ mi z t n) (X : tkZ mi ml z t n s) (L : ltZ mi z F s) (W : DwZ 0 mi z) (D : F.1 = 0 → DrZ mi z r)
    (k9 : ∀ b mi' ml', fK z mi mi' ml ml' → outZ 0 mi' ml' z t n (num1 t n 0 4 s F fun a => up1 r 2 (nI a)) b → K b mi' ml') : wB l M_X12_windLine (d + 3) [.ref z] kd mr mi ml K := by
  refine w_X12_windLine tz (Z_num1 (k := 0) (K := K) (j := 0) (lo := 0) (hi := 4) (g := fun a => up1 r 2 (nI a)) tz P X L rfl (by decide) rfl rfl (by decide) (fun mi1 ml1 h => ⟨fun y => (by cases y), fun _ => h⟩) (fun a mi1 ml1 a100 ea f h0 _ _ kk => ⟨fun _ => ?_, fun y => (by cases y)⟩) k9)
  have ea' : mi1 (z + 11) (Int32.toNatClampNeg 0) = nI a := ea
  rw [ea']
  have W1 : DwZ 0 mi1 z := W.cg (f.1 _ (by omega) (by omega))
  exact kk _ _ (fSn.rf.up (Or.inl rfl)) (W1.up (fun _ => by decide) (fun y => by omega) (fun y => absurd rfl y)) fun y => ((D (h0 y).1).fJ f).up (by decide)
theorem Z_valueLine {K : Bool → pm_I → pm_L → Prop} (tz : TX12s kd mr z) (P : tpZ mi z t n) (X : tkZ mi ml z t n s) (L : ltZ mi z F s) (W : DwZ 0 mi z) (D : F.1 = 0 → DrZ mi z r)
    (k9 : ∀ b mi' ml', fK z mi mi' ml ml' → outZ 0 mi' ml' z t n (match wdO t n 1 s with
      | none => .inl s
      | some c => num1 t n 0 9 (nx t n s) F (fun a => up1 r (5 + c) (nI a))) b → K b mi' ml') : wB l M_X12_valueLine (d + 4) [.ref z] kd mr mi ml K := by
  obtain ⟨X1, X2, X3, X4, X5, X6⟩ := id X
  have e2 : (mi z 13 = (2 : Int32)) = (tkK t n s = 1) := by
    rw [X3]; exact propext ((zk_eq _ tkK_5).2.1)
  have fail : wdO t n 1 s = none → c_X12_valueLine_19 l (d + 4) kd mr z (-1) mi ml K := fun hn => by
    rw [hn] at k9
    exact w_X12_valueLine_19 tz ⟨fun y => absurd rfl y, fun _ => w_X12_fails tz (k9 false _ _ ⟨fun a g1 _ _ => pm_up_row _ _ g1, fun _ _ => rfl, fun j g => pm_up_j _ _ (by omega)⟩ ⟨rfl, by rw [pm_up_s]; exact X1⟩)⟩
  refine w_X12_valueLine tz ?_
  rw [e2]
  refine ⟨fun g => fail (if_neg g), fun g => s_commandBy (k := 1) (wdR_of (fun _ => X5 g) fun q => absurd g q) (Or.inl rfl) rfl ?_⟩
  cases hc : wdO t n 1 s with
  | none => exact fail hc
  | some c =>
    rw [hc] at k9
    obtain ⟨c4, -⟩ := wd_le (by decide) hc
    have c4 : c < 4 := c4
    have e : tnI (some c) = nI c := if_pos c4
    rw [e]
    refine w_X12_valueLine_19 tz ⟨fun _ => s_tok (d := d + 2) tz P X (tk_lt (t := t) (by omega)) fun mi1 ml1 f1 X' => ?_, fun q => absurd q (nI_m1' (by omega))⟩
    have ns := st1 (t := t) (n := n) (s := s) (by omega)
    have L1 : ltZ mi1 z F (nx t n s) := (L.cg (f1.2.1 17 (by omega)) (f1.2.1 18 (by omega))).mono (by omega)
    refine Z_num1 (d := d + 1) (k := 0) (K := K) (j := 0) (lo := 0) (hi := 9) (g := fun a => up1 r (5 + c) (nI a)) tz (P.fT f1) X' L1 rfl (by decide) rfl rfl (by decide) (fun mi1 ml1 h => ⟨fun y => (by cases y), fun _ => h⟩) (fun a mi2 ml2 a100 ea f h0 _ _ kk => ⟨fun _ => ?_, fun y => (by cases y)⟩) fun b mi' ml' f o => k9 b mi' ml' (f1.K.tr f) o
    have ea' : mi2 (z + 11) (Int32.toNatClampNeg 0) = nI a := ea
    have i1 : (5 : Int32) + nI c = nI (5 + c) := nI_add 5 c
    rw [ea', i1, z_cl (by omega)]
    have W1 : DwZ 0 mi2 z := W.cg (by rw [f.1 _ (by omega) (by omega), f1.1 _ (by omega)])
    exact ⟨z_in (by omega) (by omega), kk _ _ (fSn.rf.up (Or.inl rfl)) (W1.up (fun _ => by omega) (fun y => by omega) (fun y => absurd rfl y)) fun y => (((D (h0 y).1).fT f1).fJ f).up (by omega)⟩
end LZ
