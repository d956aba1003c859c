/-! the reference's reading: words, numbers, rows -/
/-- w is the number of the word that begins at s -/
def wdR (w : Int64) (t : Nat → Nat) (n s : Nat) : Prop := ∀ k, k < 5 → ∀ i, i < (wl k).length → (w = kc ((wl k).getD i []) ↔ wdO t n k s = some i)
theorem wdR_of {w : Int64} {t : Nat → Nat} {n s : Nat} (h1 : tkK t n s = 1 → wOK w (tkW t n s)) (h0 : tkK t n s ≠ 1 → w = 0) : wdR w t n s := by
  intro k hk i hi
  unfold wdO
  by_cases q : tkK t n s = 1
  · rw [if_pos q, h1 q k hk i hi]
    constructor
    · intro h; exact ixF_of hk hi h
    · intro h; exact (ixF_some h).2
  · rw [if_neg q, h0 q, wOK_0 k hk i hi]
    constructor
    · intro h
      have := (wl_dig k hk i hi).2.1
      rw [h] at this
      exact absurd this (by decide)
    · intro h; cases h
theorem wd_lit {w : Int64} {t : Nat → Nat} {n s : Nat} (H : wdR w t n s) (k i : Nat) (c : Int64) (hk : k < 5) (hi : i < (wl k).length) (hc : kc ((wl k).getD i []) = c) : lg_cmp w c = 0 ↔ wdO t n k s = some i := by
  rw [lg_eq, ← hc]; exact H k hk i hi
def tnI (o : Option Nat) : Int32 := match o with
  | none => -1
  | some w => if w < 4 then nI w else -1
def kdI (o : Option Nat) : Int32 := match o with
  | none => -1
  | some w => if 4 ≤ w ∧ w < 8 then nI (w - 4) else -1
def ddI (o : Option Nat) : Int32 := match o with
  | none => -1
  | some w => nI w
theorem tnI_no {o : Option Nat} (h0 : ¬ o = some 0) (h1 : ¬ o = some 1) (h2 : ¬ o = some 2) (h3 : ¬ o = some 3) : tnI o = -1 := by
  cases o with
  | none => rfl
  | some w =>
    show (if w < 4 then nI w else -1) = -1
    rw [if_neg]
    intro z
    rcases (show w = 0 ∨ w = 1 ∨ w = 2 ∨ w = 3 by omega) with rfl | rfl | rfl | rfl
    · exact h0 rfl
    · exact h1 rfl
    · exact h2 rfl
    · exact h3 rfl
theorem kdI_no {o : Option Nat} (h0 : ¬ o = some 4) (h1 : ¬ o = some 5) (h2 : ¬ o = some 6) (h3 : ¬ o = some 7) : kdI o = -1 := by
  cases o with
  | none => rfl
  | some w =>
    show (if 4 ≤ w ∧ w < 8 then nI (w - 4) else -1) = -1
    rw [if_neg]
    intro z
    rcases (show w = 4 ∨ w = 5 ∨ w = 6 ∨ w = 7 by omega) with rfl | rfl | rfl | rfl
    · exact h0 rfl
    · exact h1 rfl
    · exact h2 rfl
    · exact h3 rfl
section WZ
variable {l : Launch} {d z k : Nat} {kd : pm_K} {mr : pm_R} {mi : pm_I} {ml : pm_L} {t : Nat → Nat} {n s p : Nat} {F : Nat × Nat} {r : Nat → Int32} {w : Int64} {o : Option Nat}
theorem s_tuneBy {K : Int32 → pm_I → pm_L → Prop} (H : wdR w t n s) (ho : wdO t n 0 s = o) (k9 : K (tnI o) mi ml) : wI l M_X12_tuneBy d [.long w] kd mr mi ml K := by
  have e0 := wd_lit H 0 0 112602841902181 (by decide) (by decide) (by decide +kernel)
  have e1 := wd_lit H 0 1 439906301029 (by decide) (by decide) (by decide +kernel)
  have e2 := wd_lit H 0 2 1685222765 (by decide) (by decide) (by decide +kernel)
  have e3 := wd_lit H 0 3 1752134254 (by decide) (by decide) (by decide +kernel)
  rw [ho] at e0 e1 e2 e3
  refine w_X12_tuneBy ⟨fun h0 => ⟨fun h1 => ?_, fun h1 => ?_⟩, fun h0 => ?_⟩
  · by_cases h2 : lg_cmp w 1685222765 = 0
    · rw [if_pos h2]; rw [e2.mp h2] at k9; exact k9
    · rw [if_neg h2]
      by_cases h3 : lg_cmp w 1752134254 = 0
      · rw [if_pos h3]; rw [e3.mp h3] at k9; exact k9
      · rw [if_neg h3]
        rw [tnI_no (fun q => h0 (e0.mpr q)) (fun q => h1 (e1.mpr q)) (fun q => h2 (e2.mpr q)) (fun q => h3 (e3.mpr q))] at k9; exact k9
  · rw [e1.mp h1] at k9; exact k9
  · rw [e0.mp h0] at k9; exact k9
theorem s_kindBy {K : Int32 → pm_I → pm_L → Prop} (H : wdR w t n s) (ho : wdO t n 0 s = o) (k9 : K (kdI o) mi ml) : wI l M_X12_kindBy d [.long w] kd mr mi ml K := by
  have e0 := wd_lit H 0 4 27981971401106798 (by decide) (by decide) (by decide +kernel)
  have e1 := wd_lit H 0 5 499967944038 (by decide) (by decide) (by decide +kernel)
  have e2 := wd_lit H 0 6 426953501796 (by decide) (by decide) (by decide +kernel)
  have e3 := wd_lit H 0 7 1684365670 (by decide) (by decide) (by decide +kernel)
  rw [ho] at e0 e1 e2 e3
  refine w_X12_kindBy ⟨fun h0 => ⟨fun h1 => ?_, fun h1 => ?_⟩, fun h0 => ?_⟩
  · by_cases h2 : lg_cmp w 426953501796 = 0
    · rw [if_pos h2]; rw [e2.mp h2] at k9; exact k9
    · rw [if_neg h2]
      by_cases h3 : lg_cmp w 1684365670 = 0
      · rw [if_pos h3]; rw [e3.mp h3] at k9; exact k9
      · rw [if_neg h3]
        rw [kdI_no (fun q => h0 (e0.mpr q)) (fun q => h1 (e1.mpr q)) (fun q => h2 (e2.mpr q)) (fun q => h3 (e3.mpr q))] at k9; exact k9
  · rw [e1.mp h1] at k9; exact k9
  · rw [e0.mp h0] at k9; exact k9
theorem s_commandBy {K : Int32 → pm_I → pm_L → Prop} (H : wdR w t n s) (hk : k = 1 ∨ k = 2) (ho : wdO t n k s = o) (k9 : K (tnI o) mi ml) : wI l M_X12_commandBy d [.long w] kd mr mi ml K := by
  have e0 : lg_cmp w 495873781348 = 0 ↔ wdO t n k s = some 0 := by
    rcases hk with rfl | rfl
    · exact wd_lit H 1 0 495873781348 (by decide) (by decide) (by decide +kernel)
    · exact wd_lit H 2 0 495873781348 (by decide) (by decide) (by decide +kernel)
  have e1 : lg_cmp w 1718773093 = 0 ↔ wdO t n k s = some 1 := by
    rcases hk with rfl | rfl
    · exact wd_lit H 1 1 1718773093 (by decide) (by decide) (by decide +kernel)
    · exact wd_lit H 2 1 1718773093 (by decide) (by decide) (by decide +kernel)
  have e2 : lg_cmp w 1952803948 = 0 ↔ wdO t n k s = some 2 := by
    rcases hk with rfl | rfl
    · exact wd_lit H 1 2 1952803948 (by decide) (by decide) (by decide +kernel)
    · exact wd_lit H 2 2 1952803948 (by decide) (by decide) (by decide +kernel)
  have e3 : lg_cmp w 469786321768 = 0 ↔ wdO t n k s = some 3 := by
    rcases hk with rfl | rfl
    · exact wd_lit H 1 3 469786321768 (by decide) (by decide) (by decide +kernel)
    · exact wd_lit H 2 3 469786321768 (by decide) (by decide) (by decide +kernel)
  rw [ho] at e0 e1 e2 e3
  refine w_X12_commandBy ⟨fun h0 => ⟨fun h1 => ?_, fun h1 => ?_⟩, fun h0 => ?_⟩
  · by_cases h2 : lg_cmp w 1952803948 = 0
    · rw [if_pos h2]; rw [e2.mp h2] at k9; exact k9
    · rw [if_neg h2]
      by_cases h3 : lg_cmp w 469786321768 = 0
      · rw [if_pos h3]; rw [e3.mp h3] at k9; exact k9
      · rw [if_neg h3]
        rw [tnI_no (fun q => h0 (e0.mpr q)) (fun q => h1 (e1.mpr q)) (fun q => h2 (e2.mpr q)) (fun q => h3 (e3.mpr q))] at k9; exact k9
  · rw [e1.mp h1] at k9; exact k9
  · rw [e0.mp h0] at k9; exact k9
theorem s_deedBy {K : Int32 → pm_I → pm_L → Prop} (H : wdR w t n s) (ho : wdO t n 2 s = o) (k9 : K (ddI o) mi ml) : wI l M_X12_deedBy (d + 1) [.long w] kd mr mi ml K := by
  have e4 := wd_lit H 2 4 2002873451 (by decide) (by decide) (by decide +kernel)
  have e5 := wd_lit H 2 5 26479 (by decide) (by decide) (by decide +kernel)
  have e6 := wd_lit H 2 6 1919251316 (by decide) (by decide) (by decide +kernel)
  have o7 : ∀ v, o = some v → v < 7 := fun v hv => (wd_le (by decide) (ho.trans hv)).1
  rw [ho] at e4 e5 e6
  refine w_X12_deedBy ⟨fun h4 => ⟨fun h5 => ⟨fun h6 => s_commandBy H (Or.inr rfl) ho ?_, fun h6 => ?_⟩, fun h5 => ?_⟩, fun h4 => ?_⟩
  · have h4 : ¬ o = some 4 := fun q => h4 (e4.mpr q)
    have h5 : ¬ o = some 5 := fun q => h5 (e5.mpr q)
    have h6 : ¬ o = some 6 := fun q => h6 (e6.mpr q)
    cases o with
    | none => exact k9
    | some v =>
      have v7 := o7 v rfl
      have n4 : v ≠ 4 := fun q => h4 (by rw [q])
      have n5 : v ≠ 5 := fun q => h5 (by rw [q])
      have n6 : v ≠ 6 := fun q => h6 (by rw [q])
      have e : tnI (some v) = ddI (some v) := by
        show (if v < 4 then nI v else -1) = nI v
        rw [if_pos (by omega)]
      rw [e]; exact k9
  · rw [e6.mp h6] at k9; exact k9
  · rw [e5.mp h5] at k9; exact k9
  · rw [e4.mp h4] at k9; exact k9
/-! FAULTS, tokens, numbers -/
def ltZ (mi : pm_I) (z : Nat) (F : Nat × Nat) (b : Nat) : Prop := mi z 17 = nI F.1 ∧ F.1 ≠ 1 ∧ F.1 < 6 ∧ (F.1 ≠ 0 → mi z 18 = nI F.2 ∧ F.2 < b)
theorem ltZ.mono {b b' : Nat} (L : ltZ mi z F b) (h : b ≤ b') : ltZ mi z F b' := ⟨L.1, L.2.1, L.2.2.1, fun q => ⟨(L.2.2.2 q).1, Nat.lt_of_lt_of_le (L.2.2.2 q).2 h⟩⟩
theorem ltZ.cg {b : Nat} {mi' : pm_I} (L : ltZ mi z F b) (h1 : mi' z 17 = mi z 17) (h2 : mi' z 18 = mi z 18) : ltZ mi' z F b := by
  unfold ltZ at L ⊢; rw [h1, h2]; exact L
theorem tpZ.cg {mi' : pm_I} (P : tpZ mi z t n) (h1 : mi' z 11 = mi z 11) (h2 : mi' (z + 1) = mi (z + 1)) : tpZ mi' z t n := by
  unfold tpZ at P ⊢; rw [h1, h2]; exact P
theorem tkZ.cg {mi' : pm_I} {ml' : pm_L} (X : tkZ mi ml z t n s) (h : ∀ j, 10 ≤ j → j ≤ 14 → j ≠ 11 → mi' z j = mi z j) (hl : ml' z = ml z) : tkZ mi' ml' z t n s := by
  unfold tkZ at X ⊢; rw [h 12 (by omega) (by omega) (by omega), h 10 (by omega) (by omega) (by omega), h 13 (by omega) (by omega) (by omega), h 14 (by omega) (by omega) (by omega), hl]; exact X
/-- only slots 17, 18 of z have changed -/
def fV (z : Nat) (mi mi' : pm_I) : Prop := (∀ a, a ≠ z → mi' a = mi a) ∧ ∀ j, j ≠ 17 → j ≠ 18 → mi' z j = mi z j
theorem fV.rf : fV z mi mi := ⟨fun _ _ => rfl, fun _ _ _ => rfl⟩
theorem s_later {f : Nat} {u v : Int32} {K : pm_I → pm_L → Prop} (tz : TX12s kd mr z) (L : ltZ mi z F p) (hf : f ≠ 0 ∧ f ≠ 1 ∧ f < 6) (hu : u = nI f) (hv : v = nI p) (hp : p ≤ 600)
    (k9 : ∀ mi', fV z mi mi' → ltZ mi' z (noteF f p F) (p + 1) → K mi' ml) : wV l M_X12_later d [.ref z, .int u, .int v] kd mr mi ml K := by
  subst hu; subst hv
  obtain ⟨L1, L2, L3, L4⟩ := id L
  have e0 : (mi z 17 = (0 : Int32)) = (F.1 = 0) := by rw [L1]; exact z_eq (b := 0) (by omega) (by omega)
  refine w_X12_later tz ?_
  rw [e0]
  refine ⟨fun g => k9 _ ⟨fun a ha => by rw [pm_up_row _ _ ha, pm_up_row _ _ ha], fun j h1 h2 => by rw [pm_up_j _ _ h2, pm_up_j _ _ h1]⟩ ?_, fun g => ?_⟩
  · have eF : noteF f p F = (f, p) := if_pos g
    rw [eF]
    refine ⟨?_, hf.2.1, hf.2.2, fun _ => ⟨?_, by show p < p + 1; omega⟩⟩
    · rw [pm_up_j _ _ (by decide), pm_up_s]
    · rw [pm_up_s]
  · obtain ⟨a1, a2⟩ := L4 g
    rw [a1, z_lt (by omega) (by omega), z_eq (by omega) (by omega)]
    refine ⟨fun q => by omega, fun _ => ⟨fun _ => k9 mi fV.rf ?_, fun q => by omega⟩⟩
    rw [noteF_n g]
    exact L.mono (by omega)
theorem s_tok {K : pm_I → pm_L → Prop} (tz : TX12s kd mr z) (P : tpZ mi z t n) (X : tkZ mi ml z t n s) (hs : s < n) (k9 : ∀ mi' ml', fT z mi mi' ml ml' → tkZ mi' ml' z t n (nx t n s) → K mi' ml') : wV l M_X12_token (d + 1) [.ref z] kd mr mi ml K :=
  s_token tz P (tkE_lt hs).2 fT.rf X.2.1 fun mi' ml' f g => k9 mi' ml' f g
/-- frame of lines -/
def fK (z : Nat) (mi mi' : pm_I) (ml ml' : pm_L) : Prop := (∀ a, a ≠ z → a ≠ z + 10 → a ≠ z + 11 → mi' a = mi a) ∧ (∀ a, a ≠ z → ml' a = ml a) ∧ ∀ j, (j < 10 ∨ j = 11 ∨ 25 ≤ j) → mi' z j = mi z j
theorem fK.rf : fK z mi mi ml ml := ⟨fun _ _ _ _ => rfl, fun _ _ => rfl, fun _ _ => rfl⟩
theorem fK.tr {mi1 mi2 : pm_I} {ml1 ml2 : pm_L} (h1 : fK z mi mi1 ml ml1) (h2 : fK z mi1 mi2 ml1 ml2) : fK z mi mi2 ml ml2 := ⟨fun a g1 g2 g3 => (h2.1 a g1 g2 g3).trans (h1.1 a g1 g2 g3), fun a g => (h2.2.1 a g).trans (h1.2.1 a g), fun j g => (h2.2.2 j g).trans (h1.2.2 j g)⟩
theorem fV.K {mi' : pm_I} (f : fV z mi mi') : fK z mi mi' ml ml := ⟨fun a g1 _ _ => f.1 a g1, fun _ _ => rfl, fun j g => f.2 j (by omega) (by omega)⟩
theorem fT.K {mi' : pm_I} {ml' : pm_L} (f : fT z mi mi' ml ml') : fK z mi mi' ml ml' := ⟨fun a g1 _ _ => f.1 a g1, f.2.2, fun j g => f.2.1 j (by omega)⟩
/-- behind numbers: row 11 of read, tokens, FAULTS, good -/
def fJn (z : Nat) (Q : Nat → Prop) (mi mi' : pm_I) (ml ml' : pm_L) : Prop := (∀ a, a ≠ z → a ≠ z + 11 → mi' a = mi a) ∧ (∀ a, a ≠ z → ml' a = ml a) ∧ (∀ i, ¬ Q i → mi' (z + 11) i = mi (z + 11) i) ∧ ∀ j, (j < 10 ∨ j = 11 ∨ (19 ≤ j ∧ j ≤ 23) ∨ 25 ≤ j) → mi' z j = mi z j
theorem fJn.K {Q : Nat → Prop} {mi' : pm_I} {ml' : pm_L} (f : fJn z Q mi mi' ml ml') : fK z mi mi' ml ml' := ⟨fun a g1 _ g3 => f.1 a g1 g3, f.2.1, fun j g => f.2.2.2 j (by omega)⟩
theorem tpZ.fK {mi' : pm_I} {ml' : pm_L} (P : tpZ mi z t n) (f : fK z mi mi' ml ml') : tpZ mi' z t n := P.cg (f.2.2 11 (by omega)) (f.1 _ (by omega) (by omega) (by omega))
theorem s_takeN {j lo hi : Nat} {u v w : Int32} {K : Bool → pm_I → pm_L → Prop} (tz : TX12s kd mr z) (P : tpZ mi z t n) (X : tkZ mi ml z t n s) (L : ltZ mi z F s) (hu : u = nI j) (hj : j < 3) (hv : v = nI lo) (hw : w = nI hi) (hl : lo < 100 ∧ hi < 100)
    (kn : ∀ mi' ml', tkK t n s = 2 → tkV t n s < 100 → fJn z (fun i => i = j) mi mi' ml ml' → tkZ mi' ml' z t n (nx t n s) → ltZ mi' z (nmF t n lo hi s F) (nx t n s) → mi' (z + 11) j = nI (tkV t n s) → (lo ≤ tkV t n s ∧ tkV t n s ≤ hi → mi' z 24 = mi z 24) → (¬ (lo ≤ tkV t n s ∧ tkV t n s ≤ hi) → mi' z 24 = 0) → K true mi' ml')
    (ks : ∀ mi' ml', tkK t n s ≠ 2 → fK z mi mi' ml ml' → mi' z 16 = nI s → K false mi' ml') : wB l M_X12_take (d + 2) [.ref z, .int u, .int v, .int w] kd mr mi ml K := by
  subst hu; subst hv; subst hw
  have n600 := P.2.1
  obtain ⟨X1, X2, X3, X4, X5, X6⟩ := id X
  have e3 : (mi z 13 = (3 : Int32)) = (tkK t n s = 2) := by
    rw [X3]; exact propext ((zk_eq _ tkK_5).2.2.1)
  refine w_X12_take tz ?_
  rw [e3]
  refine ⟨fun g => ⟨z_in (by omega) (by omega), ?_⟩, fun g => w_X12_fails tz (ks _ ml g ⟨fun a g1 _ _ => pm_up_row _ _ g1, fun _ _ => rfl, fun j g => pm_up_j _ _ (by omega)⟩ (by rw [pm_up_s]; exact X1))⟩
  have v100 := tkV_100 (fun i hi => (P.2.2 i hi).2) g
  have hs : s < n := tk_lt (t := t) (n := n) (s := s) (by omega)
  have ns := st1 (t := t) (n := n) (s := s) (by omega)
  rw [X4 g, z_cl (by omega)]
  -- the number is read
  generalize hA : pm_up mi (z + 11) j (nI (tkV t n s)) = miA
  have A0 : ∀ a, a ≠ z + 11 → miA a = mi a := fun a ga => by rw [← hA, pm_up_row _ _ ga]
  have A1 : miA (z + 11) j = nI (tkV t n s) := by rw [← hA, pm_up_s]
  have A2 : ∀ i, i ≠ j → miA (z + 11) i = mi (z + 11) i := fun i gi => by rw [← hA, pm_up_j _ _ gi]
  clear hA
  have zA : miA z = mi z := A0 z (by omega)
  have tokn : ∀ (mi1 : pm_I), (∀ a, a ≠ z → mi1 a = miA a) → (∀ i, i ≠ 17 → i ≠ 18 → i ≠ 24 → mi1 z i = mi z i) → ltZ mi1 z (nmF t n lo hi s F) (nx t n s) → (lo ≤ tkV t n s ∧ tkV t n s ≤ hi → mi1 z 24 = mi z 24) → (¬ (lo ≤ tkV t n s ∧ tkV t n s ≤ hi) → mi1 z 24 = 0) → c_X12_take_49 l (d + 2) kd mr z mi1 ml K := by
    intro mi1 B0 B1 L1 g1 g2
    refine w_X12_take_49 tz (s_tok tz (P.cg (B1 11 (by omega) (by omega) (by omega)) (by rw [B0 _ (by omega), A0 _ (by omega)])) (X.cg (fun i h1 h2 _ => B1 i (by omega) (by omega) (by omega)) rfl) hs fun mi' ml' f X' => kn mi' ml' g v100 ⟨fun a h1 h2 => ?_, f.2.2, fun i hi => ?_, fun i hi => ?_⟩ X' (L1.cg (f.2.1 17 (by omega)) (f.2.1 18 (by omega))) ?_ (fun q => ?_) fun q => ?_)
    · rw [f.1 a h1, B0 a h1, A0 a h2]
    · rw [f.1 _ (by omega), B0 _ (by omega)]; exact A2 i hi
    · rw [f.2.1 i (by omega)]; exact B1 i (by omega) (by omega) (by omega)
    · rw [f.1 _ (by omega), B0 _ (by omega)]; exact A1
    · rw [f.2.1 24 (by omega)]; exact g1 q
    · rw [f.2.1 24 (by omega)]; exact g2 q
  refine w_X12_in ?_
  have l1 : (nI (tkV t n s) < nI lo) = (tkV t n s < lo) := z_lt (by omega) (by omega)
  have l2 : (nI hi < nI (tkV t n s)) = (hi < tkV t n s) := z_lt (by omega) (by omega)
  by_cases hok : lo ≤ tkV t n s ∧ tkV t n s ≤ hi
  · have eb : (!decide (nI (tkV t n s) < nI lo) && (!decide (nI hi < nI (tkV t n s)))) = true := by
      rw [decide_eq_false (show ¬ nI (tkV t n s) < nI lo by rw [l1]; omega), decide_eq_false (show ¬ nI hi < nI (tkV t n s) by rw [l2]; omega)]; rfl
    rw [eb]
    refine ⟨fun _ => tokn miA (fun _ _ => rfl) (fun i _ _ _ => by rw [zA]) ?_ (fun _ => by rw [zA]) fun q => absurd hok q, fun q => by cases q⟩
    have eF : nmF t n lo hi s F = F := if_pos hok
    rw [eF]
    exact (L.cg (by rw [zA]) (by rw [zA])).mono (by omega)
  · have eb : (!decide (nI (tkV t n s) < nI lo) && (!decide (nI hi < nI (tkV t n s)))) = false := by
      by_cases g1 : tkV t n s < lo
      · rw [decide_eq_true (show nI (tkV t n s) < nI lo by rw [l1]; exact g1)]; rfl
      · rw [decide_eq_false (show ¬ nI (tkV t n s) < nI lo by rw [l1]; exact g1), decide_eq_true (show nI hi < nI (tkV t n s) by rw [l2]; omega)]; rfl
    rw [eb]
    refine ⟨fun q => (by cases q), fun _ => ?_⟩
    have L1 : ltZ miA z F s := L.cg (by rw [zA]) (by rw [zA])
    refine s_later (f := 2) (p := s) tz L1 ⟨by decide, by decide, by decide⟩ rfl (by rw [zA]; exact X1) (by omega) fun mi1 f1 L2 => ?_
    have eF : nmF t n lo hi s F = noteF 2 s F := if_neg hok
    refine tokn _ (fun a ha => by rw [pm_up_row _ _ ha]; exact f1.1 a ha) (fun i h1 h2 h3 => by rw [pm_up_j _ _ h3, f1.2 i h1 h2, zA]) ?_ (fun q => absurd q hok) fun _ => pm_up_s _ _ _ _
    rw [eF]
    exact (L2.cg (pm_up_j _ _ (by decide)) (pm_up_j _ _ (by decide))).mono (by omega)
theorem s_fullZ {cn most c : Nat} {u v w : Int32} {K : pm_I → pm_L → Prop} (tz : TX12s kd mr z) (L : ltZ mi z F s) (hu : u = nI cn) (hv : v = nI most) (hw : w = nI s) (hcn : cn < 121) (hc : mi (z + 10) cn = nI c) (hm : most < 100) (hc9 : c < 100) (hs : s ≤ 600) (D : F.1 = 0 → r cn = nI c)
    (k9 : ∀ mi', fV z mi mi' → ltZ mi' z (fullF r cn most s F) (s + 1) → K mi' ml) : wV l M_X12_full (d + 1) [.ref z, .int u, .int v, .int w] kd mr mi ml K := by
  subst hu; subst hv; subst hw
  refine w_X12_full tz ⟨z_in hcn (by omega), ?_⟩
  rw [z_cl (by omega), hc, z_eq (by omega) (by omega)]
  refine ⟨fun g => k9 mi fV.rf ?_, fun g => s_later (f := 3) (p := s) tz L ⟨by decide, by decide, by decide⟩ rfl rfl hs fun mi' f L' => k9 mi' f ?_⟩
  · by_cases h0 : F.1 = 0
    · have : gN r cn = c := gN_of (D h0) (by omega)
      unfold fullF; rw [this, if_neg g]; exact L.mono (by omega)
    · rw [fullF_n h0]; exact L.mono (by omega)
  · by_cases h0 : F.1 = 0
    · have : gN r cn = c := gN_of (D h0) (by omega)
      unfold fullF; rw [this, if_pos g]; exact L'
    · rw [fullF_n h0]
      rw [noteF_n h0] at L'; exact L'
theorem s_keepZ {cn fr most c : Nat} {u v w x y x3 : Int32} {K : pm_I → pm_L → Prop} (tz : TX12s kd mr z) (hu : u = nI cn) (hv : v = nI fr) (hw : w = nI most) (hcf : cn < fr) (hfm : fr + 3 * most ≤ 121) (hc : mi (z + 10) cn = nI c) (hcm : c ≤ most) (h0 : mi (z + 11) 0 = x) (h1 : mi (z + 11) 1 = y) (h2 : mi (z + 11) 2 = x3)
    (k9 : ∀ mi', (∀ a, a ≠ z + 10 → mi' a = mi a) → (∃ c', c' ≤ most ∧ mi' (z + 10) cn = nI c') → (∀ r, (∀ i, i < 121 → mi (z + 10) i = r i) → ∀ i, i < 121 → mi' (z + 10) i = keepR r cn fr most x y x3 i) → K mi' ml) : wV l M_X12_keep d [.ref z, .int u, .int v, .int w] kd mr mi ml K := by
  subst hu; subst hv; subst hw
  refine w_X12_keep tz ⟨z_in (by omega) (by omega), ?_⟩
  rw [z_cl (by omega), hc, z_eq (by omega) (by omega)]
  have gc : ∀ r : Nat → Int32, (∀ i, i < 121 → mi (z + 10) i = r i) → gN r cn = c := fun r hr => gN_of ((hr cn (by omega)).symm.trans hc) (by omega)
  refine ⟨fun g => ?_, fun g => k9 mi (fun _ _ => rfl) ⟨c, hcm, hc⟩ fun r hr i hi => ?_⟩
  · have e3 : ∀ j, j < 3 → nI fr + (3 : Int32) * nI c + nI j = nI (fr + 3 * c + j) := fun j _ => by
      rw [show (3 : Int32) * nI c = nI (3 * c) from z_mul 3 c, nI_add, nI_add]
    refine w_X12_keep_18 tz ⟨fun q => absurd q (by decide), fun _ => ⟨z_in (a := 0) (by omega) (by omega), ?_⟩⟩
    rw [show (nI fr + (3 : Int32) * nI c + 0 : Int32) = nI (fr + 3 * c + 0) from e3 0 (by omega)]
    refine ⟨z_in (by omega) (by omega), ?_⟩
    rw [z_cl (by omega), show ((0 : Int32) + 1) = 1 from rfl]
    refine w_X12_keep_18 tz ⟨fun q => absurd q (by decide), fun _ => ⟨z_in (a := 1) (by omega) (by omega), ?_⟩⟩
    rw [show (nI fr + (3 : Int32) * nI c + 1 : Int32) = nI (fr + 3 * c + 1) from e3 1 (by omega)]
    refine ⟨z_in (by omega) (by omega), ?_⟩
    rw [z_cl (by omega), show ((1 : Int32) + 1) = 2 from rfl]
    refine w_X12_keep_18 tz ⟨fun q => absurd q (by decide), fun _ => ⟨z_in (a := 2) (by omega) (by omega), ?_⟩⟩
    rw [show (nI fr + (3 : Int32) * nI c + 2 : Int32) = nI (fr + 3 * c + 2) from e3 2 (by omega)]
    refine ⟨z_in (by omega) (by omega), ?_⟩
    rw [z_cl (by omega), show ((2 : Int32) + 1) = 3 from rfl]
    refine w_X12_keep_18 tz ⟨fun _ => ⟨z_in (by omega) (by omega), z_in (by omega) (by omega), ?_⟩, fun q => absurd (by decide) q⟩
    rw [z_cl (by omega), show Int32.toNatClampNeg 0 = 0 from rfl, show Int32.toNatClampNeg 1 = 1 from rfl, show Int32.toNatClampNeg 2 = 2 from rfl]
    have w1 : ∀ (f : pm_I) (b : Nat) (v : Int32), pm_up f (z + 10) b v (z + 11) = f (z + 11) := fun f b v => pm_up_row _ _ (by omega)
    simp only [w1, h0, h1, h2]
    have ec : pm_up (pm_up (pm_up mi (z + 10) (fr + 3 * c + 0) x) (z + 10) (fr + 3 * c + 1) y) (z + 10) (fr + 3 * c + 2) x3 (z + 10) cn + 1 = nI (c + 1) := by
      rw [pm_up_j _ _ (by omega), pm_up_j _ _ (by omega), pm_up_j _ _ (by omega), hc]; exact nI_1 c
    rw [ec]
    refine k9 _ (fun a ha => by rw [pm_up_row _ _ ha, pm_up_row _ _ ha, pm_up_row _ _ ha, pm_up_row _ _ ha]) ⟨c + 1, by omega, pm_up_s _ _ _ _⟩ fun r hr i hi => ?_
    obtain ⟨a1, a2, a3, a4, a5, a6⟩ := keepR_at (r := r) (cn := cn) (fr := fr) (most := most) (x := x) (y := y) (z := x3) (gc r hr) g hcf (by omega)
    by_cases q0 : i = cn
    · subst q0; rw [pm_up_s, a1]
    · rw [pm_up_j _ _ q0]
      by_cases q3 : i = fr + 3 * c + 2
      · subst q3; rw [pm_up_s, a5]
      · rw [pm_up_j _ _ q3]
        by_cases q2 : i = fr + 3 * c + 1
        · subst q2; rw [pm_up_s, a4]
        · rw [pm_up_j _ _ q2]
          by_cases q1 : i = fr + 3 * c
          · subst q1; rw [show fr + 3 * c + 0 = fr + 3 * c from rfl, pm_up_s, a3]
          · rw [show fr + 3 * c + 0 = fr + 3 * c from rfl, pm_up_j _ _ q1, a6 i q0 q1 q2 q3]; exact hr i hi
  · have e : keepR r cn fr most x y x3 = r := by unfold keepR; rw [gc r hr, if_pos g]
    rw [e]; exact hr i hi
end WZ
