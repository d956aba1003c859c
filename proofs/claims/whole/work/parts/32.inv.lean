/-! what stands between calls: class and reference tied -/
def bC (v : Int32) : Prop := v.toInt8.toInt32 = v
def tP (mi : pm_I) (T z t : Nat) : Prop := ∃ n, n ≤ 600 ∧ mi T 1 = nI n ∧ mi (z + 2) t = nI n ∧ (∀ i, i < 600 → mi (T + 1) i = mi (z + 1) (600 * t + i) ∧ bC (mi (T + 1) i)) ∧ mi T 2 = mi (z + 3) t ∧ mi T 3 = mi (z + 4) t
/-- a night's row is in order -/
def okN (q : Nat → Int32) : Prop := gN q 0 ≤ 40 ∧ ∀ i, i < gN q 0 → ∃ a, q (1 + 3 * i) = nI a ∧ ((a = 6 ∧ q (2 + 3 * i) = -1 ∧ q (3 + 3 * i) = -1) ∨ (a < 3 ∧ q (3 + 3 * i) = -1 ∧ ∃ p, p < 6 ∧ q (2 + 3 * i) = nI p) ∨ (3 ≤ a ∧ a < 6 ∧ ∃ p w, p < 6 ∧ w < 4 ∧ q (2 + 3 * i) = nI p ∧ q (3 + 3 * i) = nI w))
/-- a sighting's -/
def okS (q : Nat → Int32) : Prop := gN q 0 ≤ 10 ∧ ∀ i, i < gN q 0 → ∃ a x y, a < 2 ∧ x < 8 ∧ y < 8 ∧ q (1 + 3 * i) = nI a ∧ q (2 + 3 * i) = nI x ∧ q (3 + 3 * i) = nI y
/-- a trial's -/
def okT (q : Nat → Int32) : Prop := gN q 2 ≤ 12 ∧ q 0 = nI (gN q 0) ∧ 1 ≤ gN q 0 ∧ gN q 0 ≤ 8 ∧ (q 1 = -1 ∨ (q 1 = nI (gN q 1) ∧ gN q 1 ≤ 8)) ∧ ∀ i, i < gN q 2 → ∃ a b c, a < 2 ∧ b < gN q 0 ∧ c < gN q 0 ∧ q (3 + 3 * i) = nI a ∧ q (4 + 3 * i) = nI b ∧ q (5 + 3 * i) = nI c
def tT (mi : pm_I) (T z t m : Nat) : Prop := m ≤ 2 ∧ mi (T + 2) 2 = nI m ∧ mi (z + 5) (4 * t + 2) = nI m ∧ ∀ k, k < m → okT (fun j => mi (z + 8) (78 * t + 39 * k + j)) ∧ mi (T + 17 + 19 * k) 0 = mi (z + 8) (78 * t + 39 * k) ∧ mi (T + 17 + 19 * k) 1 = mi (z + 8) (78 * t + 39 * k + 1) ∧ RR mi (T + 17 + 19 * k + 1) 2 (fun j => mi (z + 8) (78 * t + 39 * k + j))
def tN (mi : pm_I) (T z t m : Nat) : Prop := tRW mi T z t m 1 13 (z + 7) 121 ∧ ∀ k, k < m → okN (fun j => mi (z + 7) (2 * 121 * t + 121 * k + j))
def tS (mi : pm_I) (T z t m : Nat) : Prop := tRW mi T z t m 3 22 (z + 9) 31 ∧ ∀ k, k < m → okS (fun j => mi (z + 9) (2 * 31 * t + 31 * k + j))
def tI (mi : pm_I) (ml : pm_L) (T z t : Nat) : Prop := tP mi T z t ∧ (∃ m, tC mi ml T z t m) ∧ (∃ m, tN mi T z t m) ∧ (∃ m, tT mi T z t m) ∧ ∃ m, tS mi T z t m
/-- the rows of a Told and of the reference's told are the same -/
def smT (T z : Nat) (mi mi' : pm_I) (ml ml' : pm_L) : Prop := ∀ a, ((T ≤ a ∧ a ≤ T + 44) ∨ (z + 1 ≤ a ∧ a ≤ z + 9)) → mi' a = mi a ∧ ml' a = ml a
section SAME
variable {T z t m o c0 : Nat} {mi mi' : pm_I} {ml ml' : pm_L} {q : Nat → Int32}
theorem RR.same (h : RR mi o c0 q) (h0 : mi' o = mi o) (h1 : mi' (o + 1) = mi (o + 1)) (h2 : mi' (o + 2) = mi (o + 2)) (h3 : mi' (o + 3) = mi (o + 3)) : RR mi' o c0 q := by
  unfold RR at h ⊢; rw [h0, h1, h2, h3]; exact h
theorem tP.same (h : tP mi T z t) (s : smT T z mi mi' ml ml') : tP mi' T z t := by
  unfold tP at h ⊢
  rw [(s T (by omega)).1, (s (T + 1) (by omega)).1, (s (z + 1) (by omega)).1, (s (z + 2) (by omega)).1, (s (z + 3) (by omega)).1, (s (z + 4) (by omega)).1]
  exact h
theorem tC.same (h : tC mi ml T z t m) (s : smT T z mi mi' ml ml') : tC mi' ml' T z t m := by
  unfold tC at h ⊢
  rw [(s (T + 2) (by omega)).1, (s (z + 5) (by omega)).1, (s (z + 6) (by omega)).1]
  refine ⟨h.1, h.2.1, h.2.2.1, fun k hk => ⟨(h.2.2.2 k hk).1, (h.2.2.2 k hk).2.same (fun a h1 h2 => ?_) ?_⟩⟩
  · have := h.1; exact (s a (by omega)).1
  · have := h.1; exact (s _ (by omega)).2
theorem tN.same (h : tN mi T z t m) (s : smT T z mi mi' ml ml') : tN mi' T z t m := by
  unfold tN tRW at h ⊢
  rw [(s (T + 2) (by omega)).1, (s (z + 5) (by omega)).1, (s (z + 7) (by omega)).1]
  refine ⟨⟨h.1.1, h.1.2.1, h.1.2.2.1, fun k hk => (h.1.2.2.2 k hk).same ?_ ?_ ?_ ?_⟩, h.2⟩ <;> (have := h.1.1; exact (s _ (by omega)).1)
theorem tS.same (h : tS mi T z t m) (s : smT T z mi mi' ml ml') : tS mi' T z t m := by
  unfold tS tRW at h ⊢
  rw [(s (T + 2) (by omega)).1, (s (z + 5) (by omega)).1, (s (z + 9) (by omega)).1]
  refine ⟨⟨h.1.1, h.1.2.1, h.1.2.2.1, fun k hk => (h.1.2.2.2 k hk).same ?_ ?_ ?_ ?_⟩, h.2⟩ <;> (have := h.1.1; exact (s _ (by omega)).1)
theorem tT.same (h : tT mi T z t m) (s : smT T z mi mi' ml ml') : tT mi' T z t m := by
  unfold tT at h ⊢
  rw [(s (T + 2) (by omega)).1, (s (z + 5) (by omega)).1, (s (z + 8) (by omega)).1]
  refine ⟨h.1, h.2.1, h.2.2.1, fun k hk => ?_⟩
  have hm := h.1
  obtain ⟨h1, h2, h3, h4⟩ := h.2.2.2 k hk
  rw [(s (T + 17 + 19 * k) (by omega)).1]
  exact ⟨h1, h2, h3, h4.same (s _ (by omega)).1 (s _ (by omega)).1 (s _ (by omega)).1 (s _ (by omega)).1⟩
theorem tI.same (h : tI mi ml T z t) (s : smT T z mi mi' ml ml') : tI mi' ml' T z t := by
  obtain ⟨h1, ⟨m2, h2⟩, ⟨m3, h3⟩, ⟨m4, h4⟩, m5, h5⟩ := h
  exact ⟨h1.same s, ⟨m2, h2.same s⟩, ⟨m3, h3.same s⟩, ⟨m4, h4.same s⟩, m5, h5.same s⟩
end SAME
/-! count, fault, end -/
section EASY
variable {l : Launch} {d x z T : Nat} {kd : pm_K} {mr : pm_R} {mi : pm_I} {ml : pm_L}
def vCount (q : Nat → Int32) (a : Int32) : Int32 := if isK a 4 = true then q a.toNatClampNeg else -2
theorem t_countX {a : Int32} {K : Int32 → pm_I → pm_L → Prop} (tx : TX11s kd mr x) (k9 : K (vCount (mi (x + 1 + 2)) a) mi ml) : wI l M_X11_count (d + 1) [.ref x, .int a] kd mr mi ml K := by
  unfold vCount at k9
  refine w_X11_count tx (w_X9_manyOf (TX11s_a0 tx) ⟨fun h => ?_, fun h => ⟨fun h2 => ?_, fun h2 => ?_⟩⟩)
  · rw [isK_neg h, if_neg (by decide)] at k9; exact k9
  · obtain ⟨n, hn, rfl⟩ := (z_cases a).resolve_left h
    have h2 : nI 4 ≤ nI n := h2
    rw [z_le (by omega) hn] at h2
    rw [isK_nI hn, if_neg (by simp; omega)] at k9; exact k9
  · obtain ⟨n, hn, rfl⟩ := (z_cases a).resolve_left h
    have h2 : ¬ nI 4 ≤ nI n := h2
    rw [z_le (by omega) hn] at h2
    rw [isK_nI hn, if_pos (by simp; omega)] at k9
    exact ⟨z_in (by omega) (by omega), k9⟩
theorem t_countZ {a : Int32} {K : Int32 → pm_I → pm_L → Prop} (tz : TX12s kd mr z) (k9 : ∀ mi', frZ z mi mi' ml ml → K (vCount (mi (z + 5)) a) mi' ml) : wI l M_X12_count (d + 1) [.ref z, .int a] kd mr mi ml K := by
  have f1 : frZ z mi (pm_up mi z 0 0) ml ml := frZ.upI (Or.inl rfl)
  refine w_X12_count tz (s_in2 (m := 3) rfl (by omega) ⟨fun h => ?_, fun h => ?_⟩)
  · have := k9 _ f1
    unfold vCount at this
    rw [if_neg (by rw [h]; decide)] at this; exact this
  · have := k9 _ f1
    unfold vCount at this
    rw [if_pos h] at this
    obtain ⟨k, hk, hk2, rfl⟩ := isK_iff.mp h
    refine ⟨z_in (by omega) (by omega), ?_⟩
    rw [pm_up_row _ _ (by omega)]
    exact this
theorem z_ti {x : Int32} {n : Nat} (hn : n < 2147483648) : x.toInt = (n : Int) ↔ x = nI n := by
  constructor
  · intro h; exact Int32.toInt_inj.mp (by rw [h, z_toInt hn])
  · rintro rfl; exact z_toInt hn
theorem t_faultX {a : Int32} {K : Int32 → pm_I → pm_L → Prop} (tx : TX11s kd mr x) (k9 : K (if a = 0 then mi (x + 1) 2 else if a = 1 then mi (x + 1) 3 else -1) mi ml) : wI l M_X11_fault d [.ref x, .int a] kd mr mi ml K := by
  have e0 : a.toInt = 0 ↔ a = 0 := z_ti (n := 0) (by omega)
  have e1 : a.toInt = 1 ↔ a = 1 := z_ti (n := 1) (by omega)
  refine w_X11_fault tx ⟨fun h => ?_, fun h => ⟨fun h2 => ?_, fun h2 => ?_⟩⟩
  · rw [if_pos (e0.mp h)] at k9; exact k9
  · rw [if_neg (fun q => h (e0.mpr q)), if_pos (e1.mp h2)] at k9; exact k9
  · rw [if_neg (fun q => h (e0.mpr q)), if_neg (fun q => h2 (e1.mpr q))] at k9; exact k9
theorem t_faultZ {a : Int32} {K : Int32 → pm_I → pm_L → Prop} (tz : TX12s kd mr z) (k9 : ∀ mi', frZ z mi mi' ml ml → K (if a = 0 then mi (z + 3) 0 else if a = 1 then mi (z + 4) 0 else -1) mi' ml) : wI l M_X12_fault d [.ref z, .int a] kd mr mi ml K := by
  have f1 : frZ z mi (pm_up mi z 0 0) ml ml := frZ.upI (Or.inl rfl)
  have := k9 _ f1
  have e3 : pm_up mi z 0 (0 : Int32) (z + 3) = mi (z + 3) := pm_up_row _ _ (by omega)
  have e4 : pm_up mi z 0 (0 : Int32) (z + 4) = mi (z + 4) := pm_up_row _ _ (by omega)
  refine w_X12_fault tz ⟨fun h => ⟨fun h2 => ?_, fun h2 => ?_⟩, fun h => ?_⟩
  · rw [if_neg h, if_neg h2] at this; exact this
  · rw [if_neg h, if_pos h2] at this
    exact this
  · rw [if_pos h] at this
    exact this
/-- the class's tables of the ways to be worn: their codes, what comes after each -/
def pgC : List Nat := [0, 1, 5, 25, 125, 2, 10, 50, 250, 3, 6, 26, 126, 15, 30, 130, 75, 150, 375, 4, 7, 27, 127, 11, 20, 35, 135, 51, 55, 100, 175, 251, 255, 275, 500, 8, 28, 128, 16, 40, 140, 76, 80, 200, 376, 380, 400, 12, 52, 252, 60, 260, 300, 31, 131, 151, 155]
def pgA : List Nat := [1, 2, 3, 4, 5, 2, 3, 4, 1, 6, 3, 4, 1, 2, 7, 4, 1, 2, 3, 8, 9, 10, 11, 12, 10, 13, 14, 15, 11, 14, 16, 17, 12, 15, 17, 18, 19, 20, 21, 22, 5, 6, 3, 4, 5, 2, 7, 4, 5, 2, 3, 8, 23, 24, 25, 26, 1, 6, 7, 4, 1, 6, 3, 8, 27, 28, 29, 30, 1, 2, 7, 8, 31, 32, 33, 34, 19, 35, 36, 37, 9, 23, 11, 12, 9, 10, 27, 12, 9, 10, 11, 31, 20, 13, 14, 15, 38, 24, 39, 40, 10, 13, 28, 15, 10, 13, 14, 32, 21, 14, 16, 17, 11, 25, 16, 17, 41, 42, 29, 43, 11, 14, 16, 33, 22, 15, 17, 18, 12, 26, 17, 18, 12, 15, 30, 18, 44, 45, 46, 34, 19, 47, 21, 22, 19, 20, 48, 22, 19, 20, 21, 49, 47, 24, 25, 26, 23, 24, 50, 26, 23, 24, 25, 51, 48, 28, 29, 30, 27, 50, 29, 30, 27, 28, 29, 52, 49, 32, 33, 34, 31, 51, 33, 34, 31, 32, 52, 34, 35, 38, 53, 54, 36, 53, 41, 55, 37, 54, 55, 44, 53, 39, 42, 56, 54, 40, 56, 45, 55, 56, 43, 46, 5, 6, 7, 4, 5, 6, 3, 8, 5, 2, 7, 8, 1, 6, 7, 8]
def PT (x : Nat) (mi : pm_I) : Prop := ∀ w, w < 57 → ∀ c, c < 4 → mi (x + 230) (4 * w + c) = nI (pgC.getD w 0 / 5 ^ c % 5) ∧ mi (x + 231) (4 * w + c) = nI (pgA.getD (4 * w + c) 0)
/-- all that stands between calls -/
def IV (x z : Nat) (mi : pm_I) (ml : pm_L) : Prop := z = x + 235 ∧ tI mi ml (x + 1) z 0 ∧ (∀ k, k < 3 → ¬ mi (x + 182) k = 0 → tI mi ml (x + 47 + 45 * k) z (k + 1)) ∧ (∀ k, k < 3 → mi (x + 182) k = mi (z + 31) k) ∧ PT x mi
theorem IV.smX {mi' : pm_I} {ml' : pm_L} (h : IV x z mi ml) (f : frX x mi mi' ml ml') : IV x z mi' ml' := by
  obtain ⟨rfl, h1, h2, h3, h4⟩ := h
  refine ⟨rfl, h1.same fun a ha => f a (by omega), fun k hk ht => (h2 k hk (by rw [← (f (x + 182) (by omega)).1]; exact ht)).same fun a ha => f a (by omega), fun k hk => ?_, fun w hw c hc => ?_⟩
  · rw [(f (x + 182) (by omega)).1, (f (x + 235 + 31) (by omega)).1]; exact h3 k hk
  · rw [(f (x + 230) (by omega)).1, (f (x + 231) (by omega)).1]; exact h4 w hw c hc
theorem IV.smZ {mi' : pm_I} {ml' : pm_L} (h : IV x z mi ml) (f : frZ z mi mi' ml ml') : IV x z mi' ml' := by
  obtain ⟨rfl, h1, h2, h3, h4⟩ := h
  refine ⟨rfl, h1.same fun a ha => f a (by omega), fun k hk ht => (h2 k hk (by rw [← (f (x + 182) (by omega)).1]; exact ht)).same fun a ha => f a (by omega), fun k hk => ?_, fun w hw c hc => ?_⟩
  · rw [(f (x + 182) (by omega)).1, (f (x + 235 + 31) (by omega)).1]; exact h3 k hk
  · rw [(f (x + 230) (by omega)).1, (f (x + 231) (by omega)).1]; exact h4 w hw c hc
/-- an IV whose first Told and slot alone have changed -/
theorem IV.smT {mi' : pm_I} {ml' : pm_L} (h : IV x z mi ml) (h1 : tI mi' ml' (x + 1) z 0) (f : ∀ a, (x + 47 ≤ a ∧ a ≤ x + 182) ∨ (x + 229 ≤ a ∧ a ≤ x + 231) ∨ a = z + 31 → mi' a = mi a ∧ ml' a = ml a)
    (g : ∀ k, k < 3 → ¬ mi' (x + 182) k = 0 → tI mi' ml' (x + 47 + 45 * k) z (k + 1)) : IV x z mi' ml' := by
  obtain ⟨rfl, -, -, h3, h4⟩ := h
  refine ⟨rfl, h1, g, fun k hk => ?_, fun w hw c hc => ?_⟩
  · rw [(f (x + 182) (by omega)).1, (f (x + 235 + 31) (by omega)).1]; exact h3 k hk
  · rw [(f (x + 230) (by omega)).1, (f (x + 231) (by omega)).1]; exact h4 w hw c hc
/-- rows of the tape and its length alone have changed, in slot 0 -/
def smL (z : Nat) (mi mi' : pm_I) : Prop := (∀ a, a ≠ z + 1 → a ≠ z + 2 → mi' a = mi a) ∧ (∀ i, 600 ≤ i → mi' (z + 1) i = mi (z + 1) i) ∧ ∀ j, j ≠ 0 → mi' (z + 2) j = mi (z + 2) j
theorem tI.sameP {T t : Nat} {mi' : pm_I} {ml' : pm_L} (h : tI mi ml T z t) (hp : tP mi' T z t) (s : ∀ a, ((T + 2 ≤ a ∧ a ≤ T + 44) ∨ (z + 5 ≤ a ∧ a ≤ z + 9)) → mi' a = mi a ∧ ml' a = ml a) : tI mi' ml' T z t := by
  -- a world that is mi' where the other rows are read
  obtain ⟨-, ⟨m2, h2⟩, ⟨m3, h3⟩, ⟨m4, h4⟩, m5, h5⟩ := h
  refine ⟨hp, ⟨m2, ?_⟩, ⟨m3, ?_⟩, ⟨m4, ?_⟩, m5, ?_⟩
  · unfold tC at h2 ⊢
    rw [(s (T + 2) (by omega)).1, (s (z + 5) (by omega)).1, (s (z + 6) (by omega)).1]
    refine ⟨h2.1, h2.2.1, h2.2.2.1, fun k hk => ⟨(h2.2.2.2 k hk).1, (h2.2.2.2 k hk).2.same (fun a g1 g2 => ?_) ?_⟩⟩
    · have := h2.1; exact (s a (by omega)).1
    · have := h2.1; exact (s _ (by omega)).2
  · unfold tN tRW at h3 ⊢
    rw [(s (T + 2) (by omega)).1, (s (z + 5) (by omega)).1, (s (z + 7) (by omega)).1]
    refine ⟨⟨h3.1.1, h3.1.2.1, h3.1.2.2.1, fun k hk => (h3.1.2.2.2 k hk).same ?_ ?_ ?_ ?_⟩, h3.2⟩ <;> (have := h3.1.1; exact (s _ (by omega)).1)
  · unfold tT at h4 ⊢
    rw [(s (T + 2) (by omega)).1, (s (z + 5) (by omega)).1, (s (z + 8) (by omega)).1]
    refine ⟨h4.1, h4.2.1, h4.2.2.1, fun k hk => ?_⟩
    have hm := h4.1
    obtain ⟨g1, g2, g3, g4⟩ := h4.2.2.2 k hk
    rw [(s (T + 17 + 19 * k) (by omega)).1]
    exact ⟨g1, g2, g3, g4.same (s _ (by omega)).1 (s _ (by omega)).1 (s _ (by omega)).1 (s _ (by omega)).1⟩
  · unfold tS tRW at h5 ⊢
    rw [(s (T + 2) (by omega)).1, (s (z + 5) (by omega)).1, (s (z + 9) (by omega)).1]
    refine ⟨⟨h5.1.1, h5.1.2.1, h5.1.2.2.1, fun k hk => (h5.1.2.2.2 k hk).same ?_ ?_ ?_ ?_⟩, h5.2⟩ <;> (have := h5.1.1; exact (s _ (by omega)).1)
theorem tP.slot {T t : Nat} {mi' : pm_I} (h : tP mi T z (t + 1)) (s : ∀ a, T ≤ a ∧ a ≤ T + 1 → mi' a = mi a) (s1 : ∀ i, 600 ≤ i → mi' (z + 1) i = mi (z + 1) i) (s2 : ∀ j, j ≠ 0 → mi' (z + 2) j = mi (z + 2) j ∧ mi' (z + 3) j = mi (z + 3) j ∧ mi' (z + 4) j = mi (z + 4) j) : tP mi' T z (t + 1) := by
  obtain ⟨n, h1, h2, h3, h4, h5, h6⟩ := h
  obtain ⟨g1, g2, g3⟩ := s2 (t + 1) (by omega)
  refine ⟨n, h1, ?_, ?_, fun i hi => ?_, ?_, ?_⟩
  · rw [s T (by omega)]; exact h2
  · rw [g1]; exact h3
  · rw [s (T + 1) (by omega), s1 _ (by omega)]; exact h4 i hi
  · rw [s T (by omega), g2]; exact h5
  · rw [s T (by omega), g3]; exact h6
/-- slot 0's tape, length, fault and place alone have changed, and the told's own first two cells -/
theorem IV.tape {mi' : pm_I} (h : IV x z mi ml) (hp : tP mi' (x + 1) z 0) (s : ∀ a, a ≠ x + 1 → a ≠ x + 2 → (a < x + 183 ∨ (x + 229 ≤ a ∧ a ≤ x + 231) ∨ (z + 5 ≤ a ∧ a ≤ z + 9) ∨ a = z + 31) → mi' a = mi a) (s1 : ∀ i, 600 ≤ i → mi' (z + 1) i = mi (z + 1) i) (s2 : ∀ j, j ≠ 0 → mi' (z + 2) j = mi (z + 2) j ∧ mi' (z + 3) j = mi (z + 3) j ∧ mi' (z + 4) j = mi (z + 4) j) : IV x z mi' ml := by
  have hz := h.1
  refine h.smT (h.2.1.sameP hp fun a ha => ⟨s a (by omega) (by omega) (by omega), rfl⟩) (fun a ha => ⟨s a (by omega) (by omega) (by omega), rfl⟩) (fun k hk ht => ?_)
  have ht : ¬ mi (x + 182) k = 0 := by rw [← s (x + 182) (by omega) (by omega) (by omega)]; exact ht
  exact (h.2.2.1 k hk ht).sameP ((h.2.2.1 k hk ht).1.slot (fun a ha => s a (by omega) (by omega) (by omega)) s1 s2) fun a ha => ⟨s a (by omega) (by omega) (by omega), rfl⟩
theorem c_count {a : Int32} (tx : TX11s kd mr x) (tz : TX12s kd mr z) (I : IV x z mi ml) : wI l M_X11_count (d + 1) [.ref x, .int a] kd mr mi ml fun r mi1 ml1 => wI l M_X12_count (d + 1) [.ref z, .int a] kd mr mi1 ml1 fun r2 mi2 ml2 => r = r2 ∧ IV x z mi2 ml2 := by
  refine t_countX tx (t_countZ tz fun mi' f => ⟨?_, I.smZ f⟩)
  unfold vCount
  split
  · rename_i h
    obtain ⟨k, hk, hk2, rfl⟩ := isK_iff.mp h
    rw [z_cl hk2]
    obtain ⟨-, ⟨m0, h0⟩, ⟨m1, h1⟩, ⟨m2, h2⟩, m3, h3⟩ := I.2.1
    rcases (show k = 0 ∨ k = 1 ∨ k = 2 ∨ k = 3 by omega) with rfl | rfl | rfl | rfl
    · rw [h0.2.1]; exact h0.2.2.1.symm
    · rw [h1.1.2.1]; exact h1.1.2.2.1.symm
    · rw [h2.2.1]; exact h2.2.2.1.symm
    · rw [h3.1.2.1]; exact h3.1.2.2.1.symm
  · rfl
theorem c_fault {a : Int32} (tx : TX11s kd mr x) (tz : TX12s kd mr z) (I : IV x z mi ml) : wI l M_X11_fault d [.ref x, .int a] kd mr mi ml fun r mi1 ml1 => wI l M_X12_fault d [.ref z, .int a] kd mr mi1 ml1 fun r2 mi2 ml2 => r = r2 ∧ IV x z mi2 ml2 := by
  refine t_faultX tx (t_faultZ tz fun mi' f => ⟨?_, I.smZ f⟩)
  obtain ⟨n, -, -, -, -, h1, h2⟩ := I.2.1.1
  rw [h1, h2]
theorem c_end {a : Int32} (tx : TX11s kd mr x) (tz : TX12s kd mr z) (I : IV x z mi ml) : wI l M_X11_end (d + 1) [.ref x, .int a] kd mr mi ml fun r mi1 ml1 => wI l M_X12_end (d + 1) [.ref z, .int a] kd mr mi1 ml1 fun r2 mi2 ml2 => r = r2 ∧ IV x z mi2 ml2 := by
  obtain ⟨n, hn, h1, h2, h3, h4, h5⟩ := I.2.1.1
  have hz := I.1
  have zf : ∀ mi1 : pm_I, mi1 (z + 2) 0 = nI n → (isK a (n + 1) = false → -1 = (-1 : Int32) ∧ IV x z (pm_up mi1 z 0 0) ml) → (∀ k, k ≤ n → a = nI k → a = a ∧ IV x z (pm_up (pm_up mi1 z 0 0) (z + 2) 0 a) ml) → True := fun _ _ _ _ => trivial
  refine w_X11_end tx ⟨fun h => ?_, fun h => ?_⟩
  · refine w_X12_end tz (s_in2 (m := n) h2 (by omega) ⟨fun h6 => ?_, fun _ => ⟨rfl, I.smZ (frZ.upI (Or.inl rfl))⟩⟩)
    rw [isK_neg h] at h6; cases h6
  · obtain ⟨k, hk, rfl⟩ := (z_cases a).resolve_left h
    rw [h1, z_le hk (by omega)]
    refine ⟨fun h6 => ?_, fun h6 => ?_⟩
    · have e2 : pm_up mi (x + 1) 1 (nI k) (z + 2) 0 = nI n := by rw [pm_up_row _ _ (by omega)]; exact h2
      refine w_X12_end tz (s_in2 (m := n) e2 (by omega) ⟨fun _ => ⟨rfl, ?_⟩, fun h7 => ?_⟩)
      · refine I.tape ⟨k, by omega, ?_, pm_up_s _ _ _ _, fun i hi => ?_, ?_, ?_⟩ (fun b g1 g2 g3 => ?_) (fun i hi => ?_) (fun j hj => ⟨?_, ?_, ?_⟩)
        · rw [pm_up_row _ _ (by omega), pm_up_row _ _ (by omega), pm_up_s]
        · rw [pm_up_row _ _ (by omega), pm_up_row _ _ (by omega), pm_up_row _ _ (by omega), pm_up_row (a := z + 1) _ _ (by omega), pm_up_row (a := z + 1) _ _ (by omega), pm_up_row (a := z + 1) _ _ (by omega)]; exact h3 i hi
        · rw [pm_up_row _ _ (by omega), pm_up_row _ _ (by omega), pm_up_j _ _ (by decide), pm_up_row (a := z + 3) _ _ (by omega), pm_up_row (a := z + 3) _ _ (by omega), pm_up_row (a := z + 3) _ _ (by omega)]; exact h4
        · rw [pm_up_row _ _ (by omega), pm_up_row _ _ (by omega), pm_up_j _ _ (by decide), pm_up_row (a := z + 4) _ _ (by omega), pm_up_row (a := z + 4) _ _ (by omega), pm_up_row (a := z + 4) _ _ (by omega)]; exact h5
        · rw [pm_up_row _ _ (by omega), pm_up_row _ _ (by omega), pm_up_row _ _ (by omega)]
        · rw [pm_up_row _ _ (by omega), pm_up_row _ _ (by omega), pm_up_row _ _ (by omega)]
        · exact (pm_up_j _ _ hj).trans (by rw [pm_up_row _ _ (by omega), pm_up_row _ _ (by omega)])
        · rw [pm_up_row _ _ (by omega), pm_up_row _ _ (by omega), pm_up_row _ _ (by omega)]
        · rw [pm_up_row _ _ (by omega), pm_up_row _ _ (by omega), pm_up_row _ _ (by omega)]
      · rw [isK_nI hk] at h7; simp at h7; omega
    · refine w_X12_end tz (s_in2 (m := n) h2 (by omega) ⟨fun h7 => ?_, fun _ => ⟨rfl, I.smZ (frZ.upI (Or.inl rfl))⟩⟩)
      rw [isK_nI hk] at h7; simp at h7; omega
end EASY
