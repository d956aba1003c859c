/-! feed -/
def bt (v : Int32) (j : Nat) : Int32 := (Int32.toInt8 (v >>> (nI (24 - 8 * j) &&& 31))).toInt32
theorem by_two (y : Int32) : Int32.toInt8 (Int32.toInt8 y).toInt32 = Int32.toInt8 y := Int8.toInt8_toInt32 _
theorem by_sh : ∀ j, j < 4 → ((nI (24 - 8 * j) &&& 31).toBitVec.smod 32).toNat = 24 - 8 * j ∧ ((Int32.toUInt32 (nI (24 - 8 * j)) &&& Int32.toUInt32 31).toBitVec % 32).toNat = 24 - 8 * j := by decide +kernel
theorem by_u (v : Int32) {j : Nat} (hj : j < 4) : Int32.toInt8 ((v.toUInt32 >>> (Int32.toUInt32 (nI (24 - 8 * j)) &&& Int32.toUInt32 31)).toInt32) = Int32.toInt8 (v >>> (nI (24 - 8 * j) &&& 31)) := by
  obtain ⟨h1, h2⟩ := by_sh j hj
  apply Int8.toBitVec_inj.mp
  rw [Int32.toBitVec_toInt8, Int32.toBitVec_toInt8]
  apply BitVec.eq_of_getLsbD_eq
  intro i hi
  rw [BitVec.getLsbD_signExtend, BitVec.getLsbD_signExtend]
  have e1 : ((v.toUInt32 >>> (Int32.toUInt32 (nI (24 - 8 * j)) &&& Int32.toUInt32 31)).toInt32).toBitVec = v.toBitVec >>> (24 - 8 * j) := by
    have : ((v.toUInt32 >>> (Int32.toUInt32 (nI (24 - 8 * j)) &&& Int32.toUInt32 31)).toInt32).toBitVec = (v.toUInt32 >>> (Int32.toUInt32 (nI (24 - 8 * j)) &&& Int32.toUInt32 31)).toBitVec := rfl
    rw [this, UInt32.toBitVec_shiftRight, BitVec.ushiftRight_eq', h2]
    rfl
  have e2 : (v >>> (nI (24 - 8 * j) &&& 31)).toBitVec = v.toBitVec.sshiftRight (24 - 8 * j) := by
    rw [Int32.toBitVec_shiftRight, BitVec.sshiftRight_eq', h1]
  rw [e1, e2, BitVec.getLsbD_ushiftRight, BitVec.getLsbD_sshiftRight]
  have h3 : i < 32 := by omega
  have h4 : 24 - 8 * j + i < 32 := by omega
  simp [hi, h3, h4]
theorem bC_bt (v : Int32) (j : Nat) : bC (bt v j) := by unfold bC bt; rw [by_two]
/-- q bytes of v written at n -/
def putW (f : Nat → Int32) (n : Nat) (v : Int32) (q : Nat) : Nat → Int32 := fun i => if n ≤ i ∧ i < n + q then bt v (i - n) else f i
theorem putW_up {α : Type} (f : Nat → Int32) (n : Nat) (v : Int32) (q : Nat) (x : Nat → α) : (fun i => if i = n + q then bt v q else putW f n v q i) = putW f n v (q + 1) := by
  funext i
  unfold putW
  by_cases h : i = n + q
  · subst h; rw [if_pos rfl, if_pos (by omega), show n + q - n = q by omega]
  · rw [if_neg h]
    by_cases h2 : n ≤ i ∧ i < n + q
    · rw [if_pos h2, if_pos (by omega)]
    · rw [if_neg h2, if_neg (by omega)]
/-- a world whose row tp is g, whose length (lr, lc) is n -/
def fdW (mi mi' : pm_I) (tp lr lc : Nat) (g : Nat → Int32) (n : Nat) : Prop := mi' tp = g ∧ mi' lr lc = nI n ∧ (∀ a, a ≠ tp → a ≠ lr → mi' a = mi a) ∧ ∀ b, b ≠ lc → mi' lr b = mi lr b
theorem fdW.step {mi mi' : pm_I} {tp lr lc : Nat} {g g' : Nat → Int32} {n : Nat} {w u : Int32} (h : fdW mi mi' tp lr lc g n) (hne : tp ≠ lr) (hg : (fun i => if i = n then w else g i) = g') (hu : u = nI n) : fdW mi (pm_up (pm_up mi' tp n w) lr lc (u + 1)) tp lr lc g' (n + 1) := by
  obtain ⟨h1, h2, h3, h4⟩ := h
  refine ⟨?_, ?_, fun a g1 g2 => ?_, fun b g1 => ?_⟩
  · rw [pm_up_row _ _ hne, ← hg]
    funext i
    by_cases q : i = n
    · subst q; rw [pm_up_s, if_pos rfl]
    · rw [pm_up_j _ _ q, if_neg q, h1]
  · rw [pm_up_s, hu]; exact nI_1 n
  · rw [pm_up_row _ _ g2, pm_up_row _ _ g1]; exact h3 a g1 g2
  · rw [pm_up_j _ _ g1, pm_up_row _ _ (Ne.symm hne)]; exact h4 b g1
section FEED
variable {l : Launch} {d x z T : Nat} {kd : pm_K} {mr : pm_R} {mi : pm_I} {ml : pm_L}
theorem fd_x2 : ∀ j, j < 4 → ¬ nI (24 - 8 * j) < 0 ∧ (j < 3 → nI (24 - 8 * j) + (-8) = nI (24 - 8 * (j + 1))) := by decide +kernel
theorem s_write {v : Int32} {n : Nat} {g : Nat → Int32} {mi0 : pm_I} {K : pm_I → pm_L → Prop} (tT : TX9s kd mr T) (hn : n + 4 ≤ 600) (h0 : fdW mi0 mi (T + 1) T 1 g n)
    (k9 : ∀ mi', fdW mi0 mi' (T + 1) T 1 (putW g n v 4) (n + 4) → K mi' ml) : wV l M_X9_write d [.ref T, .int v] kd mr mi ml K := by
  have step : ∀ j, j < 4 → ∀ mi1, fdW mi0 mi1 (T + 1) T 1 (putW g n v j) (n + j) → (∀ mi2, fdW mi0 mi2 (T + 1) T 1 (putW g n v (j + 1)) (n + j + 1) → c_X9_write_3 l d kd mr T v (nI (24 - 8 * j) + (-8)) mi2 ml K) → c_X9_write_3 l d kd mr T v (nI (24 - 8 * j)) mi1 ml K := by
    intro j hj mi1 h k
    have h1 := h.2.1
    refine w_X9_write_3 tT ⟨fun q => absurd q (fd_x2 j hj).1, fun _ => ⟨fun q => ?_, fun _ => ⟨?_, ?_⟩⟩⟩
    · rw [h1] at q
      have q : nI 600 ≤ nI (n + j) := q
      rw [z_le (by omega) (by omega)] at q; omega
    · rw [h1]; exact z_in (by omega) (by omega)
    · rw [by_two, by_u v hj]
      refine k _ ?_
      have e : (mi1 T 1).toNatClampNeg = n + j := by rw [h1, z_cl (by omega)]
      rw [e]
      exact h.step (by omega) (putW_up g n v j id) h1
  have z0 : putW g n v 0 = g := by funext i; unfold putW; rw [if_neg (by omega)]
  refine w_X9_write tT ?_
  refine step 0 (by omega) mi (by rw [z0]; exact h0) fun mi1 g1 => ?_
  rw [(fd_x2 0 (by omega)).2 (by omega)]
  refine step 1 (by omega) mi1 g1 fun mi2 g2 => ?_
  rw [(fd_x2 1 (by omega)).2 (by omega)]
  refine step 2 (by omega) mi2 g2 fun mi3 g3 => ?_
  rw [(fd_x2 2 (by omega)).2 (by omega)]
  refine step 3 (by omega) mi3 g3 fun mi4 g4 => ?_
  exact w_X9_write_3 tT ⟨fun _ => k9 _ g4, fun q => absurd (by decide) q⟩
theorem s_four {v : Int32} {n : Nat} {g : Nat → Int32} {mi0 : pm_I} {K : pm_I → pm_L → Prop} (tz : TX12s kd mr z) (hn : n + 4 ≤ 600) (h0 : fdW mi0 mi (z + 1) (z + 2) 0 g n)
    (k9 : ∀ mi', fdW mi0 mi' (z + 1) (z + 2) 0 (putW g n v 4) (n + 4) → K mi' ml) : wV l M_X12_four d [.ref z, .int v] kd mr mi ml K := by
  have step : ∀ j, j < 4 → ∀ mi1, fdW mi0 mi1 (z + 1) (z + 2) 0 (putW g n v j) (n + j) → (∀ mi2, fdW mi0 mi2 (z + 1) (z + 2) 0 (putW g n v (j + 1)) (n + j + 1) → c_X12_four_3 l d kd mr z v (nI (24 - 8 * j) + (-8)) mi2 ml K) → c_X12_four_3 l d kd mr z v (nI (24 - 8 * j)) mi1 ml K := by
    intro j hj mi1 h k
    have h1 : mi1 (z + 2) (Int32.toNatClampNeg 0) = nI (n + j) := h.2.1
    refine w_X12_four_3 tz ⟨fun q => absurd q (fd_x2 j hj).1, fun _ => ⟨?_, ?_⟩⟩
    · rw [h1]; exact z_in (by omega) (by omega)
    · rw [by_two]
      refine k _ ?_
      have e : (mi1 (z + 2) (Int32.toNatClampNeg 0)).toNatClampNeg = n + j := by rw [h1, z_cl (by omega)]
      rw [e]
      exact h.step (by omega) (putW_up g n v j id) h1
  have z0 : putW g n v 0 = g := by funext i; unfold putW; rw [if_neg (by omega)]
  refine w_X12_four tz ?_
  refine step 0 (by omega) mi (by rw [z0]; exact h0) fun mi1 g1 => ?_
  rw [(fd_x2 0 (by omega)).2 (by omega)]
  refine step 1 (by omega) mi1 g1 fun mi2 g2 => ?_
  rw [(fd_x2 1 (by omega)).2 (by omega)]
  refine step 2 (by omega) mi2 g2 fun mi3 g3 => ?_
  rw [(fd_x2 2 (by omega)).2 (by omega)]
  refine step 3 (by omega) mi3 g3 fun mi4 g4 => ?_
  exact w_X12_four_3 tz ⟨fun _ => k9 _ g4, fun q => absurd (by decide) q⟩
def put5 (g : Nat → Int32) (n : Nat) (a b c e f : Int32) : Nat → Int32 := putW (putW (putW (putW (putW g n a 4) (n + 4) b 4) (n + 4 + 4) c 4) (n + 4 + 4 + 4) e 4) (n + 4 + 4 + 4 + 4) f 4
theorem putW_tie {g g' : Nat → Int32} {n : Nat} {v : Int32} (h : ∀ i, i < 600 → g i = g' i ∧ bC (g i)) : ∀ i, i < 600 → putW g n v 4 i = putW g' n v 4 i ∧ bC (putW g n v 4 i) := by
  intro i hi
  unfold putW
  split
  · exact ⟨rfl, bC_bt _ _⟩
  · exact h i hi
theorem c_feed {a b c e f : Int32} (tx : TX11s kd mr x) (tz : TX12s kd mr z) (I : IV x z mi ml) : wI l M_X11_feed (d + 1) [.ref x, .int a, .int b, .int c, .int e, .int f] kd mr mi ml fun r mi1 ml1 => wI l M_X12_feed (d + 1) [.ref z, .int a, .int b, .int c, .int e, .int f] kd mr mi1 ml1 fun r2 mi2 ml2 => r = r2 ∧ IV x z mi2 ml2 := by
  obtain ⟨n, hn, h1, h2, h3, h4, h5⟩ := I.2.1.1
  have hz := I.1
  have tT := TX11s_a0 tx
  have h2' : ∀ mi1 : pm_I, mi1 (z + 2) = mi (z + 2) → mi1 (z + 2) (Int32.toNatClampNeg 0) = nI n := fun mi1 e => by rw [e]; exact h2
  have c20 : (nI n + 20 ≤ (600 : Int32)) = (n + 20 ≤ 600) := by
    have : nI n + 20 = nI (n + 20) := nI_add n 20
    rw [this]; exact z_le (b := 600) (by omega) (by omega)
  have f0 : fdW mi mi (x + 1 + 1) (x + 1) 1 (mi (x + 1 + 1)) n := ⟨rfl, h1, fun _ _ _ => rfl, fun _ _ => rfl⟩
  refine w_X11_feed tx ⟨fun hh => ?_, fun hh => ?_⟩
  · rw [h1, c20] at hh
    refine s_write tT (by omega) f0 fun m1 g1 => s_write tT (by omega) g1 fun m2 g2 => s_write tT (by omega) g2 fun m3 g3 => s_write tT (by omega) g3 fun m4 g4 => s_write tT (by omega) g4 fun m5 g5 => ?_
    have e2 : m5 (z + 2) = mi (z + 2) := g5.2.2.1 _ (by omega) (by omega)
    have q0 : fdW m5 (pm_up m5 z 0 0) (z + 1) (z + 2) 0 (mi (z + 1)) n → True := fun _ => trivial
    have q0 : fdW (pm_up m5 z 0 0) (pm_up m5 z 0 0) (z + 1) (z + 2) 0 (mi (z + 1)) n := ⟨by rw [pm_up_row _ _ (by omega)]; exact g5.2.2.1 _ (by omega) (by omega), by rw [pm_up_row _ _ (by omega)]; exact h2' _ e2, fun _ _ _ => rfl, fun _ _ => rfl⟩
    refine w_X12_feed tz ⟨fun _ => s_four tz (by omega) q0 fun n1 q1 => s_four tz (by omega) q1 fun n2 q2 => s_four tz (by omega) q2 fun n3 q3 => s_four tz (by omega) q3 fun n4 q4 => s_four tz (by omega) q4 fun n5 q5 => ⟨?_, ?_⟩, fun hh2 => ?_⟩
    · rw [g5.2.1]; exact q5.2.1.symm
    · have ea : ∀ a, a ≠ x + 1 → a ≠ x + 1 + 1 → a ≠ z + 1 → a ≠ z + 2 → a ≠ z → n5 a = mi a := fun a q1 q2 q3 q4 q6 => by
        rw [q5.2.2.1 a q3 q4, pm_up_row _ _ q6, g5.2.2.1 a q2 q1]
      have eT : ∀ a, a ≠ z + 1 → a ≠ z + 2 → a ≠ z → n5 a = m5 a := fun a q3 q4 q6 => by
        rw [q5.2.2.1 a q3 q4, pm_up_row _ _ q6]
      refine I.tape ⟨n + 4 + 4 + 4 + 4 + 4, by omega, ?_, q5.2.1, fun i hi => ?_, ?_, ?_⟩ (fun a q1 q2 q3 => ?_) (fun i hi => ?_) (fun j hj => ⟨?_, ?_, ?_⟩)
      · rw [eT _ (by omega) (by omega) (by omega)]; exact g5.2.1
      · rw [eT _ (by omega) (by omega) (by omega), g5.1, q5.1]
        have e0 : ∀ i, i < 600 → mi (x + 1 + 1) i = mi (z + 1) i ∧ bC (mi (x + 1 + 1) i) := fun i hi => by have := h3 i hi; rw [show 600 * 0 + i = i by omega] at this; exact this
        rw [show 600 * 0 + i = i by omega]
        exact putW_tie (putW_tie (putW_tie (putW_tie (putW_tie e0)))) i hi
      · rw [eT _ (by omega) (by omega) (by omega), g5.2.2.2 2 (by omega), ea _ (by omega) (by omega) (by omega) (by omega) (by omega)]; exact h4
      · rw [eT _ (by omega) (by omega) (by omega), g5.2.2.2 3 (by omega), ea _ (by omega) (by omega) (by omega) (by omega) (by omega)]; exact h5
      · exact ea a (by omega) (by omega) (by omega) (by omega) (by omega)
      · rw [q5.1]
        unfold putW
        rw [if_neg (by omega), if_neg (by omega), if_neg (by omega), if_neg (by omega), if_neg (by omega)]
      · rw [q5.2.2.2 j hj, pm_up_row _ _ (by omega), g5.2.2.1 _ (by omega) (by omega)]
      · rw [ea _ (by omega) (by omega) (by omega) (by omega) (by omega)]
      · rw [ea _ (by omega) (by omega) (by omega) (by omega) (by omega)]
    · rw [h2' _ e2, c20] at hh2; exact absurd hh hh2
  · refine w_X12_feed tz ⟨fun hh2 => ?_, fun _ => ⟨rfl, I.smZ (frZ.upI (Or.inl rfl))⟩⟩
    rw [h1, c20] at hh
    rw [h2' _ rfl, c20] at hh2; exact absurd hh2 hh
end FEED
