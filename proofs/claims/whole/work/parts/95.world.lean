/-! the world behind both constructors -/
def k0F : pm_K := [] ++ [(0, 11)]
def k1F : pm_K := k0F ++ kX11
def k2F : pm_K := k1F ++ [(0, 12)]
def kdF : pm_K := k2F ++ kX12
def m0F : pm_I := fun _ _ => 0
def l0F : pm_L := fun _ _ => 0
def r0F : pm_R := fun _ _ => none
def m1F : pm_I := iX11 m0F 0 1
def r1F : pm_R := rX11 r0F 0 1
def miF : pm_I := iX12 m1F 235 236
def mrF : pm_R := rX12 r1F 235 236
theorem kF_len : k0F.length = 1 ∧ k1F.length = 235 ∧ k2F.length = 236 ∧ kdF.length = 267 := by decide +kernel
theorem zz_0 : Zz 0 m0F l0F r0F := fun _ _ => ⟨rfl, rfl, rfl⟩
theorem zz_1 : Zz 235 m1F l0F r1F := z_X11 (zz_0.mono (Nat.zero_le 1)) (by decide)
set_option maxRecDepth 100000 in
theorem tx_9 : ∀ h, (h = 1 ∨ h = 47 ∨ h = 92 ∨ h = 137) → TX9s kdF mrF h := by
  rintro h (rfl | rfl | rfl | rfl)
  all_goals
    unfold TX9s TX0s TX6s TX10s TX6s
    repeat' apply And.intro
    all_goals decide +kernel
set_option maxRecDepth 100000 in
theorem tx_5 : TX5s kdF mrF 183 := by
  unfold TX5s TX0s TX6s TX10s TX6s
  repeat' apply And.intro
  all_goals decide +kernel
set_option maxRecDepth 100000 in
theorem tx_r : TX7s kdF mrF 200 ∧ TX1s kdF mrF 202 ∧ TX3s kdF mrF 208 ∧ TX8s kdF mrF 215 ∧ TX2s kdF mrF 222 ∧ TX4s kdF mrF 229 := by
  refine ⟨?_, ?_, ?_, ?_, ?_, ?_⟩
  · unfold TX7s; decide +kernel
  · unfold TX1s TX7s; decide +kernel
  · unfold TX3s TX7s; decide +kernel
  · unfold TX8s; decide +kernel
  · unfold TX2s; decide +kernel
  · unfold TX4s; decide +kernel
set_option maxRecDepth 100000 in
theorem tx_F : TX11s kdF mrF 0 := by
  obtain ⟨t7, t1, t3, t8, t2, t4⟩ := tx_r
  refine ⟨by decide +kernel, by decide +kernel, tx_9 1 (by omega), by decide +kernel, by decide +kernel, by decide +kernel, tx_9 47 (by omega), by decide +kernel, tx_9 92 (by omega), by decide +kernel, tx_9 137 (by omega), by decide +kernel, by decide +kernel, by decide +kernel, tx_5, by decide +kernel, t7, by decide +kernel, t1, by decide +kernel, t3, by decide +kernel, t8, by decide +kernel, t2, by decide +kernel, t4, by decide +kernel, by decide +kernel⟩
set_option maxRecDepth 100000 in
theorem tz_F : TX12s kdF mrF 235 := by
  unfold TX12s
  repeat' apply And.intro
  all_goals decide +kernel
theorem mF_eq : miF = pm_up (pm_ur (pm_ur (pm_ur (pm_up (pm_up (pm_up (pm_up (pm_up m0F 1 3 (-1)) 47 3 (-1)) 92 3 (-1)) 137 3 (-1)) 229 3 (nI 57)) 230 (wRf 57)) 231 (aRf 228)) 233 (nRf 57)) 239 0 (-1) := rfl
theorem mF_row (a : Nat) (h1 : a ≠ 1) (h2 : a ≠ 47) (h3 : a ≠ 92) (h4 : a ≠ 137) (h5 : a ≠ 229) (h6 : a ≠ 230) (h7 : a ≠ 231) (h8 : a ≠ 233) (h9 : a ≠ 239) : miF a = fun _ => 0 := by
  rw [mF_eq, pm_up_row _ _ h9, pm_ur_k _ _ h8, pm_ur_k _ _ h7, pm_ur_k _ _ h6, pm_up_row _ _ h5, pm_up_row _ _ h4, pm_up_row _ _ h3, pm_up_row _ _ h2, pm_up_row _ _ h1]
  rfl
theorem mF_1 : miF 1 1 = 0 ∧ miF 1 2 = 0 ∧ miF 1 3 = -1 ∧ miF 239 0 = -1 := by
  refine ⟨?_, ?_, ?_, ?_⟩
  · rw [mF_eq, pm_up_row _ _ (by decide), pm_ur_k _ _ (by decide), pm_ur_k _ _ (by decide), pm_ur_k _ _ (by decide), pm_up_row _ _ (by decide), pm_up_row _ _ (by decide), pm_up_row _ _ (by decide), pm_up_row _ _ (by decide), pm_up_j _ _ (by decide)]; rfl
  · rw [mF_eq, pm_up_row _ _ (by decide), pm_ur_k _ _ (by decide), pm_ur_k _ _ (by decide), pm_ur_k _ _ (by decide), pm_up_row _ _ (by decide), pm_up_row _ _ (by decide), pm_up_row _ _ (by decide), pm_up_row _ _ (by decide), pm_up_j _ _ (by decide)]; rfl
  · rw [mF_eq, pm_up_row _ _ (by decide), pm_ur_k _ _ (by decide), pm_ur_k _ _ (by decide), pm_ur_k _ _ (by decide), pm_up_row _ _ (by decide), pm_up_row _ _ (by decide), pm_up_row _ _ (by decide), pm_up_row _ _ (by decide), pm_up_s]
  · rw [mF_eq, pm_up_s]
theorem iv_F : IV 0 235 miF l0F := by
  have z0 : ∀ a i, a ≠ 1 → a ≠ 47 → a ≠ 92 → a ≠ 137 → a ≠ 229 → a ≠ 230 → a ≠ 231 → a ≠ 233 → a ≠ 239 → miF a i = 0 := fun a i h1 h2 h3 h4 h5 h6 h7 h8 h9 => by rw [mF_row a h1 h2 h3 h4 h5 h6 h7 h8 h9]
  obtain ⟨q1, q2, q3, q4⟩ := mF_1
  have zz : ∀ a i, (a = 2 ∨ a = 3 ∨ (10 ≤ a ∧ a ≤ 20) ∨ a = 182 ∨ (236 ≤ a ∧ a < 239) ∨ 240 ≤ a) → miF a i = 0 := fun a i h => z0 a i (by omega) (by omega) (by omega) (by omega) (by omega) (by omega) (by omega) (by omega) (by omega)
  refine ⟨rfl, ⟨⟨0, by omega, q1, zz 237 0 (by omega), fun i hi => ⟨?_, ?_⟩, ?_, ?_⟩, ⟨0, by omega, zz 3 0 (by omega), zz 240 _ (by omega), fun k hk => absurd hk (Nat.not_lt_zero k)⟩, ⟨0, ⟨by omega, zz 3 1 (by omega), zz 240 _ (by omega), fun k hk => absurd hk (Nat.not_lt_zero k)⟩, fun k hk => absurd hk (Nat.not_lt_zero k)⟩, ⟨0, by omega, zz 3 2 (by omega), zz 240 _ (by omega), fun k hk => absurd hk (Nat.not_lt_zero k)⟩, 0, ⟨by omega, zz 3 3 (by omega), zz 240 _ (by omega), fun k hk => absurd hk (Nat.not_lt_zero k)⟩, fun k hk => absurd hk (Nat.not_lt_zero k)⟩, fun k hk ht => absurd (zz 182 k (by omega)) ht, fun k hk => (zz 182 k (by omega)).trans (zz 266 k (by omega)).symm, fun w hw c hc => ⟨?_, ?_⟩⟩
  · exact (zz 2 i (by omega)).trans (zz 236 _ (by omega)).symm
  · show bC (miF 2 i)
    rw [zz 2 i (by omega)]; unfold bC; decide
  · exact q2.trans (zz 238 0 (by omega)).symm
  · exact q3.trans q4.symm
  · show miF 230 (4 * w + c) = _
    rw [mF_eq, pm_up_row _ _ (by decide), pm_ur_k _ _ (by decide), pm_ur_k _ _ (by decide), pm_ur_s]
    unfold wRf
    rw [if_pos (by omega), show (4 * w + c) / 4 = w by omega, show (4 * w + c) % 4 = c by omega]; rfl
  · show miF 231 (4 * w + c) = _
    rw [mF_eq, pm_up_row _ _ (by decide), pm_ur_k _ _ (by decide), pm_ur_s]
    unfold aRf
    rw [if_pos (by omega)]
