/-! count, fault, end; deed and fact -/
def tRW (mi : pm_I) (T z t m s off zr w : Nat) : Prop := m ≤ 2 ∧ mi (T + 2) s = nI m ∧ mi (z + 5) (4 * t + s) = nI m ∧ ∀ k, k < m → RR mi (T + off + 19 * k) 0 (fun j => mi zr (2 * w * t + w * k + j))
def rowsF (q : Nat → Int32) (c0 : Nat) (b c : Int32) : Int32 := if b = -1 then (if c = 0 then q c0 else -2) else if isK b (gN q c0) = true ∧ isK c 3 = true then q (c0 + 1 + 3 * b.toNatClampNeg + c.toNatClampNeg) else -2
section ROWS
variable {l : Launch} {d x z o T : Nat} {kd : pm_K} {mr : pm_R} {mi : pm_I} {ml : pm_L} {q : Nat → Int32} {m : Nat}
theorem z_i3 (c : Int32) : (c.toInt < 0 ∨ 2 < c.toInt → isK c 3 = false) ∧ ∀ i : Nat, i < 3 → c.toInt = (i : Int) → c = nI i ∧ isK c 3 = true := by
  constructor
  · intro h
    rcases z_cases c with h2 | ⟨n, hn, rfl⟩
    · exact isK_neg h2 3
    · rw [z_toInt hn] at h
      rw [isK_nI hn]
      simp; omega
  · intro i hi h
    have : c = nI i := Int32.toInt_inj.mp (by rw [h, z_toInt (by omega)])
    subst this
    exact ⟨rfl, by rw [isK_nI (by omega)]; simp; omega⟩
theorem s_tellX {c0 : Nat} {b c : Int32} {K : Int32 → pm_I → pm_L → Prop} (to : TX6s kd mr o) (R : RR mi o c0 q) (k9 : K (rowsF q c0 b c) mi ml) : wI l M_X6_tell d [.ref o, .int b, .int c] kd mr mi ml K := by
  obtain ⟨n, hn, e1, e2, e3⟩ := R
  have eg : gN q c0 = n := by unfold gN; rw [e2, z_cl (by omega)]
  refine w_X6_tell to ⟨fun h1 => ?_, fun h1 => ?_⟩
  · unfold rowsF at k9
    rw [if_neg h1, eg] at k9
    refine ⟨fun h2 => ?_, fun h2 => ?_⟩
    · rw [isK_neg h2, if_neg (by simp)] at k9; exact k9
    · obtain ⟨i, hi, rfl⟩ := (z_cases b).resolve_left h2
      rw [e1, z_lt hi (by omega)]
      rw [isK_nI hi, z_cl hi] at k9
      refine ⟨fun h3 => ⟨fun h4 => ?_, fun h4 => ?_, fun h4 => ?_, fun h4 => ?_⟩, fun h3 => ?_⟩
      · rw [(z_i3 c).1 h4, if_neg (by simp)] at k9; exact k9
      · obtain ⟨rfl, h5⟩ := (z_i3 c).2 0 (by omega) h4
        rw [h5, if_pos (by simp [h3])] at k9
        refine ⟨z_in (by omega) (by omega), ?_⟩
        rw [z_cl hi, (e3 i h3).1]; exact k9
      · obtain ⟨rfl, h5⟩ := (z_i3 c).2 1 (by omega) h4
        rw [h5, if_pos (by simp [h3])] at k9
        refine ⟨z_in (by omega) (by omega), ?_⟩
        rw [z_cl hi, (e3 i h3).2.1]; exact k9
      · obtain ⟨rfl, h5⟩ := (z_i3 c).2 2 (by omega) h4
        rw [h5, if_pos (by simp [h3])] at k9
        refine ⟨z_in (by omega) (by omega), ?_⟩
        rw [z_cl hi, (e3 i h3).2.2]; exact k9
      · rw [if_neg (by simp [h3])] at k9; exact k9
  · unfold rowsF at k9
    rw [if_pos h1, e2] at k9
    rw [e1]; exact k9
theorem t_deedX {t : Nat} {a b c : Int32} {K : Int32 → pm_I → pm_L → Prop} (tx : TX11s kd mr x) (I : tRW mi (x + 1) z t m 1 13 (z + 7) 121) (k9 : ∀ v, vK a m (-2) (fun k v => v = rowsF (fun j => mi (z + 7) (2 * 121 * t + 121 * k + j)) 0 b c) v → K v mi ml) : wI l M_X11_deed (d + 2) [.ref x, .int a, .int b, .int c] kd mr mi ml K := by
  obtain ⟨hm, e1, -, e2⟩ := I
  have tT := TX11s_a0 tx
  refine w_X11_deed tx (w_X9_nightAt tT (s_hasOne (s := 1) tT rfl (by omega) e1 hm ⟨fun h => ⟨fun _ => k9 _ (vK_no h), fun b hb => (by cases hb)⟩, fun h => ?_⟩))
  obtain ⟨k, hk, hk2, rfl⟩ := isK_iff.mp h
  have hobj : mr (x + 1 + 4) k = some (x + 1 + 13 + 19 * k) ∧ TX6s kd mr (x + 1 + 13 + 19 * k) := by
    rcases (show k = 0 ∨ k = 1 by omega) with rfl | rfl
    · exact ⟨TX9s_e4_0 tT, TX9s_o4_0 tT⟩
    · exact ⟨TX9s_e4_1 tT, TX9s_o4_1 tT⟩
  refine ⟨z_in (by omega) (by omega), _, by rw [z_cl hk2]; exact hobj.1, hobj.2, fun hb => (by cases hb), fun b5 hb => ?_⟩
  cases hb
  exact ⟨hobj.2, s_tellX hobj.2 (e2 k hk) (k9 _ (vK_yes hk hk2 rfl rfl))⟩
theorem t_factX {t : Nat} {a b c : Int32} {K : Int32 → pm_I → pm_L → Prop} (tx : TX11s kd mr x) (I : tRW mi (x + 1) z t m 3 22 (z + 9) 31) (k9 : ∀ v, vK a m (-2) (fun k v => v = rowsF (fun j => mi (z + 9) (2 * 31 * t + 31 * k + j)) 0 b c) v → K v mi ml) : wI l M_X11_fact (d + 2) [.ref x, .int a, .int b, .int c] kd mr mi ml K := by
  obtain ⟨hm, e1, -, e2⟩ := I
  have tT := TX11s_a0 tx
  refine w_X11_fact tx (w_X9_sightAt tT (s_hasOne (s := 3) tT rfl (by omega) e1 hm ⟨fun h => ⟨fun _ => k9 _ (vK_no h), fun b hb => (by cases hb)⟩, fun h => ?_⟩))
  obtain ⟨k, hk, hk2, rfl⟩ := isK_iff.mp h
  have hobj : mr (x + 1 + 6) k = some (x + 1 + 22 + 19 * k) ∧ TX6s kd mr (x + 1 + 22 + 19 * k) := by
    rcases (show k = 0 ∨ k = 1 by omega) with rfl | rfl
    · exact ⟨TX9s_e6_0 tT, TX9s_o6_0 tT⟩
    · exact ⟨TX9s_e6_1 tT, TX9s_o6_1 tT⟩
  refine ⟨z_in (by omega) (by omega), _, by rw [z_cl hk2]; exact hobj.1, hobj.2, fun hb => (by cases hb), fun b5 hb => ?_⟩
  cases hb
  exact ⟨hobj.2, s_tellX hobj.2 (e2 k hk) (k9 _ (vK_yes hk hk2 rfl rfl))⟩
theorem t_deedZ {a b c : Int32} {K : Int32 → pm_I → pm_L → Prop} (tz : TX12s kd mr z) (I : tRW mi T z 0 m 1 13 (z + 7) 121) (k9 : ∀ v mi', vK a m (-2) (fun k v => v = rowsF (fun j => mi (z + 7) (2 * 121 * 0 + 121 * k + j)) 0 b c) v → frZ z mi mi' ml ml → K v mi' ml) : wI l M_X12_deed (d + 3) [.ref z, .int a, .int b, .int c] kd mr mi ml K := by
  obtain ⟨hm, -, e1, e2⟩ := I
  have f1 : frZ z mi (pm_up (pm_up mi z 0 0) z 30 a) ml ml := (frZ.upI (Or.inl rfl)).tr (frZ.upI (Or.inl rfl))
  have g5 : pm_up (pm_up mi z 0 0) z 30 a (z + 5) 1 = nI m := by rw [pm_up_row _ _ (by omega), pm_up_row _ _ (by omega)]; exact e1
  refine w_X12_deed tz (w_X12_hasNight tz (s_is (s := 1) tz rfl (by omega) g5 (by omega) ⟨fun h => ?_, fun h => k9 _ _ (vK_no h) f1⟩))
  obtain ⟨k, hk, hk2, rfl⟩ := isK_iff.mp h
  obtain ⟨n, hn, -, e3, -⟩ := e2 k hk
  have eq0 : ∀ j, 2 * 121 * 0 + 121 * k + j = 121 * k + j := fun j => by omega
  simp only [eq0] at e3
  have h7 : pm_up (pm_up mi z 0 0) z 30 (nI k) (z + 7) = mi (z + 7) := by rw [pm_up_row _ _ (by omega), pm_up_row _ _ (by omega)]
  have h30 : pm_up (pm_up mi z 0 0) z 30 (nI k) z 30 = nI k := pm_up_s _ _ _ _
  have ed : (121 : Int32) * nI k = nI (121 * k) := z_mul 121 k
  have hrow : ∀ v, v = rowsF (fun j => mi (z + 7) (121 * k + j)) 0 b c → K v (pm_up (pm_up mi z 0 0) z 30 (nI k)) ml := fun v hv => k9 _ _ (vK_yes hk hk2 rfl (by simp only [eq0]; exact hv)) f1
  have eg : gN (fun j => mi (z + 7) (121 * k + j)) 0 = n := by
    show (mi (z + 7) (121 * k + 0)).toNatClampNeg = n
    rw [e3, z_cl (by omega)]
  refine ⟨fun hb => ?_, fun hb => ?_⟩
  · refine w_X12_deeds tz ?_
    rw [h30, ed, z_cl (by omega), h7]
    refine ⟨z_in (by omega) (by omega), ?_⟩
    have e3' : mi (z + 7) (121 * k) = nI n := e3
    rw [e3']
    refine s_in (by omega) ⟨fun h2 => hrow _ ?_, fun h2 => w_X12_in ?_⟩
    · unfold rowsF; rw [if_neg hb, eg, h2, if_neg (by simp)]
    · have e9 : (!decide (c < 0) && !decide ((2 : Int32) < c)) = isK c 3 := z_cut c (m := 3) (by omega)
      rw [e9]
      refine ⟨fun h3 => hrow _ ?_, fun h3 => w_X12_deedOf tz ?_⟩
      · unfold rowsF; rw [if_neg hb, h3, if_neg (by simp)]
      · obtain ⟨i, hi, hi2, rfl⟩ := isK_iff.mp h2
        obtain ⟨j, hj, hj2, rfl⟩ := isK_iff.mp h3
        have ea : (121 : Int32) * nI k + 1 + 3 * nI i + nI j = nI (121 * k + 1 + 3 * i + j) := by
          rw [ed, nI_1, show (3 : Int32) * nI i = nI (3 * i) from z_mul 3 i, nI_add, nI_add]
        rw [h30, ea, z_cl (by omega), h7]
        refine ⟨z_in (by omega) (by omega), hrow _ ?_⟩
        unfold rowsF
        rw [if_neg hb, eg, if_pos ⟨h2, h3⟩, z_cl hi2, z_cl hj2]
        congr 1; omega
  · refine ⟨fun hc => hrow _ (by unfold rowsF; rw [if_pos hb, if_neg hc]), fun hc => w_X12_deeds tz ?_⟩
    rw [h30, ed, z_cl (by omega), h7]
    exact ⟨z_in (by omega) (by omega), hrow _ (by unfold rowsF; rw [if_pos hb, if_pos hc]; rfl)⟩
theorem t_factZ {a b c : Int32} {K : Int32 → pm_I → pm_L → Prop} (tz : TX12s kd mr z) (I : tRW mi T z 0 m 3 22 (z + 9) 31) (k9 : ∀ v mi', vK a m (-2) (fun k v => v = rowsF (fun j => mi (z + 9) (2 * 31 * 0 + 31 * k + j)) 0 b c) v → frZ z mi mi' ml ml → K v mi' ml) : wI l M_X12_fact (d + 3) [.ref z, .int a, .int b, .int c] kd mr mi ml K := by
  obtain ⟨hm, -, e1, e2⟩ := I
  have f1 : frZ z mi (pm_up (pm_up mi z 0 0) z 49 a) ml ml := (frZ.upI (Or.inl rfl)).tr (frZ.upI (Or.inl rfl))
  have g5 : pm_up (pm_up mi z 0 0) z 49 a (z + 5) 3 = nI m := by rw [pm_up_row _ _ (by omega), pm_up_row _ _ (by omega)]; exact e1
  refine w_X12_fact tz (w_X12_hasSight tz (s_is (s := 3) tz rfl (by omega) g5 (by omega) ⟨fun h => ?_, fun h => k9 _ _ (vK_no h) f1⟩))
  obtain ⟨k, hk, hk2, rfl⟩ := isK_iff.mp h
  obtain ⟨n, hn, -, e3, -⟩ := e2 k hk
  have eq0 : ∀ j, 2 * 31 * 0 + 31 * k + j = 31 * k + j := fun j => by omega
  simp only [eq0] at e3
  have h7 : pm_up (pm_up mi z 0 0) z 49 (nI k) (z + 9) = mi (z + 9) := by rw [pm_up_row _ _ (by omega), pm_up_row _ _ (by omega)]
  have h49 : pm_up (pm_up mi z 0 0) z 49 (nI k) z 49 = nI k := pm_up_s _ _ _ _
  have ed : (31 : Int32) * nI k = nI (31 * k) := z_mul 31 k
  have hrow : ∀ v, v = rowsF (fun j => mi (z + 9) (31 * k + j)) 0 b c → K v (pm_up (pm_up mi z 0 0) z 49 (nI k)) ml := fun v hv => k9 _ _ (vK_yes hk hk2 rfl (by simp only [eq0]; exact hv)) f1
  have eg : gN (fun j => mi (z + 9) (31 * k + j)) 0 = n := by
    show (mi (z + 9) (31 * k + 0)).toNatClampNeg = n
    rw [e3, z_cl (by omega)]
  refine ⟨fun hb => ?_, fun hb => ?_⟩
  · refine w_X12_facts tz ?_
    rw [h49, ed, z_cl (by omega), h7]
    refine ⟨z_in (by omega) (by omega), ?_⟩
    have e3' : mi (z + 9) (31 * k) = nI n := e3
    rw [e3']
    refine s_in (by omega) ⟨fun h2 => hrow _ ?_, fun h2 => w_X12_in ?_⟩
    · unfold rowsF; rw [if_neg hb, eg, h2, if_neg (by simp)]
    · have e9 : (!decide (c < 0) && !decide ((2 : Int32) < c)) = isK c 3 := z_cut c (m := 3) (by omega)
      rw [e9]
      refine ⟨fun h3 => hrow _ ?_, fun h3 => w_X12_factOf tz ?_⟩
      · unfold rowsF; rw [if_neg hb, h3, if_neg (by simp)]
      · obtain ⟨i, hi, hi2, rfl⟩ := isK_iff.mp h2
        obtain ⟨j, hj, hj2, rfl⟩ := isK_iff.mp h3
        have ea : (31 : Int32) * nI k + 1 + 3 * nI i + nI j = nI (31 * k + 1 + 3 * i + j) := by
          rw [ed, nI_1, show (3 : Int32) * nI i = nI (3 * i) from z_mul 3 i, nI_add, nI_add]
        rw [h49, ea, z_cl (by omega), h7]
        refine ⟨z_in (by omega) (by omega), hrow _ ?_⟩
        unfold rowsF
        rw [if_neg hb, eg, if_pos ⟨h2, h3⟩, z_cl hi2, z_cl hj2]
        congr 1; omega
  · refine ⟨fun hc => hrow _ (by unfold rowsF; rw [if_pos hb, if_neg hc]), fun hc => w_X12_facts tz ?_⟩
    rw [h49, ed, z_cl (by omega), h7]
    exact ⟨z_in (by omega) (by omega), hrow _ (by unfold rowsF; rw [if_pos hb, if_pos hc]; rfl)⟩
end ROWS
