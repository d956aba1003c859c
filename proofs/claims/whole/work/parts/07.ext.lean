/-! rules: what lies outside: RANGES, String constants -/
section PMX
variable {l : Launch} {M : pm_M} {d mc ms pc : Nat} {L : List (Option Value)} {S : List Value} {cs ss : Nat} {kd : pm_K} {mi : pm_I} {ml : pm_L} {mr : pm_R} {Q : pm_Q}
theorem wp_rng {i : Nat} (hd : decode M.2.1 pc = .ok (.getstatic i, 3)) (hw : Cond.fieldLink M.1.cls i "CityChords" "RANGES" "[I" ∈ pm_tbl ∨ Cond.fieldLinkNest M.1.cls i "CityChords" "RANGES" "[I" "CityChords" ∈ pm_tbn) (k9 : wp l M d mc ms (pc + 3) L (.retAddr 9 :: S) cs ss kd mi ml mr Q) : wp l M d mc ms pc L S cs ss kd mi ml mr Q := by
  intro p e s m args below meth c H locs D dA ad sx A ls n0 ad0 C hn hL hS hW hF h1 h2
  have K := k9 p e s m args below meth c H locs D dA ad sx A ls n0 ad0 C hn hL (pm_sc trivial hS) hW hF h1 h2
  obtain ⟨e1, e2, -, -, -, e6, e7, -, -, -, e11⟩ := id C
  rcases hw with hw | hw
  · exact va_gets e1 e2 e11.1 hF e6 (e7 _ hw) (fun _ z => z) hd K
  · exact va_getsN e1 e2 e11.1 hF e6 (C.N hw) (fun _ z => z) hd K
theorem wp_cst {i : Nat} (hd : decode M.2.1 pc = .ok (.getstatic i, 3)) (hw : Cond.fieldLink M.1.cls i "java/lang/String" "COMPACT_STRINGS" "Z" ∈ pm_tbl) (k9 : wp l M d mc ms (pc + 3) L (.int 1 :: S) cs ss kd mi ml mr Q) : wp l M d mc ms pc L S cs ss kd mi ml mr Q := by
  intro p e s m args below meth c H locs D dA ad sx A ls n0 ad0 C hn hL hS hW hF h1 h2
  have K := k9 p e s m args below meth c H locs D dA ad sx A ls n0 ad0 C hn hL (pm_sc trivial hS) hW hF h1 h2
  obtain ⟨e1, e2, -, -, -, e6, e7, -, -, -, e11⟩ := id C
  exact va_gets e1 e2 e11.2.2.1 hF e6 (e7 _ hw) (fun _ z => z) hd K
theorem pm_taken {n : Nat} {i : Int32} (h : vp_in i n) {cell : Cell} (hn : n ≤ cell.slots.size) : i.toNatClampNeg < n ∧ ¬ (i < 0 ∨ cell.slots.size ≤ i.toNatClampNeg) := by
  have h1 : i.toNatClampNeg < n := Nat.not_le.mp fun q => h (Or.inr q)
  exact ⟨h1, fun z => z.elim (fun q => h (Or.inl q)) (fun q => by omega)⟩
theorem wp_rald {i : Int32} {v : Int32} (hd : decode M.2.1 pc = .ok (.iaload, 1)) (hi : vp_in i 4) (hv : pm_rng i.toNatClampNeg = .int v) (k9 : wp l M d mc ms (pc + 1) L (.int v :: S) cs ss kd mi ml mr Q) : wp l M d mc ms pc L (.int i :: .retAddr 9 :: S) cs ss kd mi ml mr Q := by
  intro p e s m args below meth c H locs D dA ad sx A ls n0 ad0 C hn hL hS hW hF h1 h2
  have K := k9 p e s m args below meth c H locs D dA ad sx A ls n0 ad0 C hn hL (pm_sc trivial (pm_st (pm_st hS))) hW hF h1 h2
  obtain ⟨e1, e2, -, -, -, e6, e7, -, -, -, e11⟩ := id C
  obtain ⟨cell, q1, q2, q3, q4, q5, q6, q7⟩ := e11.2.1.kept hF.2.1
  obtain ⟨r1, r2⟩ := pm_taken hi q4
  exact W.iald e1 e2 q1 q2 q3 r2 (by rw [q6 _ r1, hv]; rfl) rfl rfl hd K
theorem wp_rlen {v : Int32} (hd : decode M.2.1 pc = .ok (.arraylength, 1)) (k9 : wp l M d mc ms (pc + 1) L (.int 4 :: S) cs ss kd mi ml mr Q) : wp l M d mc ms pc L (.retAddr 9 :: S) cs ss kd mi ml mr Q := by
  intro p e s m args below meth c H locs D dA ad sx A ls n0 ad0 C hn hL hS hW hF h1 h2
  have K := k9 p e s m args below meth c H locs D dA ad sx A ls n0 ad0 C hn hL (pm_sc trivial (pm_st hS)) hW hF h1 h2
  obtain ⟨e1, e2, -, -, -, e6, e7, -, -, -, e11⟩ := id C
  obtain ⟨cell, q1, q2, q3, q4, q5, q6, q7⟩ := e11.2.1.kept hF.2.1
  exact W.alen e1 e2 q1 q2 q5 rfl rfl hd K
-- a String constant's own fields, its bytes
theorem wp_sget_value {i k : Nat} (hk : k < 5) (hd : decode M.2.1 pc = .ok (.getfield i, 3)) (hw : Cond.fieldLink M.1.cls i "java/lang/String" "value" "[B" ∈ pm_tbl) (k9 : wp l M d mc ms (pc + 3) L (.retAddr (10 + k) :: S) cs ss kd mi ml mr Q) : wp l M d mc ms pc L (.retAddr k :: S) cs ss kd mi ml mr Q := by
  intro p e s m args below meth c H locs D dA ad sx A ls n0 ad0 C hn hL hS hW hF h1 h2
  have K := k9 p e s m args below meth c H locs D dA ad sx A ls n0 ad0 C hn hL (pm_sc trivial (pm_st hS)) hW hF h1 h2
  obtain ⟨e1, e2, -, -, -, e6, e7, -, -, -, e11⟩ := id C
  exact vk_getf e1 e2 (e11.2.2.2.1.1 k hk).2.2.1 hF e6 (e7 _ hw) (fun _ z => z) hd K
theorem wp_sget_coder {i k : Nat} (hk : k < 5) (hd : decode M.2.1 pc = .ok (.getfield i, 3)) (hw : Cond.fieldLink M.1.cls i "java/lang/String" "coder" "B" ∈ pm_tbl) (k9 : wp l M d mc ms (pc + 3) L (.int 0 :: S) cs ss kd mi ml mr Q) : wp l M d mc ms pc L (.retAddr k :: S) cs ss kd mi ml mr Q := by
  intro p e s m args below meth c H locs D dA ad sx A ls n0 ad0 C hn hL hS hW hF h1 h2
  have K := k9 p e s m args below meth c H locs D dA ad sx A ls n0 ad0 C hn hL (pm_sc trivial (pm_st hS)) hW hF h1 h2
  obtain ⟨e1, e2, -, -, -, e6, e7, -, -, -, e11⟩ := id C
  exact vk_getf e1 e2 (e11.2.2.2.1.1 k hk).2.1 hF e6 (e7 _ hw) (fun _ z => z) hd K
theorem wp_slen {k : Nat} {v : Int32} (hk : k < 5) (hd : decode M.2.1 pc = .ok (.arraylength, 1)) (hv : Int32.ofNat (pm_len.getD k 0) = v) (k9 : wp l M d mc ms (pc + 1) L (.int v :: S) cs ss kd mi ml mr Q) : wp l M d mc ms pc L (.retAddr (10 + k) :: S) cs ss kd mi ml mr Q := by
  intro p e s m args below meth c H locs D dA ad sx A ls n0 ad0 C hn hL hS hW hF h1 h2
  have K := k9 p e s m args below meth c H locs D dA ad sx A ls n0 ad0 C hn hL (pm_sc trivial (pm_st hS)) hW hF h1 h2
  obtain ⟨e1, e2, -, -, -, e6, e7, -, -, -, e11⟩ := id C
  obtain ⟨cell, q1, q2, q3, q4, q5, q6, q7⟩ := (e11.2.2.2.1.1 k hk).2.2.2.kept hF.2.1
  exact W.alen e1 e2 q1 q2 (q5.trans hv) rfl rfl hd K
theorem wp_sbald {k : Nat} {i : Int32} (hk : k < 5) (hd : decode M.2.1 pc = .ok (.baload, 1)) (hi : vp_in i (pm_len.getD k 0)) (k9 : wp l M d mc ms (pc + 1) L (.int ((pm_byt.getD k []).getD i.toNatClampNeg 0) :: S) cs ss kd mi ml mr Q) : wp l M d mc ms pc L (.int i :: .retAddr (10 + k) :: S) cs ss kd mi ml mr Q := by
  intro p e s m args below meth c H locs D dA ad sx A ls n0 ad0 C hn hL hS hW hF h1 h2
  have K := k9 p e s m args below meth c H locs D dA ad sx A ls n0 ad0 C hn hL (pm_sc trivial (pm_st (pm_st hS))) hW hF h1 h2
  obtain ⟨e1, e2, -, -, -, e6, e7, -, -, -, e11⟩ := id C
  obtain ⟨cell, q1, q2, q3, q4, q5, q6, q7⟩ := (e11.2.2.2.1.1 k hk).2.2.2.kept hF.2.1
  obtain ⟨r1, r2⟩ := pm_taken hi q4
  exact W.bald e1 e2 q1 q2 q3 r2 (q6 _ r1) rfl rfl hd K
end PMX
