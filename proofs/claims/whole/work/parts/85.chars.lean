/-! String constants: charAt -/
section CHARS
variable {l : Launch} {M : pm_M} {d mc ms pc : Nat} {L : List (Option Value)} {S : List Value} {cs ss : Nat} {kd : pm_K} {mi : pm_I} {ml : pm_L} {mr : pm_R} {Q : pm_Q}
theorem wp_fmt {i : Nat} (hd : decode M.2.1 pc = .ok (.getstatic i, 3)) (hw : Cond.fieldLink M.1.cls i "jdk/internal/util/Preconditions" "SIOOBE_FORMATTER" "Ljava/util/function/BiFunction;" ∈ pm_tbl) (k9 : ∀ v, v = .null ∨ v = .retAddr 20 → wp l M d mc ms (pc + 3) L (v :: S) cs ss kd mi ml mr Q) : wp l M d mc ms pc L S cs ss kd mi ml mr Q := by
  intro p e s m args below meth c H locs D dA ad sx A ls n0 ad0 C hn hL hS hW hF h1 h2
  obtain ⟨e1, e2, -, -, -, e6, e7, -, -, -, e11⟩ := id C
  rcases e11.2.2.2.2.2.1.2 with hz | hz
  · exact va_gets e1 e2 hz hF e6 (e7 _ hw) (fun _ z => z) hd (k9 _ (Or.inl rfl) p e s m args below meth c H locs D dA ad sx A ls n0 ad0 C hn hL (pm_sc trivial hS) hW hF h1 h2)
  · exact va_gets e1 e2 hz hF e6 (e7 _ hw) (fun _ z => z) hd (k9 _ (Or.inr rfl) p e s m args below meth c H locs D dA ad sx A ls n0 ad0 C hn hL (pm_sc trivial hS) hW hF h1 h2)
end CHARS
section CHARS2
variable {l : Launch} {d : Nat} {kd : pm_K} {mi : pm_I} {ml : pm_L} {mr : pm_R}
theorem w_J3_checkIndex {i n : Int32} {v : Value} {K : Int32 → pm_I → pm_L → Prop} (hv : v = .null ∨ v = .retAddr 20) (h0 : ¬ i < 0) (h1 : i < n) (k9 : K i mi ml) : wI l M_J3_checkIndex_8e157 d [.int i, .int n, v] kd mr mi ml K := by
  rcases hv with rfl | rfl
  · show wp l M_J3_checkIndex_8e157 d 0 0 0 [some (.int i), some (.int n), some .null] [] 0 0 kd mi ml mr _
    refine wp_iload_n (pc := 0) dJ3_checkIndex_8e157_0 rfl ?_
    refine wp_if_lt (tgt := 9) (pc := 1) dJ3_checkIndex_8e157_1 (by decide) (fun c => absurd c h0) (fun _ => ?_)
    refine wp_iload_n (pc := 4) dJ3_checkIndex_8e157_4 rfl ?_
    refine wp_iload_n (pc := 5) dJ3_checkIndex_8e157_5 rfl ?_
    refine wp_icmp_lt (tgt := 16) (pc := 6) dJ3_checkIndex_8e157_6 (by decide) (fun _ => ?_) (fun c => absurd h1 c)
    refine wp_iload_n (pc := 16) dJ3_checkIndex_8e157_16 rfl ?_
    exact r_I (pc := 17) dJ3_checkIndex_8e157_17 rfl k9
  · show wp l M_J3_checkIndex_8e157 d 0 0 0 [some (.int i), some (.int n), some (.retAddr 20)] [] 0 0 kd mi ml mr _
    refine wp_iload_n (pc := 0) dJ3_checkIndex_8e157_0 rfl ?_
    refine wp_if_lt (tgt := 9) (pc := 1) dJ3_checkIndex_8e157_1 (by decide) (fun c => absurd c h0) (fun _ => ?_)
    refine wp_iload_n (pc := 4) dJ3_checkIndex_8e157_4 rfl ?_
    refine wp_iload_n (pc := 5) dJ3_checkIndex_8e157_5 rfl ?_
    refine wp_icmp_lt (tgt := 16) (pc := 6) dJ3_checkIndex_8e157_6 (by decide) (fun _ => ?_) (fun c => absurd h1 c)
    refine wp_iload_n (pc := 16) dJ3_checkIndex_8e157_16 rfl ?_
    exact r_I (pc := 17) dJ3_checkIndex_8e157_17 rfl k9
theorem w_J0_checkIndex {i n : Int32} {K : pm_I → pm_L → Prop} (h0 : ¬ i < 0) (h1 : i < n) (k9 : K mi ml) : wV l M_J0_checkIndex_df160 (d + 1) [.int i, .int n] kd mr mi ml K := by
  show wp l M_J0_checkIndex_df160 (d + 1) 0 0 0 [some (.int i), some (.int n)] [] 0 0 kd mi ml mr _
  refine wp_iload_n (pc := 0) dJ0_checkIndex_df160_0 rfl ?_
  refine wp_iload_n (pc := 1) dJ0_checkIndex_df160_1 rfl ?_
  refine wp_fmt (pc := 2) dJ0_checkIndex_df160_2 (tb_3 61 rfl rfl) fun v hv => ?_
  have hw3 : pm_wd [.int i, .int n, v] ≤ 3 := by rcases hv with rfl | rfl <;> exact Nat.le_of_ble_eq_true rfl
  refine csI [.int i, .int n, v] [] (pc := 5) dJ0_checkIndex_df160_5 ml_J0_1059 st_J3_checkIndex_8e157 rfl rfl hw3 (Nat.le_of_ble_eq_true rfl) (w_J3_checkIndex hv h0 h1 ?_)
  refine wp_pop (pc := 8) dJ0_checkIndex_df160_8 rfl ?_
  exact r_V (pc := 9) dJ0_checkIndex_df160_9 rfl k9
/-- the j-th sign of the k-th constant -/
def chS (k j : Nat) : Nat := ((pm_byt.getD k []).getD j 0).toNatClampNeg
def chV (k j : Nat) : Int32 := (Int32.toUInt32 (((pm_byt.getD k []).getD j 0) &&& 255) % 65536).toInt32
theorem ch_ok : ∀ k, k < 5 → ∀ j, j < pm_len.getD k 0 → chV k j = nI (chS k j) ∧ chS k j < 128 := by decide +kernel
theorem ch_len : ∀ k, k < 5 → pm_len.getD k 0 ≤ 100 ∧ Int32.ofNat (pm_len.getD k 0) >>> ((0 : Int32) &&& 31) = nI (pm_len.getD k 0) := by decide +kernel
theorem ch_nar (c : Nat) (hc : c < 128) : narrow .char (.int (nI c)) = .int (nI c) := by
  have h : ∀ c, c < 128 → ((nI c).toUInt32 % 65536).toInt32 = nI c := by decide +kernel
  show Value.int _ = _
  exact congrArg Value.int (h c hc)
theorem s_charAt {k j : Nat} {x : Int32} {K : Int32 → pm_I → pm_L → Prop} (hk : k < 5) (hx : x = nI j) (hj : j < pm_len.getD k 0) (k9 : K (nI (chS k j)) mi ml) : wI l M_J0_charAt_5068e (d + 3) [.retAddr k, .int x] kd mr mi ml K := by
  subst hx
  obtain ⟨l1, l2⟩ := ch_len k hk
  obtain ⟨c1, c2⟩ := ch_ok k hk j hj
  have hn := ch_nar _ c2
  refine w_J0_charAt_5068e hk (w_J0_isLatin1_aae02 hk ⟨fun h => (by cases h), fun _ => w_J1_charAt_3b067 hk (w_J0_checkIndex (nI_pos (by omega)) ?_ ⟨z_in hj (by omega), ?_⟩)⟩)
  · show nI j < nI (pm_len.getD k 0)
    rw [z_lt (by omega) (by omega)]; exact hj
  · rw [z_cl (by omega)]
    have e : (Int32.toUInt32 (((pm_byt.getD k []).getD j 0) &&& 255) % 65536).toInt32 = nI (chS k j) := c1
    rw [e]
    exact ⟨hn, hn, k9⟩
theorem s_strLen {k : Nat} {K : Int32 → pm_I → pm_L → Prop} (hk : k < 5) (k9 : K (nI (pm_len.getD k 0)) mi ml) : wI l M_J0_length_8abf5 (d + 1) [.retAddr k] kd mr mi ml K := by
  refine w_J0_length_8abf5 hk (w_J0_coder_7d493 hk ?_)
  rw [(ch_len k hk).2]; exact k9
end CHARS2
