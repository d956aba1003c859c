/-! constructors, by program (gen/mk70.py) -/
def rX9_0 (mr : pm_R) (h n : Nat) : pm_R := (pm_up (pm_up (pm_up mr (h) 0 (some (n))) (h) 4 (some (n + 1))) (h) 5 (some (n + 2)))
def iX9_0 (mi : pm_I) (h n : Nat) : pm_I := (pm_up mi h 3 (-1))
def kX9_0 : pm_K := [(3, 600)] ++ ([(1, 4)] ++ ([(5, 2)]))
theorem rX9_0_ge {h n a : Nat} {mr : pm_R} (hlt : h < n) (ha : n + 3 ≤ a) : rX9_0 mr h n a = mr a := by
  unfold rX9_0; rw [pm_up_row _ _ (by omega), pm_up_row _ _ (by omega), pm_up_row _ _ (by omega)]
theorem iX9_0_ge {h n a : Nat} {mi : pm_I} (hlt : h < n) (ha : n + 3 ≤ a) : iX9_0 mi h n a = mi a := by
  unfold iX9_0; rw [pm_up_row _ _ (by omega)]
theorem rX9_0_lt {h n a : Nat} {mr : pm_R} (hlt : h < n) (ha : a < h) : rX9_0 mr h n a = mr a := by
  unfold rX9_0; rw [pm_up_row _ _ (by omega), pm_up_row _ _ (by omega), pm_up_row _ _ (by omega)]
theorem iX9_0_lt {h n a : Nat} {mi : pm_I} (hlt : h < n) (ha : a < h) : iX9_0 mi h n a = mi a := by
  unfold iX9_0; rw [pm_up_row _ _ (by omega)]
def rX9_1 (mr : pm_R) (h n : Nat) : pm_R := (pm_up (pm_up (pm_up mr (h) 6 (some (n + 3))) (h) 7 (some (n + 4))) (h) 8 (some (n + 5)))
def iX9_1 (mi : pm_I) (h n : Nat) : pm_I := mi
def kX9_1 : pm_K := [(6, 2)] ++ ([(7, 2)] ++ ([(6, 2)]))
theorem rX9_1_ge {h n a : Nat} {mr : pm_R} (hlt : h < n) (ha : n + 6 ≤ a) : rX9_1 mr h n a = mr a := by
  unfold rX9_1; rw [pm_up_row _ _ (by omega), pm_up_row _ _ (by omega), pm_up_row _ _ (by omega)]
theorem iX9_1_ge {h n a : Nat} {mi : pm_I} (hlt : h < n) (ha : n + 6 ≤ a) : iX9_1 mi h n a = mi a := by
  unfold iX9_1; rfl
theorem rX9_1_lt {h n a : Nat} {mr : pm_R} (hlt : h < n) (ha : a < h) : rX9_1 mr h n a = mr a := by
  unfold rX9_1; rw [pm_up_row _ _ (by omega), pm_up_row _ _ (by omega), pm_up_row _ _ (by omega)]
theorem iX9_1_lt {h n a : Nat} {mi : pm_I} (hlt : h < n) (ha : a < h) : iX9_1 mi h n a = mi a := by
  unfold iX9_1; rfl
def rX9_2 (mr : pm_R) (h n : Nat) : pm_R := (pm_up (rX6 (pm_up (rX0 mr (n + 6) (n + 7)) (n + 2) 0 (some (n + 6))) (n + 12) (n + 13)) (n + 3) 0 (some (n + 12)))
def iX9_2 (mi : pm_I) (h n : Nat) : pm_I := mi
def kX9_2 : pm_K := [(0, 0)] ++ (kX0 ++ ([(0, 6)] ++ (kX6)))
theorem rX9_2_ge {h n a : Nat} {mr : pm_R} (hlt : h < n) (ha : n + 16 ≤ a) : rX9_2 mr h n a = mr a := by
  unfold rX9_2; rw [pm_up_row _ _ (by omega), rX6_ge (by omega) (by omega), pm_up_row _ _ (by omega), rX0_ge (by omega) (by omega)]
theorem iX9_2_ge {h n a : Nat} {mi : pm_I} (hlt : h < n) (ha : n + 16 ≤ a) : iX9_2 mi h n a = mi a := by
  unfold iX9_2; rfl
theorem rX9_2_lt {h n a : Nat} {mr : pm_R} (hlt : h < n) (ha : a < h) : rX9_2 mr h n a = mr a := by
  unfold rX9_2; rw [pm_up_row _ _ (by omega), rX6_lt (by omega) (by omega), pm_up_row _ _ (by omega), rX0_lt (by omega) (by omega)]
theorem iX9_2_lt {h n a : Nat} {mi : pm_I} (hlt : h < n) (ha : a < h) : iX9_2 mi h n a = mi a := by
  unfold iX9_2; rfl
def rX9_3 (mr : pm_R) (h n : Nat) : pm_R := (pm_up (rX6 (pm_up (rX10 mr (n + 16) (n + 17)) (n + 4) 0 (some (n + 16))) (n + 21) (n + 22)) (n + 5) 0 (some (n + 21)))
def iX9_3 (mi : pm_I) (h n : Nat) : pm_I := mi
def kX9_3 : pm_K := [(0, 10)] ++ (kX10 ++ ([(0, 6)] ++ (kX6)))
theorem rX9_3_ge {h n a : Nat} {mr : pm_R} (hlt : h < n) (ha : n + 25 ≤ a) : rX9_3 mr h n a = mr a := by
  unfold rX9_3; rw [pm_up_row _ _ (by omega), rX6_ge (by omega) (by omega), pm_up_row _ _ (by omega), rX10_ge (by omega) (by omega)]
theorem iX9_3_ge {h n a : Nat} {mi : pm_I} (hlt : h < n) (ha : n + 25 ≤ a) : iX9_3 mi h n a = mi a := by
  unfold iX9_3; rfl
theorem rX9_3_lt {h n a : Nat} {mr : pm_R} (hlt : h < n) (ha : a < h) : rX9_3 mr h n a = mr a := by
  unfold rX9_3; rw [pm_up_row _ _ (by omega), rX6_lt (by omega) (by omega), pm_up_row _ _ (by omega), rX10_lt (by omega) (by omega)]
theorem iX9_3_lt {h n a : Nat} {mi : pm_I} (hlt : h < n) (ha : a < h) : iX9_3 mi h n a = mi a := by
  unfold iX9_3; rfl
def rX9_4 (mr : pm_R) (h n : Nat) : pm_R := (pm_up (rX6 (pm_up (rX0 mr (n + 25) (n + 26)) (n + 2) 1 (some (n + 25))) (n + 31) (n + 32)) (n + 3) 1 (some (n + 31)))
def iX9_4 (mi : pm_I) (h n : Nat) : pm_I := mi
def kX9_4 : pm_K := [(0, 0)] ++ (kX0 ++ ([(0, 6)] ++ (kX6)))
theorem rX9_4_ge {h n a : Nat} {mr : pm_R} (hlt : h < n) (ha : n + 35 ≤ a) : rX9_4 mr h n a = mr a := by
  unfold rX9_4; rw [pm_up_row _ _ (by omega), rX6_ge (by omega) (by omega), pm_up_row _ _ (by omega), rX0_ge (by omega) (by omega)]
theorem iX9_4_ge {h n a : Nat} {mi : pm_I} (hlt : h < n) (ha : n + 35 ≤ a) : iX9_4 mi h n a = mi a := by
  unfold iX9_4; rfl
theorem rX9_4_lt {h n a : Nat} {mr : pm_R} (hlt : h < n) (ha : a < h) : rX9_4 mr h n a = mr a := by
  unfold rX9_4; rw [pm_up_row _ _ (by omega), rX6_lt (by omega) (by omega), pm_up_row _ _ (by omega), rX0_lt (by omega) (by omega)]
theorem iX9_4_lt {h n a : Nat} {mi : pm_I} (hlt : h < n) (ha : a < h) : iX9_4 mi h n a = mi a := by
  unfold iX9_4; rfl
def rX9_5 (mr : pm_R) (h n : Nat) : pm_R := (pm_up (rX6 (pm_up (rX10 mr (n + 35) (n + 36)) (n + 4) 1 (some (n + 35))) (n + 40) (n + 41)) (n + 5) 1 (some (n + 40)))
def iX9_5 (mi : pm_I) (h n : Nat) : pm_I := mi
def kX9_5 : pm_K := [(0, 10)] ++ (kX10 ++ ([(0, 6)] ++ (kX6)))
theorem rX9_5_ge {h n a : Nat} {mr : pm_R} (hlt : h < n) (ha : n + 44 ≤ a) : rX9_5 mr h n a = mr a := by
  unfold rX9_5; rw [pm_up_row _ _ (by omega), rX6_ge (by omega) (by omega), pm_up_row _ _ (by omega), rX10_ge (by omega) (by omega)]
theorem iX9_5_ge {h n a : Nat} {mi : pm_I} (hlt : h < n) (ha : n + 44 ≤ a) : iX9_5 mi h n a = mi a := by
  unfold iX9_5; rfl
theorem rX9_5_lt {h n a : Nat} {mr : pm_R} (hlt : h < n) (ha : a < h) : rX9_5 mr h n a = mr a := by
  unfold rX9_5; rw [pm_up_row _ _ (by omega), rX6_lt (by omega) (by omega), pm_up_row _ _ (by omega), rX10_lt (by omega) (by omega)]
theorem iX9_5_lt {h n a : Nat} {mi : pm_I} (hlt : h < n) (ha : a < h) : iX9_5 mi h n a = mi a := by
  unfold iX9_5; rfl
def rX9_6 (mr : pm_R) (h n : Nat) : pm_R := mr
def iX9_6 (mi : pm_I) (h n : Nat) : pm_I := mi
def kX9_6 : pm_K := []
theorem rX9_6_ge {h n a : Nat} {mr : pm_R} (hlt : h < n) (ha : n + 44 ≤ a) : rX9_6 mr h n a = mr a := by
  unfold rX9_6; rfl
theorem iX9_6_ge {h n a : Nat} {mi : pm_I} (hlt : h < n) (ha : n + 44 ≤ a) : iX9_6 mi h n a = mi a := by
  unfold iX9_6; rfl
theorem rX9_6_lt {h n a : Nat} {mr : pm_R} (hlt : h < n) (ha : a < h) : rX9_6 mr h n a = mr a := by
  unfold rX9_6; rfl
theorem iX9_6_lt {h n a : Nat} {mi : pm_I} (hlt : h < n) (ha : a < h) : iX9_6 mi h n a = mi a := by
  unfold iX9_6; rfl
def RX9_6 (mr : pm_R) (h n : Nat) : pm_R := rX9_6 mr h n
def IX9_6 (mi : pm_I) (h n : Nat) : pm_I := iX9_6 mi h n
def KX9_6 : pm_K := kX9_6
theorem RX9_6_ge {h n a : Nat} {mr : pm_R} (hlt : h < n) (ha : n + 44 ≤ a) : RX9_6 mr h n a = mr a := by
  exact rX9_6_ge hlt ha
theorem RX9_6_lt {h n a : Nat} {mr : pm_R} (hlt : h < n) (ha : a < h) : RX9_6 mr h n a = mr a := by
  exact rX9_6_lt hlt ha
theorem IX9_6_ge {h n a : Nat} {mi : pm_I} (hlt : h < n) (ha : n + 44 ≤ a) : IX9_6 mi h n a = mi a := by
  exact iX9_6_ge hlt ha
theorem IX9_6_lt {h n a : Nat} {mi : pm_I} (hlt : h < n) (ha : a < h) : IX9_6 mi h n a = mi a := by
  exact iX9_6_lt hlt ha
def RX9_5 (mr : pm_R) (h n : Nat) : pm_R := RX9_6 (rX9_5 mr h n) h n
def IX9_5 (mi : pm_I) (h n : Nat) : pm_I := IX9_6 (iX9_5 mi h n) h n
def KX9_5 : pm_K := kX9_5 ++ KX9_6
theorem RX9_5_ge {h n a : Nat} {mr : pm_R} (hlt : h < n) (ha : n + 44 ≤ a) : RX9_5 mr h n a = mr a := by
  exact (RX9_6_ge hlt ha).trans (rX9_5_ge hlt (by omega))
theorem RX9_5_lt {h n a : Nat} {mr : pm_R} (hlt : h < n) (ha : a < h) : RX9_5 mr h n a = mr a := by
  exact (RX9_6_lt hlt ha).trans (rX9_5_lt hlt ha)
theorem IX9_5_ge {h n a : Nat} {mi : pm_I} (hlt : h < n) (ha : n + 44 ≤ a) : IX9_5 mi h n a = mi a := by
  exact (IX9_6_ge hlt ha).trans (iX9_5_ge hlt (by omega))
theorem IX9_5_lt {h n a : Nat} {mi : pm_I} (hlt : h < n) (ha : a < h) : IX9_5 mi h n a = mi a := by
  exact (IX9_6_lt hlt ha).trans (iX9_5_lt hlt ha)
def RX9_4 (mr : pm_R) (h n : Nat) : pm_R := RX9_5 (rX9_4 mr h n) h n
def IX9_4 (mi : pm_I) (h n : Nat) : pm_I := IX9_5 (iX9_4 mi h n) h n
def KX9_4 : pm_K := kX9_4 ++ KX9_5
theorem RX9_4_ge {h n a : Nat} {mr : pm_R} (hlt : h < n) (ha : n + 44 ≤ a) : RX9_4 mr h n a = mr a := by
  exact (RX9_5_ge hlt ha).trans (rX9_4_ge hlt (by omega))
theorem RX9_4_lt {h n a : Nat} {mr : pm_R} (hlt : h < n) (ha : a < h) : RX9_4 mr h n a = mr a := by
  exact (RX9_5_lt hlt ha).trans (rX9_4_lt hlt ha)
theorem IX9_4_ge {h n a : Nat} {mi : pm_I} (hlt : h < n) (ha : n + 44 ≤ a) : IX9_4 mi h n a = mi a := by
  exact (IX9_5_ge hlt ha).trans (iX9_4_ge hlt (by omega))
theorem IX9_4_lt {h n a : Nat} {mi : pm_I} (hlt : h < n) (ha : a < h) : IX9_4 mi h n a = mi a := by
  exact (IX9_5_lt hlt ha).trans (iX9_4_lt hlt ha)
def RX9_3 (mr : pm_R) (h n : Nat) : pm_R := RX9_4 (rX9_3 mr h n) h n
def IX9_3 (mi : pm_I) (h n : Nat) : pm_I := IX9_4 (iX9_3 mi h n) h n
def KX9_3 : pm_K := kX9_3 ++ KX9_4
theorem RX9_3_ge {h n a : Nat} {mr : pm_R} (hlt : h < n) (ha : n + 44 ≤ a) : RX9_3 mr h n a = mr a := by
  exact (RX9_4_ge hlt ha).trans (rX9_3_ge hlt (by omega))
theorem RX9_3_lt {h n a : Nat} {mr : pm_R} (hlt : h < n) (ha : a < h) : RX9_3 mr h n a = mr a := by
  exact (RX9_4_lt hlt ha).trans (rX9_3_lt hlt ha)
theorem IX9_3_ge {h n a : Nat} {mi : pm_I} (hlt : h < n) (ha : n + 44 ≤ a) : IX9_3 mi h n a = mi a := by
  exact (IX9_4_ge hlt ha).trans (iX9_3_ge hlt (by omega))
theorem IX9_3_lt {h n a : Nat} {mi : pm_I} (hlt : h < n) (ha : a < h) : IX9_3 mi h n a = mi a := by
  exact (IX9_4_lt hlt ha).trans (iX9_3_lt hlt ha)
def RX9_2 (mr : pm_R) (h n : Nat) : pm_R := RX9_3 (rX9_2 mr h n) h n
def IX9_2 (mi : pm_I) (h n : Nat) : pm_I := IX9_3 (iX9_2 mi h n) h n
def KX9_2 : pm_K := kX9_2 ++ KX9_3
theorem RX9_2_ge {h n a : Nat} {mr : pm_R} (hlt : h < n) (ha : n + 44 ≤ a) : RX9_2 mr h n a = mr a := by
  exact (RX9_3_ge hlt ha).trans (rX9_2_ge hlt (by omega))
theorem RX9_2_lt {h n a : Nat} {mr : pm_R} (hlt : h < n) (ha : a < h) : RX9_2 mr h n a = mr a := by
  exact (RX9_3_lt hlt ha).trans (rX9_2_lt hlt ha)
theorem IX9_2_ge {h n a : Nat} {mi : pm_I} (hlt : h < n) (ha : n + 44 ≤ a) : IX9_2 mi h n a = mi a := by
  exact (IX9_3_ge hlt ha).trans (iX9_2_ge hlt (by omega))
theorem IX9_2_lt {h n a : Nat} {mi : pm_I} (hlt : h < n) (ha : a < h) : IX9_2 mi h n a = mi a := by
  exact (IX9_3_lt hlt ha).trans (iX9_2_lt hlt ha)
def RX9_1 (mr : pm_R) (h n : Nat) : pm_R := RX9_2 (rX9_1 mr h n) h n
def IX9_1 (mi : pm_I) (h n : Nat) : pm_I := IX9_2 (iX9_1 mi h n) h n
def KX9_1 : pm_K := kX9_1 ++ KX9_2
theorem RX9_1_ge {h n a : Nat} {mr : pm_R} (hlt : h < n) (ha : n + 44 ≤ a) : RX9_1 mr h n a = mr a := by
  exact (RX9_2_ge hlt ha).trans (rX9_1_ge hlt (by omega))
theorem RX9_1_lt {h n a : Nat} {mr : pm_R} (hlt : h < n) (ha : a < h) : RX9_1 mr h n a = mr a := by
  exact (RX9_2_lt hlt ha).trans (rX9_1_lt hlt ha)
theorem IX9_1_ge {h n a : Nat} {mi : pm_I} (hlt : h < n) (ha : n + 44 ≤ a) : IX9_1 mi h n a = mi a := by
  exact (IX9_2_ge hlt ha).trans (iX9_1_ge hlt (by omega))
theorem IX9_1_lt {h n a : Nat} {mi : pm_I} (hlt : h < n) (ha : a < h) : IX9_1 mi h n a = mi a := by
  exact (IX9_2_lt hlt ha).trans (iX9_1_lt hlt ha)
def RX9_0 (mr : pm_R) (h n : Nat) : pm_R := RX9_1 (rX9_0 mr h n) h n
def IX9_0 (mi : pm_I) (h n : Nat) : pm_I := IX9_1 (iX9_0 mi h n) h n
def KX9_0 : pm_K := kX9_0 ++ KX9_1
theorem RX9_0_ge {h n a : Nat} {mr : pm_R} (hlt : h < n) (ha : n + 44 ≤ a) : RX9_0 mr h n a = mr a := by
  exact (RX9_1_ge hlt ha).trans (rX9_0_ge hlt (by omega))
theorem RX9_0_lt {h n a : Nat} {mr : pm_R} (hlt : h < n) (ha : a < h) : RX9_0 mr h n a = mr a := by
  exact (RX9_1_lt hlt ha).trans (rX9_0_lt hlt ha)
theorem IX9_0_ge {h n a : Nat} {mi : pm_I} (hlt : h < n) (ha : n + 44 ≤ a) : IX9_0 mi h n a = mi a := by
  exact (IX9_1_ge hlt ha).trans (iX9_0_ge hlt (by omega))
theorem IX9_0_lt {h n a : Nat} {mi : pm_I} (hlt : h < n) (ha : a < h) : IX9_0 mi h n a = mi a := by
  exact (IX9_1_lt hlt ha).trans (iX9_0_lt hlt ha)
def rX9 (mr : pm_R) (h n : Nat) : pm_R := RX9_0 mr h n
def iX9 (mi : pm_I) (h n : Nat) : pm_I := IX9_0 mi h n
def kX9 : pm_K := KX9_0
theorem rX9_ge {h n a : Nat} {mr : pm_R} (hlt : h < n) (ha : n + 44 ≤ a) : rX9 mr h n a = mr a := RX9_0_ge hlt ha
theorem rX9_lt {h n a : Nat} {mr : pm_R} (hlt : h < n) (ha : a < h) : rX9 mr h n a = mr a := RX9_0_lt hlt ha
theorem iX9_ge {h n a : Nat} {mi : pm_I} (hlt : h < n) (ha : n + 44 ≤ a) : iX9 mi h n a = mi a := IX9_0_ge hlt ha
theorem iX9_lt {h n a : Nat} {mi : pm_I} (hlt : h < n) (ha : a < h) : iX9 mi h n a = mi a := IX9_0_lt hlt ha
set_option maxHeartbeats 4000000 in
theorem n_X9_6 {l : Launch} {d h n : Nat} {kd : pm_K} {mi : pm_I} {ml : pm_L} {mr : pm_R} (hh0 : kd[h]? = some (0, 9)) (hf1 : kd[n + 2]? = some (5 + 0, 2)) (hf2 : kd[n + 3]? = some (5 + 1, 2)) (hf3 : kd[n + 4]? = some (5 + 2, 2)) (hf4 : kd[n + 5]? = some (5 + 1, 2)) (gf0_0 : mr h 5 = some (n + 2)) (gf1_0 : mr h 6 = some (n + 3)) (gf2_0 : mr h 7 = some (n + 4)) (gf3_0 : mr h 8 = some (n + 5)) (hn0 : kd.length = n + 44) (hlt : h < n) (z0 : Zz (n + 44) mi ml mr) : wp l M_X9_init (d + 3) 44 1440 116 [some (.ref h), some (.int 1)] [] 44 1440 kd mi ml mr (qN (kd ++ KX9_6) (IX9_6 mi h n) ml (RX9_6 mr h n)) := by
  refine wp_iinc (v := 2) (pc := 116) dX9_init_116 rfl (by decide) rfl ?_
  refine wp_goto (tgt := 59) (pc := 119) dX9_init_119 (by decide) ?_
  refine wp_iload_n (pc := 59) dX9_init_59 rfl ?_
  refine wp_iconst (v := 2) (pc := 60) dX9_init_60 (by decide) ?_
  refine wp_icmp_ge (tgt := 122) (pc := 61) dX9_init_61 (by decide) (fun _ => ?_) (fun c => absurd (by decide) c)
  exact wp_vret (pc := 122) dX9_init_122 rfl ⟨rfl, List.append_nil _, rfl, rfl, rfl⟩
set_option maxHeartbeats 4000000 in
theorem n_X9_5 {l : Launch} {d h n : Nat} {kd : pm_K} {mi : pm_I} {ml : pm_L} {mr : pm_R} (hh0 : kd[h]? = some (0, 9)) (hf1 : kd[n + 2]? = some (5 + 0, 2)) (hf2 : kd[n + 3]? = some (5 + 1, 2)) (hf3 : kd[n + 4]? = some (5 + 2, 2)) (hf4 : kd[n + 5]? = some (5 + 1, 2)) (gf0_0 : mr h 5 = some (n + 2)) (gf1_0 : mr h 6 = some (n + 3)) (gf2_0 : mr h 7 = some (n + 4)) (gf3_0 : mr h 8 = some (n + 5)) (hn0 : kd.length = n + 35) (hlt : h < n) (z0 : Zz (n + 35) mi ml mr) : wp l M_X9_init (d + 3) 44 1440 90 [some (.ref h), some (.int 1)] [] 35 1189 kd mi ml mr (qN (kd ++ KX9_5) (IX9_5 mi h n) ml (RX9_5 mr h n)) := by
  refine wp_aload_n (pc := 90) dX9_init_90 rfl ?_
  refine wp_getR (a := n + 4) (pc := 91) dX9_init_91 fl_X9_37 rfl hh0 (gf2_0) ?_
  refine wp_iload_n (pc := 94) dX9_init_94 rfl ?_
  refine wp_new (pc := 95) (ci := 10) (C := RX10) (T := TX10) (mi' := mi) (ml' := ml) (mr' := mr) dX9_init_95 rfl ii_X10 tyX10_ok ⟨tb_1 41 rfl rfl, tb_1 140 rfl rfl, tb_1 5 rfl rfl⟩ (Nat.le_of_ble_eq_true rfl) (Nat.le_of_ble_eq_true rfl) (fun ad => fs_0 ad (z0 _ (Nat.le_of_eq hn0.symm)) (by decide)) (fun _ _ => rfl) (fun _ _ => rfl) (fun _ _ => rfl) (fun k e => e ▸ (z0 _ (Nat.le_of_eq hn0.symm)).2.2) (fun _ _ => rfl) ?_
  rw [hn0, show pm_N 10 = 3 from rfl]
  obtain ⟨kd1, hk1⟩ : ∃ k, k = kd ++ [(0, 10)] := ⟨_, rfl⟩
  rw [← hk1]
  have hn1 : kd1.length = n + 36 := by rw [hk1, List.length_append, hn0]; rfl
  have hh0_1 := k_at hk1 hh0
  have hf1_1 := k_at hk1 hf1
  have hf2_1 := k_at hk1 hf2
  have hf3_1 := k_at hk1 hf3
  have hf4_1 := k_at hk1 hf4
  have hc35 : kd1[n + 35]? = some (0, 10) := by rw [hk1]; exact k_new hn0
  have z4 : Zz (n + 36) mi ml mr := z0.mono (by omega)
  refine wp_cs (cs' := 36) (ss' := 1192) rfl rfl ?_
  refine wp_dup (pc := 98) dX9_init_98 rfl ?_
  refine wp_callN (pc := 99) (As := []) (b := n + 35) (d' := d + 2) (mc' := 4) (ms' := 124) dX9_init_99 ml_X9_46 in_X10_init rfl rfl (Nat.le_of_ble_eq_true rfl) (Nat.le_of_ble_eq_true rfl) (by omega) ⟨Nat.le_of_ble_eq_true rfl, Nat.le_of_ble_eq_true rfl⟩ (n_X10 (d := d + 0) hc35 hn1 (by omega) z4) ?_
  obtain ⟨mr1, hm1⟩ : ∃ m, m = rX10 mr (n + 35) (n + 36) := ⟨_, rfl⟩
  rw [← hm1]
  have gf0_1 : mr1 h 5 = some (n + 2) := by rw [hm1]; exact (congrFun (rX10_lt (by omega) (by omega)) _).trans gf0_0
  have gf1_1 : mr1 h 6 = some (n + 3) := by rw [hm1]; exact (congrFun (rX10_lt (by omega) (by omega)) _).trans gf1_0
  have gf2_1 : mr1 h 7 = some (n + 4) := by rw [hm1]; exact (congrFun (rX10_lt (by omega) (by omega)) _).trans gf2_0
  have gf3_1 : mr1 h 8 = some (n + 5) := by rw [hm1]; exact (congrFun (rX10_lt (by omega) (by omega)) _).trans gf3_0
  obtain ⟨kd2, hk2⟩ : ∃ k, k = kd1 ++ kX10 := ⟨_, rfl⟩
  rw [← hk2]
  have hn2 : kd2.length = n + 40 := by rw [hk2, List.length_append, hn1]; rfl
  have hh0_2 := k_at hk2 hh0_1
  have hf1_2 := k_at hk2 hf1_1
  have hf2_2 := k_at hk2 hf2_1
  have hf3_2 := k_at hk2 hf3_1
  have hf4_2 := k_at hk2 hf4_1
  have hc35_2 := k_at hk2 hc35
  have z6 : Zz (n + 40) mi ml mr1 := by rw [hm1]; exact z_X10 z4 (by omega)
  refine wp_cs (cs' := 40) (ss' := 1316) rfl rfl ?_
  refine wp_aast (t := 2) (ci := 10) (pc := 102) dX9_init_102 (by simp) hf3_2 hc35_2 (vp_dec (by decide)) ?_
  rw [show Int32.toNatClampNeg 1 = 1 from rfl]
  obtain ⟨mr2, hm2⟩ : ∃ m, m = pm_up mr1 (n + 4) 1 (some (n + 35)) := ⟨_, rfl⟩
  rw [← hm2]
  have gf0_2 : mr2 h 5 = some (n + 2) := by rw [hm2]; exact (pm_up_ne _ _ (by omega)).trans gf0_1
  have gf1_2 : mr2 h 6 = some (n + 3) := by rw [hm2]; exact (pm_up_ne _ _ (by omega)).trans gf1_1
  have gf2_2 : mr2 h 7 = some (n + 4) := by rw [hm2]; exact (pm_up_ne _ _ (by omega)).trans gf2_1
  have gf3_2 : mr2 h 8 = some (n + 5) := by rw [hm2]; exact (pm_up_ne _ _ (by omega)).trans gf3_1
  have z7 : Zz (n + 40) mi ml mr2 := by rw [hm2]; exact z6.upR (by omega)
  refine wp_aload_n (pc := 103) dX9_init_103 rfl ?_
  refine wp_getR (a := n + 5) (pc := 104) dX9_init_104 fl_X9_41 rfl hh0_2 (gf3_2) ?_
  refine wp_iload_n (pc := 107) dX9_init_107 rfl ?_
  refine wp_new (pc := 108) (ci := 6) (C := RX6) (T := TX6) (mi' := mi) (ml' := ml) (mr' := mr2) dX9_init_108 rfl ii_X6 tyX6_ok ⟨tb_1 39 rfl rfl, tb_1 109 rfl rfl, tb_1 4 rfl rfl⟩ (Nat.le_of_ble_eq_true rfl) (Nat.le_of_ble_eq_true rfl) (fun ad => fs_0 ad (z7 _ (Nat.le_of_eq hn2.symm)) (by decide)) (fun _ _ => rfl) (fun _ _ => rfl) (fun _ _ => rfl) (fun k e => e ▸ (z7 _ (Nat.le_of_eq hn2.symm)).2.2) (fun _ _ => rfl) ?_
  rw [hn2, show pm_N 6 = 4 from rfl]
  obtain ⟨kd3, hk3⟩ : ∃ k, k = kd2 ++ [(0, 6)] := ⟨_, rfl⟩
  rw [← hk3]
  have hn3 : kd3.length = n + 41 := by rw [hk3, List.length_append, hn2]; rfl
  have hh0_3 := k_at hk3 hh0_2
  have hf1_3 := k_at hk3 hf1_2
  have hf2_3 := k_at hk3 hf2_2
  have hf3_3 := k_at hk3 hf3_2
  have hf4_3 := k_at hk3 hf4_2
  have hc40 : kd3[n + 40]? = some (0, 6) := by rw [hk3]; exact k_new hn2
  have z11 : Zz (n + 41) mi ml mr2 := z7.mono (by omega)
  refine wp_cs (cs' := 41) (ss' := 1320) rfl rfl ?_
  refine wp_dup (pc := 111) dX9_init_111 rfl ?_
  refine wp_callN (pc := 112) (As := []) (b := n + 40) (d' := d + 2) (mc' := 3) (ms' := 120) dX9_init_112 ml_X9_45 in_X6_init rfl rfl (Nat.le_of_ble_eq_true rfl) (Nat.le_of_ble_eq_true rfl) (by omega) ⟨Nat.le_of_ble_eq_true rfl, Nat.le_of_ble_eq_true rfl⟩ (n_X6 (d := d + 1) hc40 hn3 (by omega) z11) ?_
  obtain ⟨mr3, hm3⟩ : ∃ m, m = rX6 mr2 (n + 40) (n + 41) := ⟨_, rfl⟩
  rw [← hm3]
  have gf0_3 : mr3 h 5 = some (n + 2) := by rw [hm3]; exact (congrFun (rX6_lt (by omega) (by omega)) _).trans gf0_2
  have gf1_3 : mr3 h 6 = some (n + 3) := by rw [hm3]; exact (congrFun (rX6_lt (by omega) (by omega)) _).trans gf1_2
  have gf2_3 : mr3 h 7 = some (n + 4) := by rw [hm3]; exact (congrFun (rX6_lt (by omega) (by omega)) _).trans gf2_2
  have gf3_3 : mr3 h 8 = some (n + 5) := by rw [hm3]; exact (congrFun (rX6_lt (by omega) (by omega)) _).trans gf3_2
  obtain ⟨kd4, hk4⟩ : ∃ k, k = kd3 ++ kX6 := ⟨_, rfl⟩
  rw [← hk4]
  have hn4 : kd4.length = n + 44 := by rw [hk4, List.length_append, hn3]; rfl
  have hh0_4 := k_at hk4 hh0_3
  have hf1_4 := k_at hk4 hf1_3
  have hf2_4 := k_at hk4 hf2_3
  have hf3_4 := k_at hk4 hf3_3
  have hf4_4 := k_at hk4 hf4_3
  have hc40_4 := k_at hk4 hc40
  have z13 : Zz (n + 44) mi ml mr3 := by rw [hm3]; exact z_X6 z11 (by omega)
  refine wp_cs (cs' := 44) (ss' := 1440) rfl rfl ?_
  refine wp_aast (t := 1) (ci := 6) (pc := 115) dX9_init_115 (by simp) hf4_4 hc40_4 (vp_dec (by decide)) ?_
  rw [show Int32.toNatClampNeg 1 = 1 from rfl]
  obtain ⟨mr4, hm4⟩ : ∃ m, m = pm_up mr3 (n + 5) 1 (some (n + 40)) := ⟨_, rfl⟩
  rw [← hm4]
  have gf0_4 : mr4 h 5 = some (n + 2) := by rw [hm4]; exact (pm_up_ne _ _ (by omega)).trans gf0_3
  have gf1_4 : mr4 h 6 = some (n + 3) := by rw [hm4]; exact (pm_up_ne _ _ (by omega)).trans gf1_3
  have gf2_4 : mr4 h 7 = some (n + 4) := by rw [hm4]; exact (pm_up_ne _ _ (by omega)).trans gf2_3
  have gf3_4 : mr4 h 8 = some (n + 5) := by rw [hm4]; exact (pm_up_ne _ _ (by omega)).trans gf3_3
  have z14 : Zz (n + 44) mi ml mr4 := by rw [hm4]; exact z13.upR (by omega)
  have e1 : kd ++ KX9_5 = kd4 ++ KX9_6 := by rw [hk4, hk3, hk2, hk1]; simp only [List.append_assoc]; rfl
  have e2 : rX9_5 mr h n = mr4 := by rw [hm4, hm3, hm2, hm1]; rfl
  have e3 : RX9_5 mr h n = RX9_6 mr4 h n := congrArg (fun m => RX9_6 m h n) e2
  rw [e1, e3]
  exact n_X9_6 hh0_4 hf1_4 hf2_4 hf3_4 hf4_4 gf0_4 gf1_4 gf2_4 gf3_4 hn4 hlt z14
set_option maxHeartbeats 4000000 in
theorem n_X9_4 {l : Launch} {d h n : Nat} {kd : pm_K} {mi : pm_I} {ml : pm_L} {mr : pm_R} (hh0 : kd[h]? = some (0, 9)) (hf1 : kd[n + 2]? = some (5 + 0, 2)) (hf2 : kd[n + 3]? = some (5 + 1, 2)) (hf3 : kd[n + 4]? = some (5 + 2, 2)) (hf4 : kd[n + 5]? = some (5 + 1, 2)) (gf0_0 : mr h 5 = some (n + 2)) (gf1_0 : mr h 6 = some (n + 3)) (gf2_0 : mr h 7 = some (n + 4)) (gf3_0 : mr h 8 = some (n + 5)) (hn0 : kd.length = n + 25) (hlt : h < n) (z0 : Zz (n + 25) mi ml mr) : wp l M_X9_init (d + 3) 44 1440 116 [some (.ref h), some (.int 0)] [] 25 1026 kd mi ml mr (qN (kd ++ KX9_4) (IX9_4 mi h n) ml (RX9_4 mr h n)) := by
  refine wp_iinc (v := 1) (pc := 116) dX9_init_116 rfl (by decide) rfl ?_
  refine wp_goto (tgt := 59) (pc := 119) dX9_init_119 (by decide) ?_
  refine wp_iload_n (pc := 59) dX9_init_59 rfl ?_
  refine wp_iconst (v := 2) (pc := 60) dX9_init_60 (by decide) ?_
  refine wp_icmp_ge (tgt := 122) (pc := 61) dX9_init_61 (by decide) (fun c => absurd c (by decide)) (fun _ => ?_)
  refine wp_aload_n (pc := 64) dX9_init_64 rfl ?_
  refine wp_getR (a := n + 2) (pc := 65) dX9_init_65 fl_X9_25 rfl hh0 (gf0_0) ?_
  refine wp_iload_n (pc := 68) dX9_init_68 rfl ?_
  refine wp_new (pc := 69) (ci := 0) (C := RX0) (T := TX0) (mi' := mi) (ml' := ml) (mr' := mr) dX9_init_69 rfl ii_X0 tyX0_ok ⟨tb_1 37 rfl rfl, tb_1 43 rfl rfl, tb_1 3 rfl rfl⟩ (Nat.le_of_ble_eq_true rfl) (Nat.le_of_ble_eq_true rfl) (fun ad => fs_0 ad (z0 _ (Nat.le_of_eq hn0.symm)) (by decide)) (fun _ _ => rfl) (fun _ _ => rfl) (fun _ _ => rfl) (fun k e => e ▸ (z0 _ (Nat.le_of_eq hn0.symm)).2.2) (fun _ _ => rfl) ?_
  rw [hn0, show pm_N 0 = 11 from rfl]
  obtain ⟨kd1, hk1⟩ : ∃ k, k = kd ++ [(0, 0)] := ⟨_, rfl⟩
  rw [← hk1]
  have hn1 : kd1.length = n + 26 := by rw [hk1, List.length_append, hn0]; rfl
  have hh0_1 := k_at hk1 hh0
  have hf1_1 := k_at hk1 hf1
  have hf2_1 := k_at hk1 hf2
  have hf3_1 := k_at hk1 hf3
  have hf4_1 := k_at hk1 hf4
  have hc25 : kd1[n + 25]? = some (0, 0) := by rw [hk1]; exact k_new hn0
  have z9 : Zz (n + 26) mi ml mr := z0.mono (by omega)
  refine wp_cs (cs' := 26) (ss' := 1037) rfl rfl ?_
  refine wp_dup (pc := 72) dX9_init_72 rfl ?_
  refine wp_callN (pc := 73) (As := []) (b := n + 25) (d' := d + 2) (mc' := 5) (ms' := 28) dX9_init_73 ml_X9_44 in_X0_init rfl rfl (Nat.le_of_ble_eq_true rfl) (Nat.le_of_ble_eq_true rfl) (by omega) ⟨Nat.le_of_ble_eq_true rfl, Nat.le_of_ble_eq_true rfl⟩ (n_X0 (d := d + 1) hc25 hn1 (by omega) z9) ?_
  obtain ⟨mr1, hm1⟩ : ∃ m, m = rX0 mr (n + 25) (n + 26) := ⟨_, rfl⟩
  rw [← hm1]
  have gf0_1 : mr1 h 5 = some (n + 2) := by rw [hm1]; exact (congrFun (rX0_lt (by omega) (by omega)) _).trans gf0_0
  have gf1_1 : mr1 h 6 = some (n + 3) := by rw [hm1]; exact (congrFun (rX0_lt (by omega) (by omega)) _).trans gf1_0
  have gf2_1 : mr1 h 7 = some (n + 4) := by rw [hm1]; exact (congrFun (rX0_lt (by omega) (by omega)) _).trans gf2_0
  have gf3_1 : mr1 h 8 = some (n + 5) := by rw [hm1]; exact (congrFun (rX0_lt (by omega) (by omega)) _).trans gf3_0
  obtain ⟨kd2, hk2⟩ : ∃ k, k = kd1 ++ kX0 := ⟨_, rfl⟩
  rw [← hk2]
  have hn2 : kd2.length = n + 31 := by rw [hk2, List.length_append, hn1]; rfl
  have hh0_2 := k_at hk2 hh0_1
  have hf1_2 := k_at hk2 hf1_1
  have hf2_2 := k_at hk2 hf2_1
  have hf3_2 := k_at hk2 hf3_1
  have hf4_2 := k_at hk2 hf4_1
  have hc25_2 := k_at hk2 hc25
  have z11 : Zz (n + 31) mi ml mr1 := by rw [hm1]; exact z_X0 z9 (by omega)
  refine wp_cs (cs' := 31) (ss' := 1065) rfl rfl ?_
  refine wp_aast (t := 0) (ci := 0) (pc := 76) dX9_init_76 (by simp) hf1_2 hc25_2 (vp_dec (by decide)) ?_
  rw [show Int32.toNatClampNeg 1 = 1 from rfl]
  obtain ⟨mr2, hm2⟩ : ∃ m, m = pm_up mr1 (n + 2) 1 (some (n + 25)) := ⟨_, rfl⟩
  rw [← hm2]
  have gf0_2 : mr2 h 5 = some (n + 2) := by rw [hm2]; exact (pm_up_ne _ _ (by omega)).trans gf0_1
  have gf1_2 : mr2 h 6 = some (n + 3) := by rw [hm2]; exact (pm_up_ne _ _ (by omega)).trans gf1_1
  have gf2_2 : mr2 h 7 = some (n + 4) := by rw [hm2]; exact (pm_up_ne _ _ (by omega)).trans gf2_1
  have gf3_2 : mr2 h 8 = some (n + 5) := by rw [hm2]; exact (pm_up_ne _ _ (by omega)).trans gf3_1
  have z12 : Zz (n + 31) mi ml mr2 := by rw [hm2]; exact z11.upR (by omega)
  refine wp_aload_n (pc := 77) dX9_init_77 rfl ?_
  refine wp_getR (a := n + 3) (pc := 78) dX9_init_78 fl_X9_31 rfl hh0_2 (gf1_2) ?_
  refine wp_iload_n (pc := 81) dX9_init_81 rfl ?_
  refine wp_new (pc := 82) (ci := 6) (C := RX6) (T := TX6) (mi' := mi) (ml' := ml) (mr' := mr2) dX9_init_82 rfl ii_X6 tyX6_ok ⟨tb_1 39 rfl rfl, tb_1 109 rfl rfl, tb_1 4 rfl rfl⟩ (Nat.le_of_ble_eq_true rfl) (Nat.le_of_ble_eq_true rfl) (fun ad => fs_0 ad (z12 _ (Nat.le_of_eq hn2.symm)) (by decide)) (fun _ _ => rfl) (fun _ _ => rfl) (fun _ _ => rfl) (fun k e => e ▸ (z12 _ (Nat.le_of_eq hn2.symm)).2.2) (fun _ _ => rfl) ?_
  rw [hn2, show pm_N 6 = 4 from rfl]
  obtain ⟨kd3, hk3⟩ : ∃ k, k = kd2 ++ [(0, 6)] := ⟨_, rfl⟩
  rw [← hk3]
  have hn3 : kd3.length = n + 32 := by rw [hk3, List.length_append, hn2]; rfl
  have hh0_3 := k_at hk3 hh0_2
  have hf1_3 := k_at hk3 hf1_2
  have hf2_3 := k_at hk3 hf2_2
  have hf3_3 := k_at hk3 hf3_2
  have hf4_3 := k_at hk3 hf4_2
  have hc31 : kd3[n + 31]? = some (0, 6) := by rw [hk3]; exact k_new hn2
  have z16 : Zz (n + 32) mi ml mr2 := z12.mono (by omega)
  refine wp_cs (cs' := 32) (ss' := 1069) rfl rfl ?_
  refine wp_dup (pc := 85) dX9_init_85 rfl ?_
  refine wp_callN (pc := 86) (As := []) (b := n + 31) (d' := d + 2) (mc' := 3) (ms' := 120) dX9_init_86 ml_X9_45 in_X6_init rfl rfl (Nat.le_of_ble_eq_true rfl) (Nat.le_of_ble_eq_true rfl) (by omega) ⟨Nat.le_of_ble_eq_true rfl, Nat.le_of_ble_eq_true rfl⟩ (n_X6 (d := d + 1) hc31 hn3 (by omega) z16) ?_
  obtain ⟨mr3, hm3⟩ : ∃ m, m = rX6 mr2 (n + 31) (n + 32) := ⟨_, rfl⟩
  rw [← hm3]
  have gf0_3 : mr3 h 5 = some (n + 2) := by rw [hm3]; exact (congrFun (rX6_lt (by omega) (by omega)) _).trans gf0_2
  have gf1_3 : mr3 h 6 = some (n + 3) := by rw [hm3]; exact (congrFun (rX6_lt (by omega) (by omega)) _).trans gf1_2
  have gf2_3 : mr3 h 7 = some (n + 4) := by rw [hm3]; exact (congrFun (rX6_lt (by omega) (by omega)) _).trans gf2_2
  have gf3_3 : mr3 h 8 = some (n + 5) := by rw [hm3]; exact (congrFun (rX6_lt (by omega) (by omega)) _).trans gf3_2
  obtain ⟨kd4, hk4⟩ : ∃ k, k = kd3 ++ kX6 := ⟨_, rfl⟩
  rw [← hk4]
  have hn4 : kd4.length = n + 35 := by rw [hk4, List.length_append, hn3]; rfl
  have hh0_4 := k_at hk4 hh0_3
  have hf1_4 := k_at hk4 hf1_3
  have hf2_4 := k_at hk4 hf2_3
  have hf3_4 := k_at hk4 hf3_3
  have hf4_4 := k_at hk4 hf4_3
  have hc31_4 := k_at hk4 hc31
  have z18 : Zz (n + 35) mi ml mr3 := by rw [hm3]; exact z_X6 z16 (by omega)
  refine wp_cs (cs' := 35) (ss' := 1189) rfl rfl ?_
  refine wp_aast (t := 1) (ci := 6) (pc := 89) dX9_init_89 (by simp) hf2_4 hc31_4 (vp_dec (by decide)) ?_
  rw [show Int32.toNatClampNeg 1 = 1 from rfl]
  obtain ⟨mr4, hm4⟩ : ∃ m, m = pm_up mr3 (n + 3) 1 (some (n + 31)) := ⟨_, rfl⟩
  rw [← hm4]
  have gf0_4 : mr4 h 5 = some (n + 2) := by rw [hm4]; exact (pm_up_ne _ _ (by omega)).trans gf0_3
  have gf1_4 : mr4 h 6 = some (n + 3) := by rw [hm4]; exact (pm_up_ne _ _ (by omega)).trans gf1_3
  have gf2_4 : mr4 h 7 = some (n + 4) := by rw [hm4]; exact (pm_up_ne _ _ (by omega)).trans gf2_3
  have gf3_4 : mr4 h 8 = some (n + 5) := by rw [hm4]; exact (pm_up_ne _ _ (by omega)).trans gf3_3
  have z19 : Zz (n + 35) mi ml mr4 := by rw [hm4]; exact z18.upR (by omega)
  have e1 : kd ++ KX9_4 = kd4 ++ KX9_5 := by rw [hk4, hk3, hk2, hk1]; simp only [List.append_assoc]; rfl
  have e2 : rX9_4 mr h n = mr4 := by rw [hm4, hm3, hm2, hm1]; rfl
  have e3 : RX9_4 mr h n = RX9_5 mr4 h n := congrArg (fun m => RX9_5 m h n) e2
  rw [e1, e3]
  exact n_X9_5 hh0_4 hf1_4 hf2_4 hf3_4 hf4_4 gf0_4 gf1_4 gf2_4 gf3_4 hn4 hlt z19
set_option maxHeartbeats 4000000 in
theorem n_X9_3 {l : Launch} {d h n : Nat} {kd : pm_K} {mi : pm_I} {ml : pm_L} {mr : pm_R} (hh0 : kd[h]? = some (0, 9)) (hf1 : kd[n + 2]? = some (5 + 0, 2)) (hf2 : kd[n + 3]? = some (5 + 1, 2)) (hf3 : kd[n + 4]? = some (5 + 2, 2)) (hf4 : kd[n + 5]? = some (5 + 1, 2)) (gf0_0 : mr h 5 = some (n + 2)) (gf1_0 : mr h 6 = some (n + 3)) (gf2_0 : mr h 7 = some (n + 4)) (gf3_0 : mr h 8 = some (n + 5)) (hn0 : kd.length = n + 16) (hlt : h < n) (z0 : Zz (n + 16) mi ml mr) : wp l M_X9_init (d + 3) 44 1440 90 [some (.ref h), some (.int 0)] [] 16 775 kd mi ml mr (qN (kd ++ KX9_3) (IX9_3 mi h n) ml (RX9_3 mr h n)) := by
  refine wp_aload_n (pc := 90) dX9_init_90 rfl ?_
  refine wp_getR (a := n + 4) (pc := 91) dX9_init_91 fl_X9_37 rfl hh0 (gf2_0) ?_
  refine wp_iload_n (pc := 94) dX9_init_94 rfl ?_
  refine wp_new (pc := 95) (ci := 10) (C := RX10) (T := TX10) (mi' := mi) (ml' := ml) (mr' := mr) dX9_init_95 rfl ii_X10 tyX10_ok ⟨tb_1 41 rfl rfl, tb_1 140 rfl rfl, tb_1 5 rfl rfl⟩ (Nat.le_of_ble_eq_true rfl) (Nat.le_of_ble_eq_true rfl) (fun ad => fs_0 ad (z0 _ (Nat.le_of_eq hn0.symm)) (by decide)) (fun _ _ => rfl) (fun _ _ => rfl) (fun _ _ => rfl) (fun k e => e ▸ (z0 _ (Nat.le_of_eq hn0.symm)).2.2) (fun _ _ => rfl) ?_
  rw [hn0, show pm_N 10 = 3 from rfl]
  obtain ⟨kd1, hk1⟩ : ∃ k, k = kd ++ [(0, 10)] := ⟨_, rfl⟩
  rw [← hk1]
  have hn1 : kd1.length = n + 17 := by rw [hk1, List.length_append, hn0]; rfl
  have hh0_1 := k_at hk1 hh0
  have hf1_1 := k_at hk1 hf1
  have hf2_1 := k_at hk1 hf2
  have hf3_1 := k_at hk1 hf3
  have hf4_1 := k_at hk1 hf4
  have hc16 : kd1[n + 16]? = some (0, 10) := by rw [hk1]; exact k_new hn0
  have z4 : Zz (n + 17) mi ml mr := z0.mono (by omega)
  refine wp_cs (cs' := 17) (ss' := 778) rfl rfl ?_
  refine wp_dup (pc := 98) dX9_init_98 rfl ?_
  refine wp_callN (pc := 99) (As := []) (b := n + 16) (d' := d + 2) (mc' := 4) (ms' := 124) dX9_init_99 ml_X9_46 in_X10_init rfl rfl (Nat.le_of_ble_eq_true rfl) (Nat.le_of_ble_eq_true rfl) (by omega) ⟨Nat.le_of_ble_eq_true rfl, Nat.le_of_ble_eq_true rfl⟩ (n_X10 (d := d + 0) hc16 hn1 (by omega) z4) ?_
  obtain ⟨mr1, hm1⟩ : ∃ m, m = rX10 mr (n + 16) (n + 17) := ⟨_, rfl⟩
  rw [← hm1]
  have gf0_1 : mr1 h 5 = some (n + 2) := by rw [hm1]; exact (congrFun (rX10_lt (by omega) (by omega)) _).trans gf0_0
  have gf1_1 : mr1 h 6 = some (n + 3) := by rw [hm1]; exact (congrFun (rX10_lt (by omega) (by omega)) _).trans gf1_0
  have gf2_1 : mr1 h 7 = some (n + 4) := by rw [hm1]; exact (congrFun (rX10_lt (by omega) (by omega)) _).trans gf2_0
  have gf3_1 : mr1 h 8 = some (n + 5) := by rw [hm1]; exact (congrFun (rX10_lt (by omega) (by omega)) _).trans gf3_0
  obtain ⟨kd2, hk2⟩ : ∃ k, k = kd1 ++ kX10 := ⟨_, rfl⟩
  rw [← hk2]
  have hn2 : kd2.length = n + 21 := by rw [hk2, List.length_append, hn1]; rfl
  have hh0_2 := k_at hk2 hh0_1
  have hf1_2 := k_at hk2 hf1_1
  have hf2_2 := k_at hk2 hf2_1
  have hf3_2 := k_at hk2 hf3_1
  have hf4_2 := k_at hk2 hf4_1
  have hc16_2 := k_at hk2 hc16
  have z6 : Zz (n + 21) mi ml mr1 := by rw [hm1]; exact z_X10 z4 (by omega)
  refine wp_cs (cs' := 21) (ss' := 902) rfl rfl ?_
  refine wp_aast (t := 2) (ci := 10) (pc := 102) dX9_init_102 (by simp) hf3_2 hc16_2 (vp_dec (by decide)) ?_
  rw [show Int32.toNatClampNeg 0 = 0 from rfl]
  obtain ⟨mr2, hm2⟩ : ∃ m, m = pm_up mr1 (n + 4) 0 (some (n + 16)) := ⟨_, rfl⟩
  rw [← hm2]
  have gf0_2 : mr2 h 5 = some (n + 2) := by rw [hm2]; exact (pm_up_ne _ _ (by omega)).trans gf0_1
  have gf1_2 : mr2 h 6 = some (n + 3) := by rw [hm2]; exact (pm_up_ne _ _ (by omega)).trans gf1_1
  have gf2_2 : mr2 h 7 = some (n + 4) := by rw [hm2]; exact (pm_up_ne _ _ (by omega)).trans gf2_1
  have gf3_2 : mr2 h 8 = some (n + 5) := by rw [hm2]; exact (pm_up_ne _ _ (by omega)).trans gf3_1
  have z7 : Zz (n + 21) mi ml mr2 := by rw [hm2]; exact z6.upR (by omega)
  refine wp_aload_n (pc := 103) dX9_init_103 rfl ?_
  refine wp_getR (a := n + 5) (pc := 104) dX9_init_104 fl_X9_41 rfl hh0_2 (gf3_2) ?_
  refine wp_iload_n (pc := 107) dX9_init_107 rfl ?_
  refine wp_new (pc := 108) (ci := 6) (C := RX6) (T := TX6) (mi' := mi) (ml' := ml) (mr' := mr2) dX9_init_108 rfl ii_X6 tyX6_ok ⟨tb_1 39 rfl rfl, tb_1 109 rfl rfl, tb_1 4 rfl rfl⟩ (Nat.le_of_ble_eq_true rfl) (Nat.le_of_ble_eq_true rfl) (fun ad => fs_0 ad (z7 _ (Nat.le_of_eq hn2.symm)) (by decide)) (fun _ _ => rfl) (fun _ _ => rfl) (fun _ _ => rfl) (fun k e => e ▸ (z7 _ (Nat.le_of_eq hn2.symm)).2.2) (fun _ _ => rfl) ?_
  rw [hn2, show pm_N 6 = 4 from rfl]
  obtain ⟨kd3, hk3⟩ : ∃ k, k = kd2 ++ [(0, 6)] := ⟨_, rfl⟩
  rw [← hk3]
  have hn3 : kd3.length = n + 22 := by rw [hk3, List.length_append, hn2]; rfl
  have hh0_3 := k_at hk3 hh0_2
  have hf1_3 := k_at hk3 hf1_2
  have hf2_3 := k_at hk3 hf2_2
  have hf3_3 := k_at hk3 hf3_2
  have hf4_3 := k_at hk3 hf4_2
  have hc21 : kd3[n + 21]? = some (0, 6) := by rw [hk3]; exact k_new hn2
  have z11 : Zz (n + 22) mi ml mr2 := z7.mono (by omega)
  refine wp_cs (cs' := 22) (ss' := 906) rfl rfl ?_
  refine wp_dup (pc := 111) dX9_init_111 rfl ?_
  refine wp_callN (pc := 112) (As := []) (b := n + 21) (d' := d + 2) (mc' := 3) (ms' := 120) dX9_init_112 ml_X9_45 in_X6_init rfl rfl (Nat.le_of_ble_eq_true rfl) (Nat.le_of_ble_eq_true rfl) (by omega) ⟨Nat.le_of_ble_eq_true rfl, Nat.le_of_ble_eq_true rfl⟩ (n_X6 (d := d + 1) hc21 hn3 (by omega) z11) ?_
  obtain ⟨mr3, hm3⟩ : ∃ m, m = rX6 mr2 (n + 21) (n + 22) := ⟨_, rfl⟩
  rw [← hm3]
  have gf0_3 : mr3 h 5 = some (n + 2) := by rw [hm3]; exact (congrFun (rX6_lt (by omega) (by omega)) _).trans gf0_2
  have gf1_3 : mr3 h 6 = some (n + 3) := by rw [hm3]; exact (congrFun (rX6_lt (by omega) (by omega)) _).trans gf1_2
  have gf2_3 : mr3 h 7 = some (n + 4) := by rw [hm3]; exact (congrFun (rX6_lt (by omega) (by omega)) _).trans gf2_2
  have gf3_3 : mr3 h 8 = some (n + 5) := by rw [hm3]; exact (congrFun (rX6_lt (by omega) (by omega)) _).trans gf3_2
  obtain ⟨kd4, hk4⟩ : ∃ k, k = kd3 ++ kX6 := ⟨_, rfl⟩
  rw [← hk4]
  have hn4 : kd4.length = n + 25 := by rw [hk4, List.length_append, hn3]; rfl
  have hh0_4 := k_at hk4 hh0_3
  have hf1_4 := k_at hk4 hf1_3
  have hf2_4 := k_at hk4 hf2_3
  have hf3_4 := k_at hk4 hf3_3
  have hf4_4 := k_at hk4 hf4_3
  have hc21_4 := k_at hk4 hc21
  have z13 : Zz (n + 25) mi ml mr3 := by rw [hm3]; exact z_X6 z11 (by omega)
  refine wp_cs (cs' := 25) (ss' := 1026) rfl rfl ?_
  refine wp_aast (t := 1) (ci := 6) (pc := 115) dX9_init_115 (by simp) hf4_4 hc21_4 (vp_dec (by decide)) ?_
  rw [show Int32.toNatClampNeg 0 = 0 from rfl]
  obtain ⟨mr4, hm4⟩ : ∃ m, m = pm_up mr3 (n + 5) 0 (some (n + 21)) := ⟨_, rfl⟩
  rw [← hm4]
  have gf0_4 : mr4 h 5 = some (n + 2) := by rw [hm4]; exact (pm_up_ne _ _ (by omega)).trans gf0_3
  have gf1_4 : mr4 h 6 = some (n + 3) := by rw [hm4]; exact (pm_up_ne _ _ (by omega)).trans gf1_3
  have gf2_4 : mr4 h 7 = some (n + 4) := by rw [hm4]; exact (pm_up_ne _ _ (by omega)).trans gf2_3
  have gf3_4 : mr4 h 8 = some (n + 5) := by rw [hm4]; exact (pm_up_ne _ _ (by omega)).trans gf3_3
  have z14 : Zz (n + 25) mi ml mr4 := by rw [hm4]; exact z13.upR (by omega)
  have e1 : kd ++ KX9_3 = kd4 ++ KX9_4 := by rw [hk4, hk3, hk2, hk1]; simp only [List.append_assoc]; rfl
  have e2 : rX9_3 mr h n = mr4 := by rw [hm4, hm3, hm2, hm1]; rfl
  have e3 : RX9_3 mr h n = RX9_4 mr4 h n := congrArg (fun m => RX9_4 m h n) e2
  rw [e1, e3]
  exact n_X9_4 hh0_4 hf1_4 hf2_4 hf3_4 hf4_4 gf0_4 gf1_4 gf2_4 gf3_4 hn4 hlt z14
set_option maxHeartbeats 4000000 in
theorem n_X9_2 {l : Launch} {d h n : Nat} {kd : pm_K} {mi : pm_I} {ml : pm_L} {mr : pm_R} (hh0 : kd[h]? = some (0, 9)) (hf1 : kd[n + 2]? = some (5 + 0, 2)) (hf2 : kd[n + 3]? = some (5 + 1, 2)) (hf3 : kd[n + 4]? = some (5 + 2, 2)) (hf4 : kd[n + 5]? = some (5 + 1, 2)) (gf0_0 : mr h 5 = some (n + 2)) (gf1_0 : mr h 6 = some (n + 3)) (gf2_0 : mr h 7 = some (n + 4)) (gf3_0 : mr h 8 = some (n + 5)) (hn0 : kd.length = n + 6) (hlt : h < n) (z0 : Zz (n + 6) mi ml mr) : wp l M_X9_init (d + 3) 44 1440 57 [some (.ref h), none] [] 6 612 kd mi ml mr (qN (kd ++ KX9_2) (IX9_2 mi h n) ml (RX9_2 mr h n)) := by
  refine wp_iconst (v := 0) (pc := 57) dX9_init_57 (by decide) ?_
  refine wp_istore_n (pc := 58) dX9_init_58 (by show 1 < 2; decide) rfl ?_
  refine wp_iload_n (pc := 59) dX9_init_59 rfl ?_
  refine wp_iconst (v := 2) (pc := 60) dX9_init_60 (by decide) ?_
  refine wp_icmp_ge (tgt := 122) (pc := 61) dX9_init_61 (by decide) (fun c => absurd c (by decide)) (fun _ => ?_)
  refine wp_aload_n (pc := 64) dX9_init_64 rfl ?_
  refine wp_getR (a := n + 2) (pc := 65) dX9_init_65 fl_X9_25 rfl hh0 (gf0_0) ?_
  refine wp_iload_n (pc := 68) dX9_init_68 rfl ?_
  refine wp_new (pc := 69) (ci := 0) (C := RX0) (T := TX0) (mi' := mi) (ml' := ml) (mr' := mr) dX9_init_69 rfl ii_X0 tyX0_ok ⟨tb_1 37 rfl rfl, tb_1 43 rfl rfl, tb_1 3 rfl rfl⟩ (Nat.le_of_ble_eq_true rfl) (Nat.le_of_ble_eq_true rfl) (fun ad => fs_0 ad (z0 _ (Nat.le_of_eq hn0.symm)) (by decide)) (fun _ _ => rfl) (fun _ _ => rfl) (fun _ _ => rfl) (fun k e => e ▸ (z0 _ (Nat.le_of_eq hn0.symm)).2.2) (fun _ _ => rfl) ?_
  rw [hn0, show pm_N 0 = 11 from rfl]
  obtain ⟨kd1, hk1⟩ : ∃ k, k = kd ++ [(0, 0)] := ⟨_, rfl⟩
  rw [← hk1]
  have hn1 : kd1.length = n + 7 := by rw [hk1, List.length_append, hn0]; rfl
  have hh0_1 := k_at hk1 hh0
  have hf1_1 := k_at hk1 hf1
  have hf2_1 := k_at hk1 hf2
  have hf3_1 := k_at hk1 hf3
  have hf4_1 := k_at hk1 hf4
  have hc6 : kd1[n + 6]? = some (0, 0) := by rw [hk1]; exact k_new hn0
  have z9 : Zz (n + 7) mi ml mr := z0.mono (by omega)
  refine wp_cs (cs' := 7) (ss' := 623) rfl rfl ?_
  refine wp_dup (pc := 72) dX9_init_72 rfl ?_
  refine wp_callN (pc := 73) (As := []) (b := n + 6) (d' := d + 2) (mc' := 5) (ms' := 28) dX9_init_73 ml_X9_44 in_X0_init rfl rfl (Nat.le_of_ble_eq_true rfl) (Nat.le_of_ble_eq_true rfl) (by omega) ⟨Nat.le_of_ble_eq_true rfl, Nat.le_of_ble_eq_true rfl⟩ (n_X0 (d := d + 1) hc6 hn1 (by omega) z9) ?_
  obtain ⟨mr1, hm1⟩ : ∃ m, m = rX0 mr (n + 6) (n + 7) := ⟨_, rfl⟩
  rw [← hm1]
  have gf0_1 : mr1 h 5 = some (n + 2) := by rw [hm1]; exact (congrFun (rX0_lt (by omega) (by omega)) _).trans gf0_0
  have gf1_1 : mr1 h 6 = some (n + 3) := by rw [hm1]; exact (congrFun (rX0_lt (by omega) (by omega)) _).trans gf1_0
  have gf2_1 : mr1 h 7 = some (n + 4) := by rw [hm1]; exact (congrFun (rX0_lt (by omega) (by omega)) _).trans gf2_0
  have gf3_1 : mr1 h 8 = some (n + 5) := by rw [hm1]; exact (congrFun (rX0_lt (by omega) (by omega)) _).trans gf3_0
  obtain ⟨kd2, hk2⟩ : ∃ k, k = kd1 ++ kX0 := ⟨_, rfl⟩
  rw [← hk2]
  have hn2 : kd2.length = n + 12 := by rw [hk2, List.length_append, hn1]; rfl
  have hh0_2 := k_at hk2 hh0_1
  have hf1_2 := k_at hk2 hf1_1
  have hf2_2 := k_at hk2 hf2_1
  have hf3_2 := k_at hk2 hf3_1
  have hf4_2 := k_at hk2 hf4_1
  have hc6_2 := k_at hk2 hc6
  have z11 : Zz (n + 12) mi ml mr1 := by rw [hm1]; exact z_X0 z9 (by omega)
  refine wp_cs (cs' := 12) (ss' := 651) rfl rfl ?_
  refine wp_aast (t := 0) (ci := 0) (pc := 76) dX9_init_76 (by simp) hf1_2 hc6_2 (vp_dec (by decide)) ?_
  rw [show Int32.toNatClampNeg 0 = 0 from rfl]
  obtain ⟨mr2, hm2⟩ : ∃ m, m = pm_up mr1 (n + 2) 0 (some (n + 6)) := ⟨_, rfl⟩
  rw [← hm2]
  have gf0_2 : mr2 h 5 = some (n + 2) := by rw [hm2]; exact (pm_up_ne _ _ (by omega)).trans gf0_1
  have gf1_2 : mr2 h 6 = some (n + 3) := by rw [hm2]; exact (pm_up_ne _ _ (by omega)).trans gf1_1
  have gf2_2 : mr2 h 7 = some (n + 4) := by rw [hm2]; exact (pm_up_ne _ _ (by omega)).trans gf2_1
  have gf3_2 : mr2 h 8 = some (n + 5) := by rw [hm2]; exact (pm_up_ne _ _ (by omega)).trans gf3_1
  have z12 : Zz (n + 12) mi ml mr2 := by rw [hm2]; exact z11.upR (by omega)
  refine wp_aload_n (pc := 77) dX9_init_77 rfl ?_
  refine wp_getR (a := n + 3) (pc := 78) dX9_init_78 fl_X9_31 rfl hh0_2 (gf1_2) ?_
  refine wp_iload_n (pc := 81) dX9_init_81 rfl ?_
  refine wp_new (pc := 82) (ci := 6) (C := RX6) (T := TX6) (mi' := mi) (ml' := ml) (mr' := mr2) dX9_init_82 rfl ii_X6 tyX6_ok ⟨tb_1 39 rfl rfl, tb_1 109 rfl rfl, tb_1 4 rfl rfl⟩ (Nat.le_of_ble_eq_true rfl) (Nat.le_of_ble_eq_true rfl) (fun ad => fs_0 ad (z12 _ (Nat.le_of_eq hn2.symm)) (by decide)) (fun _ _ => rfl) (fun _ _ => rfl) (fun _ _ => rfl) (fun k e => e ▸ (z12 _ (Nat.le_of_eq hn2.symm)).2.2) (fun _ _ => rfl) ?_
  rw [hn2, show pm_N 6 = 4 from rfl]
  obtain ⟨kd3, hk3⟩ : ∃ k, k = kd2 ++ [(0, 6)] := ⟨_, rfl⟩
  rw [← hk3]
  have hn3 : kd3.length = n + 13 := by rw [hk3, List.length_append, hn2]; rfl
  have hh0_3 := k_at hk3 hh0_2
  have hf1_3 := k_at hk3 hf1_2
  have hf2_3 := k_at hk3 hf2_2
  have hf3_3 := k_at hk3 hf3_2
  have hf4_3 := k_at hk3 hf4_2
  have hc12 : kd3[n + 12]? = some (0, 6) := by rw [hk3]; exact k_new hn2
  have z16 : Zz (n + 13) mi ml mr2 := z12.mono (by omega)
  refine wp_cs (cs' := 13) (ss' := 655) rfl rfl ?_
  refine wp_dup (pc := 85) dX9_init_85 rfl ?_
  refine wp_callN (pc := 86) (As := []) (b := n + 12) (d' := d + 2) (mc' := 3) (ms' := 120) dX9_init_86 ml_X9_45 in_X6_init rfl rfl (Nat.le_of_ble_eq_true rfl) (Nat.le_of_ble_eq_true rfl) (by omega) ⟨Nat.le_of_ble_eq_true rfl, Nat.le_of_ble_eq_true rfl⟩ (n_X6 (d := d + 1) hc12 hn3 (by omega) z16) ?_
  obtain ⟨mr3, hm3⟩ : ∃ m, m = rX6 mr2 (n + 12) (n + 13) := ⟨_, rfl⟩
  rw [← hm3]
  have gf0_3 : mr3 h 5 = some (n + 2) := by rw [hm3]; exact (congrFun (rX6_lt (by omega) (by omega)) _).trans gf0_2
  have gf1_3 : mr3 h 6 = some (n + 3) := by rw [hm3]; exact (congrFun (rX6_lt (by omega) (by omega)) _).trans gf1_2
  have gf2_3 : mr3 h 7 = some (n + 4) := by rw [hm3]; exact (congrFun (rX6_lt (by omega) (by omega)) _).trans gf2_2
  have gf3_3 : mr3 h 8 = some (n + 5) := by rw [hm3]; exact (congrFun (rX6_lt (by omega) (by omega)) _).trans gf3_2
  obtain ⟨kd4, hk4⟩ : ∃ k, k = kd3 ++ kX6 := ⟨_, rfl⟩
  rw [← hk4]
  have hn4 : kd4.length = n + 16 := by rw [hk4, List.length_append, hn3]; rfl
  have hh0_4 := k_at hk4 hh0_3
  have hf1_4 := k_at hk4 hf1_3
  have hf2_4 := k_at hk4 hf2_3
  have hf3_4 := k_at hk4 hf3_3
  have hf4_4 := k_at hk4 hf4_3
  have hc12_4 := k_at hk4 hc12
  have z18 : Zz (n + 16) mi ml mr3 := by rw [hm3]; exact z_X6 z16 (by omega)
  refine wp_cs (cs' := 16) (ss' := 775) rfl rfl ?_
  refine wp_aast (t := 1) (ci := 6) (pc := 89) dX9_init_89 (by simp) hf2_4 hc12_4 (vp_dec (by decide)) ?_
  rw [show Int32.toNatClampNeg 0 = 0 from rfl]
  obtain ⟨mr4, hm4⟩ : ∃ m, m = pm_up mr3 (n + 3) 0 (some (n + 12)) := ⟨_, rfl⟩
  rw [← hm4]
  have gf0_4 : mr4 h 5 = some (n + 2) := by rw [hm4]; exact (pm_up_ne _ _ (by omega)).trans gf0_3
  have gf1_4 : mr4 h 6 = some (n + 3) := by rw [hm4]; exact (pm_up_ne _ _ (by omega)).trans gf1_3
  have gf2_4 : mr4 h 7 = some (n + 4) := by rw [hm4]; exact (pm_up_ne _ _ (by omega)).trans gf2_3
  have gf3_4 : mr4 h 8 = some (n + 5) := by rw [hm4]; exact (pm_up_ne _ _ (by omega)).trans gf3_3
  have z19 : Zz (n + 16) mi ml mr4 := by rw [hm4]; exact z18.upR (by omega)
  have e1 : kd ++ KX9_2 = kd4 ++ KX9_3 := by rw [hk4, hk3, hk2, hk1]; simp only [List.append_assoc]; rfl
  have e2 : rX9_2 mr h n = mr4 := by rw [hm4, hm3, hm2, hm1]; rfl
  have e3 : RX9_2 mr h n = RX9_3 mr4 h n := congrArg (fun m => RX9_3 m h n) e2
  rw [e1, e3]
  exact n_X9_3 hh0_4 hf1_4 hf2_4 hf3_4 hf4_4 gf0_4 gf1_4 gf2_4 gf3_4 hn4 hlt z19
set_option maxHeartbeats 4000000 in
theorem n_X9_1 {l : Launch} {d h n : Nat} {kd : pm_K} {mi : pm_I} {ml : pm_L} {mr : pm_R} (hh0 : kd[h]? = some (0, 9)) (hf1 : kd[n + 2]? = some (5 + 0, 2)) (gf0_0 : mr h 5 = some (n + 2)) (hn0 : kd.length = n + 3) (hlt : h < n) (z0 : Zz (n + 3) mi ml mr) : wp l M_X9_init (d + 3) 44 1440 33 [some (.ref h), none] [] 3 606 kd mi ml mr (qN (kd ++ KX9_1) (IX9_1 mi h n) ml (RX9_1 mr h n)) := by
  refine wp_aload_n (pc := 33) dX9_init_33 rfl ?_
  refine wp_iconst (v := 2) (pc := 34) dX9_init_34 (by decide) ?_
  refine wp_newq (pc := 35) (t := 1) (C := RX6) (N := 2) (mr' := mr) dX9_init_35 (by simp) (tb_1 39 rfl rfl) (by decide) rfl (by decide) (Nat.le_of_ble_eq_true rfl) (Nat.le_of_ble_eq_true rfl) (fun _ _ => rfl) (z0 _ (Nat.le_of_eq hn0.symm)).2.2 ?_
  rw [hn0]
  obtain ⟨kd1, hk1⟩ : ∃ k, k = kd ++ [(6, 2)] := ⟨_, rfl⟩
  rw [← hk1]
  have hn1 : kd1.length = n + 4 := by rw [hk1, List.length_append, hn0]; rfl
  have hh0_1 := k_at hk1 hh0
  have hf1_1 := k_at hk1 hf1
  have hc3 : kd1[n + 3]? = some (5 + 1, 2) := by rw [hk1]; exact k_new hn0
  have z3 : Zz (n + 4) mi ml mr := z0.mono (by omega)
  refine wp_cs (cs' := 4) (ss' := 608) rfl rfl ?_
  refine wp_putR (pc := 38) dX9_init_38 fl_X9_31 rfl ⟨rfl, (RX9, TX9, 9), rfl, rfl, tb_1 170 rfl rfl⟩ hh0_1 ?_
  obtain ⟨mr1, hm1⟩ : ∃ m, m = pm_up mr (h) 6 (some (n + 3)) := ⟨_, rfl⟩
  rw [← hm1]
  have gf0_1 : mr1 h 5 = some (n + 2) := by rw [hm1]; exact (pm_up_ne _ _ (by omega)).trans gf0_0
  have g6_1 : mr1 h 6 = some (n + 3) := by rw [hm1]; exact pm_up_s _ _ _ _
  have z4 : Zz (n + 4) mi ml mr1 := by rw [hm1]; exact z3.upR (by omega)
  refine wp_aload_n (pc := 41) dX9_init_41 rfl ?_
  refine wp_iconst (v := 2) (pc := 42) dX9_init_42 (by decide) ?_
  refine wp_newq (pc := 43) (t := 2) (C := RX10) (N := 2) (mr' := mr1) dX9_init_43 (by simp) (tb_1 41 rfl rfl) (by decide) rfl (by decide) (Nat.le_of_ble_eq_true rfl) (Nat.le_of_ble_eq_true rfl) (fun _ _ => rfl) (z4 _ (Nat.le_of_eq hn1.symm)).2.2 ?_
  rw [hn1]
  obtain ⟨kd2, hk2⟩ : ∃ k, k = kd1 ++ [(7, 2)] := ⟨_, rfl⟩
  rw [← hk2]
  have hn2 : kd2.length = n + 5 := by rw [hk2, List.length_append, hn1]; rfl
  have hh0_2 := k_at hk2 hh0_1
  have hf1_2 := k_at hk2 hf1_1
  have hc3_2 := k_at hk2 hc3
  have hc4 : kd2[n + 4]? = some (5 + 2, 2) := by rw [hk2]; exact k_new hn1
  have z7 : Zz (n + 5) mi ml mr1 := z4.mono (by omega)
  refine wp_cs (cs' := 5) (ss' := 610) rfl rfl ?_
  refine wp_putR (pc := 46) dX9_init_46 fl_X9_37 rfl ⟨rfl, (RX9, TX9, 9), rfl, rfl, tb_1 171 rfl rfl⟩ hh0_2 ?_
  obtain ⟨mr2, hm2⟩ : ∃ m, m = pm_up mr1 (h) 7 (some (n + 4)) := ⟨_, rfl⟩
  rw [← hm2]
  have gf0_2 : mr2 h 5 = some (n + 2) := by rw [hm2]; exact (pm_up_ne _ _ (by omega)).trans gf0_1
  have g6_2 : mr2 h 6 = some (n + 3) := by rw [hm2]; exact (pm_up_ne _ _ (by omega)).trans g6_1
  have g7_2 : mr2 h 7 = some (n + 4) := by rw [hm2]; exact pm_up_s _ _ _ _
  have z8 : Zz (n + 5) mi ml mr2 := by rw [hm2]; exact z7.upR (by omega)
  refine wp_aload_n (pc := 49) dX9_init_49 rfl ?_
  refine wp_iconst (v := 2) (pc := 50) dX9_init_50 (by decide) ?_
  refine wp_newq (pc := 51) (t := 1) (C := RX6) (N := 2) (mr' := mr2) dX9_init_51 (by simp) (tb_1 39 rfl rfl) (by decide) rfl (by decide) (Nat.le_of_ble_eq_true rfl) (Nat.le_of_ble_eq_true rfl) (fun _ _ => rfl) (z8 _ (Nat.le_of_eq hn2.symm)).2.2 ?_
  rw [hn2]
  obtain ⟨kd3, hk3⟩ : ∃ k, k = kd2 ++ [(6, 2)] := ⟨_, rfl⟩
  rw [← hk3]
  have hn3 : kd3.length = n + 6 := by rw [hk3, List.length_append, hn2]; rfl
  have hh0_3 := k_at hk3 hh0_2
  have hf1_3 := k_at hk3 hf1_2
  have hc3_3 := k_at hk3 hc3_2
  have hc4_3 := k_at hk3 hc4
  have hc5 : kd3[n + 5]? = some (5 + 1, 2) := by rw [hk3]; exact k_new hn2
  have z11 : Zz (n + 6) mi ml mr2 := z8.mono (by omega)
  refine wp_cs (cs' := 6) (ss' := 612) rfl rfl ?_
  refine wp_putR (pc := 54) dX9_init_54 fl_X9_41 rfl ⟨rfl, (RX9, TX9, 9), rfl, rfl, tb_1 172 rfl rfl⟩ hh0_3 ?_
  obtain ⟨mr3, hm3⟩ : ∃ m, m = pm_up mr2 (h) 8 (some (n + 5)) := ⟨_, rfl⟩
  rw [← hm3]
  have gf0_3 : mr3 h 5 = some (n + 2) := by rw [hm3]; exact (pm_up_ne _ _ (by omega)).trans gf0_2
  have g6_3 : mr3 h 6 = some (n + 3) := by rw [hm3]; exact (pm_up_ne _ _ (by omega)).trans g6_2
  have g7_3 : mr3 h 7 = some (n + 4) := by rw [hm3]; exact (pm_up_ne _ _ (by omega)).trans g7_2
  have g8_3 : mr3 h 8 = some (n + 5) := by rw [hm3]; exact pm_up_s _ _ _ _
  have z12 : Zz (n + 6) mi ml mr3 := by rw [hm3]; exact z11.upR (by omega)
  have e1 : kd ++ KX9_1 = kd3 ++ KX9_2 := by rw [hk3, hk2, hk1]; simp only [List.append_assoc]; rfl
  have e2 : rX9_1 mr h n = mr3 := by rw [hm3, hm2, hm1]; rfl
  have e3 : RX9_1 mr h n = RX9_2 mr3 h n := congrArg (fun m => RX9_2 m h n) e2
  rw [e1, e3]
  exact n_X9_2 hh0_3 hf1_3 hc3_3 hc4_3 hc5 gf0_3 g6_3 g7_3 g8_3 hn3 hlt z12
set_option maxHeartbeats 4000000 in
theorem n_X9_0 {l : Launch} {d h n : Nat} {kd : pm_K} {mi : pm_I} {ml : pm_L} {mr : pm_R} (hh0 : kd[h]? = some (0, 9))  (hn0 : kd.length = n) (hlt : h < n) (z0 : Zz (n) mi ml mr) : wp l M_X9_init (d + 3) 44 1440 0 [some (.ref h), none] [] 0 0 kd mi ml mr (qN (kd ++ KX9_0) (IX9_0 mi h n) ml (RX9_0 mr h n)) := by
  refine wp_aload_n (pc := 0) dX9_init_0 rfl ?_
  refine wp_objInit (pc := 1) dX9_init_1 ⟨tb_1 36 rfl rfl, tb_1 29 rfl rfl, tb_1 30 rfl rfl⟩ (Nat.succ_pos _) (Nat.le_of_ble_eq_true rfl) ?_
  refine wp_aload_n (pc := 4) dX9_init_4 rfl ?_
  refine wp_sipush (v := 600) (pc := 5) dX9_init_5 (by decide) ?_
  refine wp_newa (i := 0) (pc := 8) (t := 3) (N := 600) (mi' := mi) (ml' := ml) dX9_init_8 (by simp) (tb_1 107 rfl rfl) (by decide) rfl (by decide) (Nat.le_of_ble_eq_true rfl) (Nat.le_of_ble_eq_true rfl) (fun _ _ => rfl) (fun _ _ => rfl) (z0 _ (Nat.le_of_eq hn0.symm)).1 (z0 _ (Nat.le_of_eq hn0.symm)).2.1 ?_
  rw [hn0]
  obtain ⟨kd1, hk1⟩ : ∃ k, k = kd ++ [(3, 600)] := ⟨_, rfl⟩
  rw [← hk1]
  have hn1 : kd1.length = n + 1 := by rw [hk1, List.length_append, hn0]; rfl
  have hh0_1 := k_at hk1 hh0
  have hc0 : kd1[n]? = some (3, 600) := by rw [hk1]; exact k_new hn0
  have z5 : Zz (n + 1) mi ml mr := z0.mono (by omega)
  refine wp_cs (cs' := 1) (ss' := 600) rfl rfl ?_
  refine wp_putR (pc := 10) dX9_init_10 fl_X9_9 rfl ⟨rfl, (RX9, TX9, 9), rfl, rfl, tb_1 160 rfl rfl⟩ hh0_1 ?_
  obtain ⟨mr1, hm1⟩ : ∃ m, m = pm_up mr (h) 0 (some (n)) := ⟨_, rfl⟩
  rw [← hm1]
  have z6 : Zz (n + 1) mi ml mr1 := by rw [hm1]; exact z5.upR (by omega)
  refine wp_aload_n (pc := 13) dX9_init_13 rfl ?_
  refine wp_iconst (v := -1) (pc := 14) dX9_init_14 (by decide) ?_
  refine wp_putI (pc := 15) dX9_init_15 fl_X9_15 rfl rfl hh0_1 ?_
  have z9 : Zz (n + 1) (pm_up mi h 3 (-1)) ml mr1 := z6.upI (by omega)
  refine wp_aload_n (pc := 18) dX9_init_18 rfl ?_
  refine wp_iconst (v := 4) (pc := 19) dX9_init_19 (by decide) ?_
  refine wp_newa (i := 0) (pc := 20) (t := 1) (N := 4) (mi' := (pm_up mi h 3 (-1))) (ml' := ml) dX9_init_20 (by simp) (tb_1 108 rfl rfl) (by decide) rfl (by decide) (Nat.le_of_ble_eq_true rfl) (Nat.le_of_ble_eq_true rfl) (fun _ _ => rfl) (fun _ _ => rfl) (z9 _ (Nat.le_of_eq hn1.symm)).1 (z9 _ (Nat.le_of_eq hn1.symm)).2.1 ?_
  rw [hn1]
  obtain ⟨kd2, hk2⟩ : ∃ k, k = kd1 ++ [(1, 4)] := ⟨_, rfl⟩
  rw [← hk2]
  have hn2 : kd2.length = n + 2 := by rw [hk2, List.length_append, hn1]; rfl
  have hh0_2 := k_at hk2 hh0_1
  have hc1 : kd2[n + 1]? = some (1, 4) := by rw [hk2]; exact k_new hn1
  have z12 : Zz (n + 2) (pm_up mi h 3 (-1)) ml mr1 := z9.mono (by omega)
  refine wp_cs (cs' := 2) (ss' := 604) rfl rfl ?_
  refine wp_putR (pc := 22) dX9_init_22 fl_X9_19 rfl ⟨rfl, (RX9, TX9, 9), rfl, rfl, tb_1 168 rfl rfl⟩ hh0_2 ?_
  obtain ⟨mr2, hm2⟩ : ∃ m, m = pm_up mr1 (h) 4 (some (n + 1)) := ⟨_, rfl⟩
  rw [← hm2]
  have z13 : Zz (n + 2) (pm_up mi h 3 (-1)) ml mr2 := by rw [hm2]; exact z12.upR (by omega)
  refine wp_aload_n (pc := 25) dX9_init_25 rfl ?_
  refine wp_iconst (v := 2) (pc := 26) dX9_init_26 (by decide) ?_
  refine wp_newq (pc := 27) (t := 0) (C := RX0) (N := 2) (mr' := mr2) dX9_init_27 (by simp) (tb_1 37 rfl rfl) (by decide) rfl (by decide) (Nat.le_of_ble_eq_true rfl) (Nat.le_of_ble_eq_true rfl) (fun _ _ => rfl) (z13 _ (Nat.le_of_eq hn2.symm)).2.2 ?_
  rw [hn2]
  obtain ⟨kd3, hk3⟩ : ∃ k, k = kd2 ++ [(5, 2)] := ⟨_, rfl⟩
  rw [← hk3]
  have hn3 : kd3.length = n + 3 := by rw [hk3, List.length_append, hn2]; rfl
  have hh0_3 := k_at hk3 hh0_2
  have hc2 : kd3[n + 2]? = some (5 + 0, 2) := by rw [hk3]; exact k_new hn2
  have z16 : Zz (n + 3) (pm_up mi h 3 (-1)) ml mr2 := z13.mono (by omega)
  refine wp_cs (cs' := 3) (ss' := 606) rfl rfl ?_
  refine wp_putR (pc := 30) dX9_init_30 fl_X9_25 rfl ⟨rfl, (RX9, TX9, 9), rfl, rfl, tb_1 169 rfl rfl⟩ hh0_3 ?_
  obtain ⟨mr3, hm3⟩ : ∃ m, m = pm_up mr2 (h) 5 (some (n + 2)) := ⟨_, rfl⟩
  rw [← hm3]
  have g5_3 : mr3 h 5 = some (n + 2) := by rw [hm3]; exact pm_up_s _ _ _ _
  have z17 : Zz (n + 3) (pm_up mi h 3 (-1)) ml mr3 := by rw [hm3]; exact z16.upR (by omega)
  have e1 : kd ++ KX9_0 = kd3 ++ KX9_1 := by rw [hk3, hk2, hk1]; simp only [List.append_assoc]; rfl
  have e2 : rX9_0 mr h n = mr3 := by rw [hm3, hm2, hm1]; rfl
  have e3 : RX9_0 mr h n = RX9_1 mr3 h n := congrArg (fun m => RX9_1 m h n) e2
  rw [e1, e3]
  exact n_X9_1 hh0_3 hc2 g5_3 hn3 hlt z17
theorem n_X9 {l : Launch} {d h n : Nat} {kd : pm_K} {mi : pm_I} {ml : pm_L} {mr : pm_R} (hh0 : kd[h]? = some (0, 9)) (hn0 : kd.length = n) (hlt : h < n) (z0 : Zz n mi ml mr) : wpc l M_X9_init (d + 3) 44 1440 [.ref h] kd mi ml mr (qN (kd ++ kX9) (iX9 mi h n) ml (rX9 mr h n)) := n_X9_0 hh0 hn0 hlt z0
theorem z_X9 {h n : Nat} {mi : pm_I} {ml : pm_L} {mr : pm_R} (z : Zz n mi ml mr) (hlt : h < n) : Zz (n + 44) (iX9 mi h n) ml (rX9 mr h n) := by
  have z := z.mono (Nat.le_add_right n 44)
  intro k hk
  obtain ⟨e1, e2, e3⟩ := z k hk
  refine ⟨?_, e2, ?_⟩
  · rw [iX9_ge (by omega) (by omega)]; exact e1
  · rw [rX9_ge (by omega) (by omega)]; exact e3
