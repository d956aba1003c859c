/-! constructors, by program (gen/mk70.py) -/
def rX12_0 (mr : pm_R) (h n : Nat) : pm_R := (pm_up (pm_up (pm_up (pm_up mr (h) 1 (some (n))) (h) 2 (some (n + 1))) (h) 3 (some (n + 2))) (h) 4 (some (n + 3)))
def iX12_0 (mi : pm_I) (h n : Nat) : pm_I := mi
def kX12_0 : pm_K := [(3, 2400)] ++ ([(1, 4)] ++ ([(1, 4)] ++ ([(1, 4)])))
theorem rX12_0_ge {h n a : Nat} {mr : pm_R} (hlt : h < n) (ha : n + 4 ≤ a) : rX12_0 mr h n a = mr a := by
  unfold rX12_0; rw [pm_up_row _ _ (by omega), pm_up_row _ _ (by omega), pm_up_row _ _ (by omega), pm_up_row _ _ (by omega)]
theorem iX12_0_ge {h n a : Nat} {mi : pm_I} (hlt : h < n) (ha : n + 4 ≤ a) : iX12_0 mi h n a = mi a := by
  unfold iX12_0; rfl
theorem rX12_0_lt {h n a : Nat} {mr : pm_R} (hlt : h < n) (ha : a < h) : rX12_0 mr h n a = mr a := by
  unfold rX12_0; rw [pm_up_row _ _ (by omega), pm_up_row _ _ (by omega), pm_up_row _ _ (by omega), pm_up_row _ _ (by omega)]
theorem iX12_0_lt {h n a : Nat} {mi : pm_I} (hlt : h < n) (ha : a < h) : iX12_0 mi h n a = mi a := by
  unfold iX12_0; rfl
def rX12_1 (mr : pm_R) (h n : Nat) : pm_R := (pm_up (pm_up (pm_up (pm_up mr (h) 5 (some (n + 4))) (h) 6 (some (n + 5))) (h) 7 (some (n + 6))) (h) 8 (some (n + 7)))
def iX12_1 (mi : pm_I) (h n : Nat) : pm_I := mi
def kX12_1 : pm_K := [(1, 16)] ++ ([(1, 424)] ++ ([(1, 968)] ++ ([(1, 312)])))
theorem rX12_1_ge {h n a : Nat} {mr : pm_R} (hlt : h < n) (ha : n + 8 ≤ a) : rX12_1 mr h n a = mr a := by
  unfold rX12_1; rw [pm_up_row _ _ (by omega), pm_up_row _ _ (by omega), pm_up_row _ _ (by omega), pm_up_row _ _ (by omega)]
theorem iX12_1_ge {h n a : Nat} {mi : pm_I} (hlt : h < n) (ha : n + 8 ≤ a) : iX12_1 mi h n a = mi a := by
  unfold iX12_1; rfl
theorem rX12_1_lt {h n a : Nat} {mr : pm_R} (hlt : h < n) (ha : a < h) : rX12_1 mr h n a = mr a := by
  unfold rX12_1; rw [pm_up_row _ _ (by omega), pm_up_row _ _ (by omega), pm_up_row _ _ (by omega), pm_up_row _ _ (by omega)]
theorem iX12_1_lt {h n a : Nat} {mi : pm_I} (hlt : h < n) (ha : a < h) : iX12_1 mi h n a = mi a := by
  unfold iX12_1; rfl
def rX12_2 (mr : pm_R) (h n : Nat) : pm_R := (pm_up (pm_up (pm_up (pm_up mr (h) 9 (some (n + 8))) (h) 19 (some (n + 9))) (h) 20 (some (n + 10))) (h) 31 (some (n + 11)))
def iX12_2 (mi : pm_I) (h n : Nat) : pm_I := mi
def kX12_2 : pm_K := [(1, 248)] ++ ([(1, 121)] ++ ([(1, 3)] ++ ([(1, 64)])))
theorem rX12_2_ge {h n a : Nat} {mr : pm_R} (hlt : h < n) (ha : n + 12 ≤ a) : rX12_2 mr h n a = mr a := by
  unfold rX12_2; rw [pm_up_row _ _ (by omega), pm_up_row _ _ (by omega), pm_up_row _ _ (by omega), pm_up_row _ _ (by omega)]
theorem iX12_2_ge {h n a : Nat} {mi : pm_I} (hlt : h < n) (ha : n + 12 ≤ a) : iX12_2 mi h n a = mi a := by
  unfold iX12_2; rfl
theorem rX12_2_lt {h n a : Nat} {mr : pm_R} (hlt : h < n) (ha : a < h) : rX12_2 mr h n a = mr a := by
  unfold rX12_2; rw [pm_up_row _ _ (by omega), pm_up_row _ _ (by omega), pm_up_row _ _ (by omega), pm_up_row _ _ (by omega)]
theorem iX12_2_lt {h n a : Nat} {mi : pm_I} (hlt : h < n) (ha : a < h) : iX12_2 mi h n a = mi a := by
  unfold iX12_2; rfl
def rX12_3 (mr : pm_R) (h n : Nat) : pm_R := (pm_up (pm_up (pm_up (pm_up mr (h) 32 (some (n + 12))) (h) 33 (some (n + 13))) (h) 34 (some (n + 14))) (h) 35 (some (n + 15)))
def iX12_3 (mi : pm_I) (h n : Nat) : pm_I := mi
def kX12_3 : pm_K := [(1, 6)] ++ ([(1, 6)] ++ ([(1, 6)] ++ ([(1, 6)])))
theorem rX12_3_ge {h n a : Nat} {mr : pm_R} (hlt : h < n) (ha : n + 16 ≤ a) : rX12_3 mr h n a = mr a := by
  unfold rX12_3; rw [pm_up_row _ _ (by omega), pm_up_row _ _ (by omega), pm_up_row _ _ (by omega), pm_up_row _ _ (by omega)]
theorem iX12_3_ge {h n a : Nat} {mi : pm_I} (hlt : h < n) (ha : n + 16 ≤ a) : iX12_3 mi h n a = mi a := by
  unfold iX12_3; rfl
theorem rX12_3_lt {h n a : Nat} {mr : pm_R} (hlt : h < n) (ha : a < h) : rX12_3 mr h n a = mr a := by
  unfold rX12_3; rw [pm_up_row _ _ (by omega), pm_up_row _ _ (by omega), pm_up_row _ _ (by omega), pm_up_row _ _ (by omega)]
theorem iX12_3_lt {h n a : Nat} {mi : pm_I} (hlt : h < n) (ha : a < h) : iX12_3 mi h n a = mi a := by
  unfold iX12_3; rfl
def rX12_4 (mr : pm_R) (h n : Nat) : pm_R := (pm_up (pm_up (pm_up (pm_up mr (h) 39 (some (n + 16))) (h) 40 (some (n + 17))) (h) 43 (some (n + 18))) (h) 44 (some (n + 19)))
def iX12_4 (mi : pm_I) (h n : Nat) : pm_I := mi
def kX12_4 : pm_K := [(2, 64)] ++ ([(2, 64)] ++ ([(1, 4096)] ++ ([(1, 4096)])))
theorem rX12_4_ge {h n a : Nat} {mr : pm_R} (hlt : h < n) (ha : n + 20 ≤ a) : rX12_4 mr h n a = mr a := by
  unfold rX12_4; rw [pm_up_row _ _ (by omega), pm_up_row _ _ (by omega), pm_up_row _ _ (by omega), pm_up_row _ _ (by omega)]
theorem iX12_4_ge {h n a : Nat} {mi : pm_I} (hlt : h < n) (ha : n + 20 ≤ a) : iX12_4 mi h n a = mi a := by
  unfold iX12_4; rfl
theorem rX12_4_lt {h n a : Nat} {mr : pm_R} (hlt : h < n) (ha : a < h) : rX12_4 mr h n a = mr a := by
  unfold rX12_4; rw [pm_up_row _ _ (by omega), pm_up_row _ _ (by omega), pm_up_row _ _ (by omega), pm_up_row _ _ (by omega)]
theorem iX12_4_lt {h n a : Nat} {mi : pm_I} (hlt : h < n) (ha : a < h) : iX12_4 mi h n a = mi a := by
  unfold iX12_4; rfl
def rX12_5 (mr : pm_R) (h n : Nat) : pm_R := (pm_up (pm_up (pm_up (pm_up mr (h) 45 (some (n + 20))) (h) 47 (some (n + 21))) (h) 51 (some (n + 22))) (h) 52 (some (n + 23)))
def iX12_5 (mi : pm_I) (h n : Nat) : pm_I := mi
def kX12_5 : pm_K := [(1, 40625)] ++ ([(1, 256)] ++ ([(1, 64)] ++ ([(1, 64)])))
theorem rX12_5_ge {h n a : Nat} {mr : pm_R} (hlt : h < n) (ha : n + 24 ≤ a) : rX12_5 mr h n a = mr a := by
  unfold rX12_5; rw [pm_up_row _ _ (by omega), pm_up_row _ _ (by omega), pm_up_row _ _ (by omega), pm_up_row _ _ (by omega)]
theorem iX12_5_ge {h n a : Nat} {mi : pm_I} (hlt : h < n) (ha : n + 24 ≤ a) : iX12_5 mi h n a = mi a := by
  unfold iX12_5; rfl
theorem rX12_5_lt {h n a : Nat} {mr : pm_R} (hlt : h < n) (ha : a < h) : rX12_5 mr h n a = mr a := by
  unfold rX12_5; rw [pm_up_row _ _ (by omega), pm_up_row _ _ (by omega), pm_up_row _ _ (by omega), pm_up_row _ _ (by omega)]
theorem iX12_5_lt {h n a : Nat} {mi : pm_I} (hlt : h < n) (ha : a < h) : iX12_5 mi h n a = mi a := by
  unfold iX12_5; rfl
def rX12_6 (mr : pm_R) (h n : Nat) : pm_R := (pm_up (pm_up (pm_up (pm_up mr (h) 53 (some (n + 24))) (h) 54 (some (n + 25))) (h) 55 (some (n + 26))) (h) 57 (some (n + 27)))
def iX12_6 (mi : pm_I) (h n : Nat) : pm_I := mi
def kX12_6 : pm_K := [(1, 64)] ++ ([(1, 128)] ++ ([(1, 128)] ++ ([(4, 4096)])))
theorem rX12_6_ge {h n a : Nat} {mr : pm_R} (hlt : h < n) (ha : n + 28 ≤ a) : rX12_6 mr h n a = mr a := by
  unfold rX12_6; rw [pm_up_row _ _ (by omega), pm_up_row _ _ (by omega), pm_up_row _ _ (by omega), pm_up_row _ _ (by omega)]
theorem iX12_6_ge {h n a : Nat} {mi : pm_I} (hlt : h < n) (ha : n + 28 ≤ a) : iX12_6 mi h n a = mi a := by
  unfold iX12_6; rfl
theorem rX12_6_lt {h n a : Nat} {mr : pm_R} (hlt : h < n) (ha : a < h) : rX12_6 mr h n a = mr a := by
  unfold rX12_6; rw [pm_up_row _ _ (by omega), pm_up_row _ _ (by omega), pm_up_row _ _ (by omega), pm_up_row _ _ (by omega)]
theorem iX12_6_lt {h n a : Nat} {mi : pm_I} (hlt : h < n) (ha : a < h) : iX12_6 mi h n a = mi a := by
  unfold iX12_6; rfl
def rX12_7 (mr : pm_R) (h n : Nat) : pm_R := (pm_up (pm_up (pm_up mr (h) 58 (some (n + 28))) (h) 59 (some (n + 29))) (h) 60 (some (n + 30)))
def iX12_7 (mi : pm_I) (h n : Nat) : pm_I := (pm_up mi (n + 3) 0 (-1))
def kX12_7 : pm_K := [(1, 49)] ++ ([(1, 448)] ++ ([(4, 3)]))
theorem rX12_7_ge {h n a : Nat} {mr : pm_R} (hlt : h < n) (ha : n + 31 ≤ a) : rX12_7 mr h n a = mr a := by
  unfold rX12_7; rw [pm_up_row _ _ (by omega), pm_up_row _ _ (by omega), pm_up_row _ _ (by omega)]
theorem iX12_7_ge {h n a : Nat} {mi : pm_I} (hlt : h < n) (ha : n + 31 ≤ a) : iX12_7 mi h n a = mi a := by
  unfold iX12_7; rw [pm_up_row _ _ (by omega)]
theorem rX12_7_lt {h n a : Nat} {mr : pm_R} (hlt : h < n) (ha : a < h) : rX12_7 mr h n a = mr a := by
  unfold rX12_7; rw [pm_up_row _ _ (by omega), pm_up_row _ _ (by omega), pm_up_row _ _ (by omega)]
theorem iX12_7_lt {h n a : Nat} {mi : pm_I} (hlt : h < n) (ha : a < h) : iX12_7 mi h n a = mi a := by
  unfold iX12_7; rw [pm_up_row _ _ (by omega)]
def RX12_7 (mr : pm_R) (h n : Nat) : pm_R := rX12_7 mr h n
def IX12_7 (mi : pm_I) (h n : Nat) : pm_I := iX12_7 mi h n
def KX12_7 : pm_K := kX12_7
theorem RX12_7_ge {h n a : Nat} {mr : pm_R} (hlt : h < n) (ha : n + 31 ≤ a) : RX12_7 mr h n a = mr a := by
  exact rX12_7_ge hlt ha
theorem RX12_7_lt {h n a : Nat} {mr : pm_R} (hlt : h < n) (ha : a < h) : RX12_7 mr h n a = mr a := by
  exact rX12_7_lt hlt ha
theorem IX12_7_ge {h n a : Nat} {mi : pm_I} (hlt : h < n) (ha : n + 31 ≤ a) : IX12_7 mi h n a = mi a := by
  exact iX12_7_ge hlt ha
theorem IX12_7_lt {h n a : Nat} {mi : pm_I} (hlt : h < n) (ha : a < h) : IX12_7 mi h n a = mi a := by
  exact iX12_7_lt hlt ha
def RX12_6 (mr : pm_R) (h n : Nat) : pm_R := RX12_7 (rX12_6 mr h n) h n
def IX12_6 (mi : pm_I) (h n : Nat) : pm_I := IX12_7 (iX12_6 mi h n) h n
def KX12_6 : pm_K := kX12_6 ++ KX12_7
theorem RX12_6_ge {h n a : Nat} {mr : pm_R} (hlt : h < n) (ha : n + 31 ≤ a) : RX12_6 mr h n a = mr a := by
  exact (RX12_7_ge hlt ha).trans (rX12_6_ge hlt (by omega))
theorem RX12_6_lt {h n a : Nat} {mr : pm_R} (hlt : h < n) (ha : a < h) : RX12_6 mr h n a = mr a := by
  exact (RX12_7_lt hlt ha).trans (rX12_6_lt hlt ha)
theorem IX12_6_ge {h n a : Nat} {mi : pm_I} (hlt : h < n) (ha : n + 31 ≤ a) : IX12_6 mi h n a = mi a := by
  exact (IX12_7_ge hlt ha).trans (iX12_6_ge hlt (by omega))
theorem IX12_6_lt {h n a : Nat} {mi : pm_I} (hlt : h < n) (ha : a < h) : IX12_6 mi h n a = mi a := by
  exact (IX12_7_lt hlt ha).trans (iX12_6_lt hlt ha)
def RX12_5 (mr : pm_R) (h n : Nat) : pm_R := RX12_6 (rX12_5 mr h n) h n
def IX12_5 (mi : pm_I) (h n : Nat) : pm_I := IX12_6 (iX12_5 mi h n) h n
def KX12_5 : pm_K := kX12_5 ++ KX12_6
theorem RX12_5_ge {h n a : Nat} {mr : pm_R} (hlt : h < n) (ha : n + 31 ≤ a) : RX12_5 mr h n a = mr a := by
  exact (RX12_6_ge hlt ha).trans (rX12_5_ge hlt (by omega))
theorem RX12_5_lt {h n a : Nat} {mr : pm_R} (hlt : h < n) (ha : a < h) : RX12_5 mr h n a = mr a := by
  exact (RX12_6_lt hlt ha).trans (rX12_5_lt hlt ha)
theorem IX12_5_ge {h n a : Nat} {mi : pm_I} (hlt : h < n) (ha : n + 31 ≤ a) : IX12_5 mi h n a = mi a := by
  exact (IX12_6_ge hlt ha).trans (iX12_5_ge hlt (by omega))
theorem IX12_5_lt {h n a : Nat} {mi : pm_I} (hlt : h < n) (ha : a < h) : IX12_5 mi h n a = mi a := by
  exact (IX12_6_lt hlt ha).trans (iX12_5_lt hlt ha)
def RX12_4 (mr : pm_R) (h n : Nat) : pm_R := RX12_5 (rX12_4 mr h n) h n
def IX12_4 (mi : pm_I) (h n : Nat) : pm_I := IX12_5 (iX12_4 mi h n) h n
def KX12_4 : pm_K := kX12_4 ++ KX12_5
theorem RX12_4_ge {h n a : Nat} {mr : pm_R} (hlt : h < n) (ha : n + 31 ≤ a) : RX12_4 mr h n a = mr a := by
  exact (RX12_5_ge hlt ha).trans (rX12_4_ge hlt (by omega))
theorem RX12_4_lt {h n a : Nat} {mr : pm_R} (hlt : h < n) (ha : a < h) : RX12_4 mr h n a = mr a := by
  exact (RX12_5_lt hlt ha).trans (rX12_4_lt hlt ha)
theorem IX12_4_ge {h n a : Nat} {mi : pm_I} (hlt : h < n) (ha : n + 31 ≤ a) : IX12_4 mi h n a = mi a := by
  exact (IX12_5_ge hlt ha).trans (iX12_4_ge hlt (by omega))
theorem IX12_4_lt {h n a : Nat} {mi : pm_I} (hlt : h < n) (ha : a < h) : IX12_4 mi h n a = mi a := by
  exact (IX12_5_lt hlt ha).trans (iX12_4_lt hlt ha)
def RX12_3 (mr : pm_R) (h n : Nat) : pm_R := RX12_4 (rX12_3 mr h n) h n
def IX12_3 (mi : pm_I) (h n : Nat) : pm_I := IX12_4 (iX12_3 mi h n) h n
def KX12_3 : pm_K := kX12_3 ++ KX12_4
theorem RX12_3_ge {h n a : Nat} {mr : pm_R} (hlt : h < n) (ha : n + 31 ≤ a) : RX12_3 mr h n a = mr a := by
  exact (RX12_4_ge hlt ha).trans (rX12_3_ge hlt (by omega))
theorem RX12_3_lt {h n a : Nat} {mr : pm_R} (hlt : h < n) (ha : a < h) : RX12_3 mr h n a = mr a := by
  exact (RX12_4_lt hlt ha).trans (rX12_3_lt hlt ha)
theorem IX12_3_ge {h n a : Nat} {mi : pm_I} (hlt : h < n) (ha : n + 31 ≤ a) : IX12_3 mi h n a = mi a := by
  exact (IX12_4_ge hlt ha).trans (iX12_3_ge hlt (by omega))
theorem IX12_3_lt {h n a : Nat} {mi : pm_I} (hlt : h < n) (ha : a < h) : IX12_3 mi h n a = mi a := by
  exact (IX12_4_lt hlt ha).trans (iX12_3_lt hlt ha)
def RX12_2 (mr : pm_R) (h n : Nat) : pm_R := RX12_3 (rX12_2 mr h n) h n
def IX12_2 (mi : pm_I) (h n : Nat) : pm_I := IX12_3 (iX12_2 mi h n) h n
def KX12_2 : pm_K := kX12_2 ++ KX12_3
theorem RX12_2_ge {h n a : Nat} {mr : pm_R} (hlt : h < n) (ha : n + 31 ≤ a) : RX12_2 mr h n a = mr a := by
  exact (RX12_3_ge hlt ha).trans (rX12_2_ge hlt (by omega))
theorem RX12_2_lt {h n a : Nat} {mr : pm_R} (hlt : h < n) (ha : a < h) : RX12_2 mr h n a = mr a := by
  exact (RX12_3_lt hlt ha).trans (rX12_2_lt hlt ha)
theorem IX12_2_ge {h n a : Nat} {mi : pm_I} (hlt : h < n) (ha : n + 31 ≤ a) : IX12_2 mi h n a = mi a := by
  exact (IX12_3_ge hlt ha).trans (iX12_2_ge hlt (by omega))
theorem IX12_2_lt {h n a : Nat} {mi : pm_I} (hlt : h < n) (ha : a < h) : IX12_2 mi h n a = mi a := by
  exact (IX12_3_lt hlt ha).trans (iX12_2_lt hlt ha)
def RX12_1 (mr : pm_R) (h n : Nat) : pm_R := RX12_2 (rX12_1 mr h n) h n
def IX12_1 (mi : pm_I) (h n : Nat) : pm_I := IX12_2 (iX12_1 mi h n) h n
def KX12_1 : pm_K := kX12_1 ++ KX12_2
theorem RX12_1_ge {h n a : Nat} {mr : pm_R} (hlt : h < n) (ha : n + 31 ≤ a) : RX12_1 mr h n a = mr a := by
  exact (RX12_2_ge hlt ha).trans (rX12_1_ge hlt (by omega))
theorem RX12_1_lt {h n a : Nat} {mr : pm_R} (hlt : h < n) (ha : a < h) : RX12_1 mr h n a = mr a := by
  exact (RX12_2_lt hlt ha).trans (rX12_1_lt hlt ha)
theorem IX12_1_ge {h n a : Nat} {mi : pm_I} (hlt : h < n) (ha : n + 31 ≤ a) : IX12_1 mi h n a = mi a := by
  exact (IX12_2_ge hlt ha).trans (iX12_1_ge hlt (by omega))
theorem IX12_1_lt {h n a : Nat} {mi : pm_I} (hlt : h < n) (ha : a < h) : IX12_1 mi h n a = mi a := by
  exact (IX12_2_lt hlt ha).trans (iX12_1_lt hlt ha)
def RX12_0 (mr : pm_R) (h n : Nat) : pm_R := RX12_1 (rX12_0 mr h n) h n
def IX12_0 (mi : pm_I) (h n : Nat) : pm_I := IX12_1 (iX12_0 mi h n) h n
def KX12_0 : pm_K := kX12_0 ++ KX12_1
theorem RX12_0_ge {h n a : Nat} {mr : pm_R} (hlt : h < n) (ha : n + 31 ≤ a) : RX12_0 mr h n a = mr a := by
  exact (RX12_1_ge hlt ha).trans (rX12_0_ge hlt (by omega))
theorem RX12_0_lt {h n a : Nat} {mr : pm_R} (hlt : h < n) (ha : a < h) : RX12_0 mr h n a = mr a := by
  exact (RX12_1_lt hlt ha).trans (rX12_0_lt hlt ha)
theorem IX12_0_ge {h n a : Nat} {mi : pm_I} (hlt : h < n) (ha : n + 31 ≤ a) : IX12_0 mi h n a = mi a := by
  exact (IX12_1_ge hlt ha).trans (iX12_0_ge hlt (by omega))
theorem IX12_0_lt {h n a : Nat} {mi : pm_I} (hlt : h < n) (ha : a < h) : IX12_0 mi h n a = mi a := by
  exact (IX12_1_lt hlt ha).trans (iX12_0_lt hlt ha)
def rX12 (mr : pm_R) (h n : Nat) : pm_R := RX12_0 mr h n
def iX12 (mi : pm_I) (h n : Nat) : pm_I := IX12_0 mi h n
def kX12 : pm_K := KX12_0
theorem rX12_ge {h n a : Nat} {mr : pm_R} (hlt : h < n) (ha : n + 31 ≤ a) : rX12 mr h n a = mr a := RX12_0_ge hlt ha
theorem rX12_lt {h n a : Nat} {mr : pm_R} (hlt : h < n) (ha : a < h) : rX12 mr h n a = mr a := RX12_0_lt hlt ha
theorem iX12_ge {h n a : Nat} {mi : pm_I} (hlt : h < n) (ha : n + 31 ≤ a) : iX12 mi h n a = mi a := IX12_0_ge hlt ha
theorem iX12_lt {h n a : Nat} {mi : pm_I} (hlt : h < n) (ha : a < h) : iX12 mi h n a = mi a := IX12_0_lt hlt ha
set_option maxHeartbeats 4000000 in
theorem n_X12_7 {l : Launch} {d h n : Nat} {kd : pm_K} {mi : pm_I} {ml : pm_L} {mr : pm_R} (hh0 : kd[h]? = some (0, 12)) (hf1 : kd[n + 3]? = some (1, 4)) (gf0_0 : mr h 4 = some (n + 3)) (hn0 : kd.length = n + 28) (hlt : h < n) (z0 : Zz (n + 28) mi ml mr) : wp l M_X12_init (d + 1) 31 58837 235 [some (.ref h)] [] 28 58337 kd mi ml mr (qN (kd ++ KX12_7) (IX12_7 mi h n) ml (RX12_7 mr h n)) := by
  refine wp_aload_n (pc := 235) dX12_init_235 rfl ?_
  refine wp_bipush (v := 49) (pc := 236) dX12_init_236 (by decide) ?_
  refine wp_newa (i := 0) (pc := 238) (t := 1) (N := 49) (mi' := mi) (ml' := ml) dX12_init_238 (by simp) (tb_1 108 rfl rfl) (by decide) rfl (by decide) (Nat.le_of_ble_eq_true rfl) (Nat.le_of_ble_eq_true rfl) (fun _ _ => rfl) (fun _ _ => rfl) (z0 _ (Nat.le_of_eq hn0.symm)).1 (z0 _ (Nat.le_of_eq hn0.symm)).2.1 ?_
  rw [hn0]
  obtain ⟨kd1, hk1⟩ : ∃ k, k = kd ++ [(1, 49)] := ⟨_, rfl⟩
  rw [← hk1]
  have hn1 : kd1.length = n + 29 := by rw [hk1, List.length_append, hn0]; rfl
  have hh0_1 := k_at hk1 hh0
  have hf1_1 := k_at hk1 hf1
  have hc28 : kd1[n + 28]? = some (1, 49) := by rw [hk1]; exact k_new hn0
  have z3 : Zz (n + 29) mi ml mr := z0.mono (by omega)
  refine wp_cs (cs' := 29) (ss' := 58386) rfl rfl ?_
  refine wp_putR (pc := 240) dX12_init_240 fl_X12_98 rfl ⟨rfl, (RX12, TX12, 61), rfl, rfl, tb_6 69 rfl rfl⟩ hh0_1 ?_
  obtain ⟨mr1, hm1⟩ : ∃ m, m = pm_up mr (h) 58 (some (n + 28)) := ⟨_, rfl⟩
  rw [← hm1]
  have gf0_1 : mr1 h 4 = some (n + 3) := by rw [hm1]; exact (pm_up_ne _ _ (by omega)).trans gf0_0
  have g58_1 : mr1 h 58 = some (n + 28) := by rw [hm1]; exact pm_up_s _ _ _ _
  have z4 : Zz (n + 29) mi ml mr1 := by rw [hm1]; exact z3.upR (by omega)
  refine wp_aload_n (pc := 243) dX12_init_243 rfl ?_
  refine wp_sipush (v := 448) (pc := 244) dX12_init_244 (by decide) ?_
  refine wp_newa (i := 0) (pc := 247) (t := 1) (N := 448) (mi' := mi) (ml' := ml) dX12_init_247 (by simp) (tb_1 108 rfl rfl) (by decide) rfl (by decide) (Nat.le_of_ble_eq_true rfl) (Nat.le_of_ble_eq_true rfl) (fun _ _ => rfl) (fun _ _ => rfl) (z4 _ (Nat.le_of_eq hn1.symm)).1 (z4 _ (Nat.le_of_eq hn1.symm)).2.1 ?_
  rw [hn1]
  obtain ⟨kd2, hk2⟩ : ∃ k, k = kd1 ++ [(1, 448)] := ⟨_, rfl⟩
  rw [← hk2]
  have hn2 : kd2.length = n + 30 := by rw [hk2, List.length_append, hn1]; rfl
  have hh0_2 := k_at hk2 hh0_1
  have hf1_2 := k_at hk2 hf1_1
  have hc29 : kd2[n + 29]? = some (1, 448) := by rw [hk2]; exact k_new hn1
  have z7 : Zz (n + 30) mi ml mr1 := z4.mono (by omega)
  refine wp_cs (cs' := 30) (ss' := 58834) rfl rfl ?_
  refine wp_putR (pc := 249) dX12_init_249 fl_X12_101 rfl ⟨rfl, (RX12, TX12, 61), rfl, rfl, tb_6 70 rfl rfl⟩ hh0_2 ?_
  obtain ⟨mr2, hm2⟩ : ∃ m, m = pm_up mr1 (h) 59 (some (n + 29)) := ⟨_, rfl⟩
  rw [← hm2]
  have gf0_2 : mr2 h 4 = some (n + 3) := by rw [hm2]; exact (pm_up_ne _ _ (by omega)).trans gf0_1
  have g58_2 : mr2 h 58 = some (n + 28) := by rw [hm2]; exact (pm_up_ne _ _ (by omega)).trans g58_1
  have g59_2 : mr2 h 59 = some (n + 29) := by rw [hm2]; exact pm_up_s _ _ _ _
  have z8 : Zz (n + 30) mi ml mr2 := by rw [hm2]; exact z7.upR (by omega)
  refine wp_aload_n (pc := 252) dX12_init_252 rfl ?_
  refine wp_iconst (v := 3) (pc := 253) dX12_init_253 (by decide) ?_
  refine wp_newa (i := 0) (pc := 254) (t := 4) (N := 3) (mi' := mi) (ml' := ml) dX12_init_254 (by simp) (tb_2 4 rfl rfl) (by decide) rfl (by decide) (Nat.le_of_ble_eq_true rfl) (Nat.le_of_ble_eq_true rfl) (fun _ _ => rfl) (fun _ _ => rfl) (z8 _ (Nat.le_of_eq hn2.symm)).1 (z8 _ (Nat.le_of_eq hn2.symm)).2.1 ?_
  rw [hn2]
  obtain ⟨kd3, hk3⟩ : ∃ k, k = kd2 ++ [(4, 3)] := ⟨_, rfl⟩
  rw [← hk3]
  have hn3 : kd3.length = n + 31 := by rw [hk3, List.length_append, hn2]; rfl
  have hh0_3 := k_at hk3 hh0_2
  have hf1_3 := k_at hk3 hf1_2
  have hc30 : kd3[n + 30]? = some (4, 3) := by rw [hk3]; exact k_new hn2
  have z11 : Zz (n + 31) mi ml mr2 := z8.mono (by omega)
  refine wp_cs (cs' := 31) (ss' := 58837) rfl rfl ?_
  refine wp_putR (pc := 256) dX12_init_256 fl_X12_104 rfl ⟨rfl, (RX12, TX12, 61), rfl, rfl, tb_6 71 rfl rfl⟩ hh0_3 ?_
  obtain ⟨mr3, hm3⟩ : ∃ m, m = pm_up mr2 (h) 60 (some (n + 30)) := ⟨_, rfl⟩
  rw [← hm3]
  have gf0_3 : mr3 h 4 = some (n + 3) := by rw [hm3]; exact (pm_up_ne _ _ (by omega)).trans gf0_2
  have g58_3 : mr3 h 58 = some (n + 28) := by rw [hm3]; exact (pm_up_ne _ _ (by omega)).trans g58_2
  have g59_3 : mr3 h 59 = some (n + 29) := by rw [hm3]; exact (pm_up_ne _ _ (by omega)).trans g59_2
  have g60_3 : mr3 h 60 = some (n + 30) := by rw [hm3]; exact pm_up_s _ _ _ _
  have z12 : Zz (n + 31) mi ml mr3 := by rw [hm3]; exact z11.upR (by omega)
  refine wp_aload_n (pc := 259) dX12_init_259 rfl ?_
  refine wp_getR (a := n + 3) (pc := 260) dX12_init_260 fl_X12_20 rfl hh0_3 (gf0_3) ?_
  refine wp_iconst (v := 0) (pc := 263) dX12_init_263 (by decide) ?_
  refine wp_iconst (v := -1) (pc := 264) dX12_init_264 (by decide) ?_
  refine wp_iast (pc := 265) dX12_init_265 hf1_3 (vp_dec (by decide)) ?_
  have z17 : Zz (n + 31) (pm_up mi (n + 3) 0 (-1)) ml mr3 := z12.upI (by omega)
  exact wp_vret (pc := 266) dX12_init_266 rfl ⟨rfl, by rw [hk3, hk2, hk1]; simp only [List.append_assoc]; rfl, rfl, rfl, by rw [hm3, hm2, hm1]; rfl⟩
set_option maxHeartbeats 4000000 in
theorem n_X12_6 {l : Launch} {d h n : Nat} {kd : pm_K} {mi : pm_I} {ml : pm_L} {mr : pm_R} (hh0 : kd[h]? = some (0, 12)) (hf1 : kd[n + 3]? = some (1, 4)) (gf0_0 : mr h 4 = some (n + 3)) (hn0 : kd.length = n + 24) (hlt : h < n) (z0 : Zz (n + 24) mi ml mr) : wp l M_X12_init (d + 1) 31 58837 200 [some (.ref h)] [] 24 53921 kd mi ml mr (qN (kd ++ KX12_6) (IX12_6 mi h n) ml (RX12_6 mr h n)) := by
  refine wp_aload_n (pc := 200) dX12_init_200 rfl ?_
  refine wp_bipush (v := 64) (pc := 201) dX12_init_201 (by decide) ?_
  refine wp_newa (i := 0) (pc := 203) (t := 1) (N := 64) (mi' := mi) (ml' := ml) dX12_init_203 (by simp) (tb_1 108 rfl rfl) (by decide) rfl (by decide) (Nat.le_of_ble_eq_true rfl) (Nat.le_of_ble_eq_true rfl) (fun _ _ => rfl) (fun _ _ => rfl) (z0 _ (Nat.le_of_eq hn0.symm)).1 (z0 _ (Nat.le_of_eq hn0.symm)).2.1 ?_
  rw [hn0]
  obtain ⟨kd1, hk1⟩ : ∃ k, k = kd ++ [(1, 64)] := ⟨_, rfl⟩
  rw [← hk1]
  have hn1 : kd1.length = n + 25 := by rw [hk1, List.length_append, hn0]; rfl
  have hh0_1 := k_at hk1 hh0
  have hf1_1 := k_at hk1 hf1
  have hc24 : kd1[n + 24]? = some (1, 64) := by rw [hk1]; exact k_new hn0
  have z3 : Zz (n + 25) mi ml mr := z0.mono (by omega)
  refine wp_cs (cs' := 25) (ss' := 53985) rfl rfl ?_
  refine wp_putR (pc := 205) dX12_init_205 fl_X12_85 rfl ⟨rfl, (RX12, TX12, 61), rfl, rfl, tb_6 64 rfl rfl⟩ hh0_1 ?_
  obtain ⟨mr1, hm1⟩ : ∃ m, m = pm_up mr (h) 53 (some (n + 24)) := ⟨_, rfl⟩
  rw [← hm1]
  have gf0_1 : mr1 h 4 = some (n + 3) := by rw [hm1]; exact (pm_up_ne _ _ (by omega)).trans gf0_0
  have g53_1 : mr1 h 53 = some (n + 24) := by rw [hm1]; exact pm_up_s _ _ _ _
  have z4 : Zz (n + 25) mi ml mr1 := by rw [hm1]; exact z3.upR (by omega)
  refine wp_aload_n (pc := 208) dX12_init_208 rfl ?_
  refine wp_sipush (v := 128) (pc := 209) dX12_init_209 (by decide) ?_
  refine wp_newa (i := 0) (pc := 212) (t := 1) (N := 128) (mi' := mi) (ml' := ml) dX12_init_212 (by simp) (tb_1 108 rfl rfl) (by decide) rfl (by decide) (Nat.le_of_ble_eq_true rfl) (Nat.le_of_ble_eq_true rfl) (fun _ _ => rfl) (fun _ _ => rfl) (z4 _ (Nat.le_of_eq hn1.symm)).1 (z4 _ (Nat.le_of_eq hn1.symm)).2.1 ?_
  rw [hn1]
  obtain ⟨kd2, hk2⟩ : ∃ k, k = kd1 ++ [(1, 128)] := ⟨_, rfl⟩
  rw [← hk2]
  have hn2 : kd2.length = n + 26 := by rw [hk2, List.length_append, hn1]; rfl
  have hh0_2 := k_at hk2 hh0_1
  have hf1_2 := k_at hk2 hf1_1
  have hc25 : kd2[n + 25]? = some (1, 128) := by rw [hk2]; exact k_new hn1
  have z7 : Zz (n + 26) mi ml mr1 := z4.mono (by omega)
  refine wp_cs (cs' := 26) (ss' := 54113) rfl rfl ?_
  refine wp_putR (pc := 214) dX12_init_214 fl_X12_88 rfl ⟨rfl, (RX12, TX12, 61), rfl, rfl, tb_6 65 rfl rfl⟩ hh0_2 ?_
  obtain ⟨mr2, hm2⟩ : ∃ m, m = pm_up mr1 (h) 54 (some (n + 25)) := ⟨_, rfl⟩
  rw [← hm2]
  have gf0_2 : mr2 h 4 = some (n + 3) := by rw [hm2]; exact (pm_up_ne _ _ (by omega)).trans gf0_1
  have g53_2 : mr2 h 53 = some (n + 24) := by rw [hm2]; exact (pm_up_ne _ _ (by omega)).trans g53_1
  have g54_2 : mr2 h 54 = some (n + 25) := by rw [hm2]; exact pm_up_s _ _ _ _
  have z8 : Zz (n + 26) mi ml mr2 := by rw [hm2]; exact z7.upR (by omega)
  refine wp_aload_n (pc := 217) dX12_init_217 rfl ?_
  refine wp_sipush (v := 128) (pc := 218) dX12_init_218 (by decide) ?_
  refine wp_newa (i := 0) (pc := 221) (t := 1) (N := 128) (mi' := mi) (ml' := ml) dX12_init_221 (by simp) (tb_1 108 rfl rfl) (by decide) rfl (by decide) (Nat.le_of_ble_eq_true rfl) (Nat.le_of_ble_eq_true rfl) (fun _ _ => rfl) (fun _ _ => rfl) (z8 _ (Nat.le_of_eq hn2.symm)).1 (z8 _ (Nat.le_of_eq hn2.symm)).2.1 ?_
  rw [hn2]
  obtain ⟨kd3, hk3⟩ : ∃ k, k = kd2 ++ [(1, 128)] := ⟨_, rfl⟩
  rw [← hk3]
  have hn3 : kd3.length = n + 27 := by rw [hk3, List.length_append, hn2]; rfl
  have hh0_3 := k_at hk3 hh0_2
  have hf1_3 := k_at hk3 hf1_2
  have hc26 : kd3[n + 26]? = some (1, 128) := by rw [hk3]; exact k_new hn2
  have z11 : Zz (n + 27) mi ml mr2 := z8.mono (by omega)
  refine wp_cs (cs' := 27) (ss' := 54241) rfl rfl ?_
  refine wp_putR (pc := 223) dX12_init_223 fl_X12_91 rfl ⟨rfl, (RX12, TX12, 61), rfl, rfl, tb_6 66 rfl rfl⟩ hh0_3 ?_
  obtain ⟨mr3, hm3⟩ : ∃ m, m = pm_up mr2 (h) 55 (some (n + 26)) := ⟨_, rfl⟩
  rw [← hm3]
  have gf0_3 : mr3 h 4 = some (n + 3) := by rw [hm3]; exact (pm_up_ne _ _ (by omega)).trans gf0_2
  have g53_3 : mr3 h 53 = some (n + 24) := by rw [hm3]; exact (pm_up_ne _ _ (by omega)).trans g53_2
  have g54_3 : mr3 h 54 = some (n + 25) := by rw [hm3]; exact (pm_up_ne _ _ (by omega)).trans g54_2
  have g55_3 : mr3 h 55 = some (n + 26) := by rw [hm3]; exact pm_up_s _ _ _ _
  have z12 : Zz (n + 27) mi ml mr3 := by rw [hm3]; exact z11.upR (by omega)
  refine wp_aload_n (pc := 226) dX12_init_226 rfl ?_
  refine wp_sipush (v := 4096) (pc := 227) dX12_init_227 (by decide) ?_
  refine wp_newa (i := 0) (pc := 230) (t := 4) (N := 4096) (mi' := mi) (ml' := ml) dX12_init_230 (by simp) (tb_2 4 rfl rfl) (by decide) rfl (by decide) (Nat.le_of_ble_eq_true rfl) (Nat.le_of_ble_eq_true rfl) (fun _ _ => rfl) (fun _ _ => rfl) (z12 _ (Nat.le_of_eq hn3.symm)).1 (z12 _ (Nat.le_of_eq hn3.symm)).2.1 ?_
  rw [hn3]
  obtain ⟨kd4, hk4⟩ : ∃ k, k = kd3 ++ [(4, 4096)] := ⟨_, rfl⟩
  rw [← hk4]
  have hn4 : kd4.length = n + 28 := by rw [hk4, List.length_append, hn3]; rfl
  have hh0_4 := k_at hk4 hh0_3
  have hf1_4 := k_at hk4 hf1_3
  have hc27 : kd4[n + 27]? = some (4, 4096) := by rw [hk4]; exact k_new hn3
  have z15 : Zz (n + 28) mi ml mr3 := z12.mono (by omega)
  refine wp_cs (cs' := 28) (ss' := 58337) rfl rfl ?_
  refine wp_putR (pc := 232) dX12_init_232 fl_X12_94 rfl ⟨rfl, (RX12, TX12, 61), rfl, rfl, tb_6 68 rfl rfl⟩ hh0_4 ?_
  obtain ⟨mr4, hm4⟩ : ∃ m, m = pm_up mr3 (h) 57 (some (n + 27)) := ⟨_, rfl⟩
  rw [← hm4]
  have gf0_4 : mr4 h 4 = some (n + 3) := by rw [hm4]; exact (pm_up_ne _ _ (by omega)).trans gf0_3
  have g53_4 : mr4 h 53 = some (n + 24) := by rw [hm4]; exact (pm_up_ne _ _ (by omega)).trans g53_3
  have g54_4 : mr4 h 54 = some (n + 25) := by rw [hm4]; exact (pm_up_ne _ _ (by omega)).trans g54_3
  have g55_4 : mr4 h 55 = some (n + 26) := by rw [hm4]; exact (pm_up_ne _ _ (by omega)).trans g55_3
  have g57_4 : mr4 h 57 = some (n + 27) := by rw [hm4]; exact pm_up_s _ _ _ _
  have z16 : Zz (n + 28) mi ml mr4 := by rw [hm4]; exact z15.upR (by omega)
  have e1 : kd ++ KX12_6 = kd4 ++ KX12_7 := by rw [hk4, hk3, hk2, hk1]; simp only [List.append_assoc]; rfl
  have e2 : rX12_6 mr h n = mr4 := by rw [hm4, hm3, hm2, hm1]; rfl
  have e3 : RX12_6 mr h n = RX12_7 mr4 h n := congrArg (fun m => RX12_7 m h n) e2
  rw [e1, e3]
  exact n_X12_7 hh0_4 hf1_4 gf0_4 hn4 hlt z16
set_option maxHeartbeats 4000000 in
theorem n_X12_5 {l : Launch} {d h n : Nat} {kd : pm_K} {mi : pm_I} {ml : pm_L} {mr : pm_R} (hh0 : kd[h]? = some (0, 12)) (hf1 : kd[n + 3]? = some (1, 4)) (gf0_0 : mr h 4 = some (n + 3)) (hn0 : kd.length = n + 20) (hlt : h < n) (z0 : Zz (n + 20) mi ml mr) : wp l M_X12_init (d + 1) 31 58837 167 [some (.ref h)] [] 20 12912 kd mi ml mr (qN (kd ++ KX12_5) (IX12_5 mi h n) ml (RX12_5 mr h n)) := by
  refine wp_aload_n (pc := 167) dX12_init_167 rfl ?_
  refine wp_ldc (v := 40625) (pc := 168) dX12_init_168 (tb_6 10 rfl rfl) ?_
  refine wp_newa (i := 0) (pc := 170) (t := 1) (N := 40625) (mi' := mi) (ml' := ml) dX12_init_170 (by simp) (tb_1 108 rfl rfl) (by decide) rfl (by decide) (Nat.le_of_ble_eq_true rfl) (Nat.le_of_ble_eq_true rfl) (fun _ _ => rfl) (fun _ _ => rfl) (z0 _ (Nat.le_of_eq hn0.symm)).1 (z0 _ (Nat.le_of_eq hn0.symm)).2.1 ?_
  rw [hn0]
  obtain ⟨kd1, hk1⟩ : ∃ k, k = kd ++ [(1, 40625)] := ⟨_, rfl⟩
  rw [← hk1]
  have hn1 : kd1.length = n + 21 := by rw [hk1, List.length_append, hn0]; rfl
  have hh0_1 := k_at hk1 hh0
  have hf1_1 := k_at hk1 hf1
  have hc20 : kd1[n + 20]? = some (1, 40625) := by rw [hk1]; exact k_new hn0
  have z3 : Zz (n + 21) mi ml mr := z0.mono (by omega)
  refine wp_cs (cs' := 21) (ss' := 53537) rfl rfl ?_
  refine wp_putR (pc := 172) dX12_init_172 fl_X12_73 rfl ⟨rfl, (RX12, TX12, 61), rfl, rfl, tb_6 56 rfl rfl⟩ hh0_1 ?_
  obtain ⟨mr1, hm1⟩ : ∃ m, m = pm_up mr (h) 45 (some (n + 20)) := ⟨_, rfl⟩
  rw [← hm1]
  have gf0_1 : mr1 h 4 = some (n + 3) := by rw [hm1]; exact (pm_up_ne _ _ (by omega)).trans gf0_0
  have g45_1 : mr1 h 45 = some (n + 20) := by rw [hm1]; exact pm_up_s _ _ _ _
  have z4 : Zz (n + 21) mi ml mr1 := by rw [hm1]; exact z3.upR (by omega)
  refine wp_aload_n (pc := 175) dX12_init_175 rfl ?_
  refine wp_sipush (v := 256) (pc := 176) dX12_init_176 (by decide) ?_
  refine wp_newa (i := 0) (pc := 179) (t := 1) (N := 256) (mi' := mi) (ml' := ml) dX12_init_179 (by simp) (tb_1 108 rfl rfl) (by decide) rfl (by decide) (Nat.le_of_ble_eq_true rfl) (Nat.le_of_ble_eq_true rfl) (fun _ _ => rfl) (fun _ _ => rfl) (z4 _ (Nat.le_of_eq hn1.symm)).1 (z4 _ (Nat.le_of_eq hn1.symm)).2.1 ?_
  rw [hn1]
  obtain ⟨kd2, hk2⟩ : ∃ k, k = kd1 ++ [(1, 256)] := ⟨_, rfl⟩
  rw [← hk2]
  have hn2 : kd2.length = n + 22 := by rw [hk2, List.length_append, hn1]; rfl
  have hh0_2 := k_at hk2 hh0_1
  have hf1_2 := k_at hk2 hf1_1
  have hc21 : kd2[n + 21]? = some (1, 256) := by rw [hk2]; exact k_new hn1
  have z7 : Zz (n + 22) mi ml mr1 := z4.mono (by omega)
  refine wp_cs (cs' := 22) (ss' := 53793) rfl rfl ?_
  refine wp_putR (pc := 181) dX12_init_181 fl_X12_76 rfl ⟨rfl, (RX12, TX12, 61), rfl, rfl, tb_6 58 rfl rfl⟩ hh0_2 ?_
  obtain ⟨mr2, hm2⟩ : ∃ m, m = pm_up mr1 (h) 47 (some (n + 21)) := ⟨_, rfl⟩
  rw [← hm2]
  have gf0_2 : mr2 h 4 = some (n + 3) := by rw [hm2]; exact (pm_up_ne _ _ (by omega)).trans gf0_1
  have g45_2 : mr2 h 45 = some (n + 20) := by rw [hm2]; exact (pm_up_ne _ _ (by omega)).trans g45_1
  have g47_2 : mr2 h 47 = some (n + 21) := by rw [hm2]; exact pm_up_s _ _ _ _
  have z8 : Zz (n + 22) mi ml mr2 := by rw [hm2]; exact z7.upR (by omega)
  refine wp_aload_n (pc := 184) dX12_init_184 rfl ?_
  refine wp_bipush (v := 64) (pc := 185) dX12_init_185 (by decide) ?_
  refine wp_newa (i := 0) (pc := 187) (t := 1) (N := 64) (mi' := mi) (ml' := ml) dX12_init_187 (by simp) (tb_1 108 rfl rfl) (by decide) rfl (by decide) (Nat.le_of_ble_eq_true rfl) (Nat.le_of_ble_eq_true rfl) (fun _ _ => rfl) (fun _ _ => rfl) (z8 _ (Nat.le_of_eq hn2.symm)).1 (z8 _ (Nat.le_of_eq hn2.symm)).2.1 ?_
  rw [hn2]
  obtain ⟨kd3, hk3⟩ : ∃ k, k = kd2 ++ [(1, 64)] := ⟨_, rfl⟩
  rw [← hk3]
  have hn3 : kd3.length = n + 23 := by rw [hk3, List.length_append, hn2]; rfl
  have hh0_3 := k_at hk3 hh0_2
  have hf1_3 := k_at hk3 hf1_2
  have hc22 : kd3[n + 22]? = some (1, 64) := by rw [hk3]; exact k_new hn2
  have z11 : Zz (n + 23) mi ml mr2 := z8.mono (by omega)
  refine wp_cs (cs' := 23) (ss' := 53857) rfl rfl ?_
  refine wp_putR (pc := 189) dX12_init_189 fl_X12_79 rfl ⟨rfl, (RX12, TX12, 61), rfl, rfl, tb_6 62 rfl rfl⟩ hh0_3 ?_
  obtain ⟨mr3, hm3⟩ : ∃ m, m = pm_up mr2 (h) 51 (some (n + 22)) := ⟨_, rfl⟩
  rw [← hm3]
  have gf0_3 : mr3 h 4 = some (n + 3) := by rw [hm3]; exact (pm_up_ne _ _ (by omega)).trans gf0_2
  have g45_3 : mr3 h 45 = some (n + 20) := by rw [hm3]; exact (pm_up_ne _ _ (by omega)).trans g45_2
  have g47_3 : mr3 h 47 = some (n + 21) := by rw [hm3]; exact (pm_up_ne _ _ (by omega)).trans g47_2
  have g51_3 : mr3 h 51 = some (n + 22) := by rw [hm3]; exact pm_up_s _ _ _ _
  have z12 : Zz (n + 23) mi ml mr3 := by rw [hm3]; exact z11.upR (by omega)
  refine wp_aload_n (pc := 192) dX12_init_192 rfl ?_
  refine wp_bipush (v := 64) (pc := 193) dX12_init_193 (by decide) ?_
  refine wp_newa (i := 0) (pc := 195) (t := 1) (N := 64) (mi' := mi) (ml' := ml) dX12_init_195 (by simp) (tb_1 108 rfl rfl) (by decide) rfl (by decide) (Nat.le_of_ble_eq_true rfl) (Nat.le_of_ble_eq_true rfl) (fun _ _ => rfl) (fun _ _ => rfl) (z12 _ (Nat.le_of_eq hn3.symm)).1 (z12 _ (Nat.le_of_eq hn3.symm)).2.1 ?_
  rw [hn3]
  obtain ⟨kd4, hk4⟩ : ∃ k, k = kd3 ++ [(1, 64)] := ⟨_, rfl⟩
  rw [← hk4]
  have hn4 : kd4.length = n + 24 := by rw [hk4, List.length_append, hn3]; rfl
  have hh0_4 := k_at hk4 hh0_3
  have hf1_4 := k_at hk4 hf1_3
  have hc23 : kd4[n + 23]? = some (1, 64) := by rw [hk4]; exact k_new hn3
  have z15 : Zz (n + 24) mi ml mr3 := z12.mono (by omega)
  refine wp_cs (cs' := 24) (ss' := 53921) rfl rfl ?_
  refine wp_putR (pc := 197) dX12_init_197 fl_X12_82 rfl ⟨rfl, (RX12, TX12, 61), rfl, rfl, tb_6 63 rfl rfl⟩ hh0_4 ?_
  obtain ⟨mr4, hm4⟩ : ∃ m, m = pm_up mr3 (h) 52 (some (n + 23)) := ⟨_, rfl⟩
  rw [← hm4]
  have gf0_4 : mr4 h 4 = some (n + 3) := by rw [hm4]; exact (pm_up_ne _ _ (by omega)).trans gf0_3
  have g45_4 : mr4 h 45 = some (n + 20) := by rw [hm4]; exact (pm_up_ne _ _ (by omega)).trans g45_3
  have g47_4 : mr4 h 47 = some (n + 21) := by rw [hm4]; exact (pm_up_ne _ _ (by omega)).trans g47_3
  have g51_4 : mr4 h 51 = some (n + 22) := by rw [hm4]; exact (pm_up_ne _ _ (by omega)).trans g51_3
  have g52_4 : mr4 h 52 = some (n + 23) := by rw [hm4]; exact pm_up_s _ _ _ _
  have z16 : Zz (n + 24) mi ml mr4 := by rw [hm4]; exact z15.upR (by omega)
  have e1 : kd ++ KX12_5 = kd4 ++ KX12_6 := by rw [hk4, hk3, hk2, hk1]; simp only [List.append_assoc]; rfl
  have e2 : rX12_5 mr h n = mr4 := by rw [hm4, hm3, hm2, hm1]; rfl
  have e3 : RX12_5 mr h n = RX12_6 mr4 h n := congrArg (fun m => RX12_6 m h n) e2
  rw [e1, e3]
  exact n_X12_6 hh0_4 hf1_4 gf0_4 hn4 hlt z16
set_option maxHeartbeats 4000000 in
theorem n_X12_4 {l : Launch} {d h n : Nat} {kd : pm_K} {mi : pm_I} {ml : pm_L} {mr : pm_R} (hh0 : kd[h]? = some (0, 12)) (hf1 : kd[n + 3]? = some (1, 4)) (gf0_0 : mr h 4 = some (n + 3)) (hn0 : kd.length = n + 16) (hlt : h < n) (z0 : Zz (n + 16) mi ml mr) : wp l M_X12_init (d + 1) 31 58837 133 [some (.ref h)] [] 16 4592 kd mi ml mr (qN (kd ++ KX12_4) (IX12_4 mi h n) ml (RX12_4 mr h n)) := by
  refine wp_aload_n (pc := 133) dX12_init_133 rfl ?_
  refine wp_bipush (v := 64) (pc := 134) dX12_init_134 (by decide) ?_
  refine wp_newa (i := 0) (pc := 136) (t := 2) (N := 64) (mi' := mi) (ml' := ml) dX12_init_136 (by simp) (tb_2 15 rfl rfl) (by decide) rfl (by decide) (Nat.le_of_ble_eq_true rfl) (Nat.le_of_ble_eq_true rfl) (fun _ _ => rfl) (fun _ _ => rfl) (z0 _ (Nat.le_of_eq hn0.symm)).1 (z0 _ (Nat.le_of_eq hn0.symm)).2.1 ?_
  rw [hn0]
  obtain ⟨kd1, hk1⟩ : ∃ k, k = kd ++ [(2, 64)] := ⟨_, rfl⟩
  rw [← hk1]
  have hn1 : kd1.length = n + 17 := by rw [hk1, List.length_append, hn0]; rfl
  have hh0_1 := k_at hk1 hh0
  have hf1_1 := k_at hk1 hf1
  have hc16 : kd1[n + 16]? = some (2, 64) := by rw [hk1]; exact k_new hn0
  have z3 : Zz (n + 17) mi ml mr := z0.mono (by omega)
  refine wp_cs (cs' := 17) (ss' := 4656) rfl rfl ?_
  refine wp_putR (pc := 138) dX12_init_138 fl_X12_59 rfl ⟨rfl, (RX12, TX12, 61), rfl, rfl, tb_6 50 rfl rfl⟩ hh0_1 ?_
  obtain ⟨mr1, hm1⟩ : ∃ m, m = pm_up mr (h) 39 (some (n + 16)) := ⟨_, rfl⟩
  rw [← hm1]
  have gf0_1 : mr1 h 4 = some (n + 3) := by rw [hm1]; exact (pm_up_ne _ _ (by omega)).trans gf0_0
  have g39_1 : mr1 h 39 = some (n + 16) := by rw [hm1]; exact pm_up_s _ _ _ _
  have z4 : Zz (n + 17) mi ml mr1 := by rw [hm1]; exact z3.upR (by omega)
  refine wp_aload_n (pc := 141) dX12_init_141 rfl ?_
  refine wp_bipush (v := 64) (pc := 142) dX12_init_142 (by decide) ?_
  refine wp_newa (i := 0) (pc := 144) (t := 2) (N := 64) (mi' := mi) (ml' := ml) dX12_init_144 (by simp) (tb_2 15 rfl rfl) (by decide) rfl (by decide) (Nat.le_of_ble_eq_true rfl) (Nat.le_of_ble_eq_true rfl) (fun _ _ => rfl) (fun _ _ => rfl) (z4 _ (Nat.le_of_eq hn1.symm)).1 (z4 _ (Nat.le_of_eq hn1.symm)).2.1 ?_
  rw [hn1]
  obtain ⟨kd2, hk2⟩ : ∃ k, k = kd1 ++ [(2, 64)] := ⟨_, rfl⟩
  rw [← hk2]
  have hn2 : kd2.length = n + 18 := by rw [hk2, List.length_append, hn1]; rfl
  have hh0_2 := k_at hk2 hh0_1
  have hf1_2 := k_at hk2 hf1_1
  have hc17 : kd2[n + 17]? = some (2, 64) := by rw [hk2]; exact k_new hn1
  have z7 : Zz (n + 18) mi ml mr1 := z4.mono (by omega)
  refine wp_cs (cs' := 18) (ss' := 4720) rfl rfl ?_
  refine wp_putR (pc := 146) dX12_init_146 fl_X12_63 rfl ⟨rfl, (RX12, TX12, 61), rfl, rfl, tb_6 51 rfl rfl⟩ hh0_2 ?_
  obtain ⟨mr2, hm2⟩ : ∃ m, m = pm_up mr1 (h) 40 (some (n + 17)) := ⟨_, rfl⟩
  rw [← hm2]
  have gf0_2 : mr2 h 4 = some (n + 3) := by rw [hm2]; exact (pm_up_ne _ _ (by omega)).trans gf0_1
  have g39_2 : mr2 h 39 = some (n + 16) := by rw [hm2]; exact (pm_up_ne _ _ (by omega)).trans g39_1
  have g40_2 : mr2 h 40 = some (n + 17) := by rw [hm2]; exact pm_up_s _ _ _ _
  have z8 : Zz (n + 18) mi ml mr2 := by rw [hm2]; exact z7.upR (by omega)
  refine wp_aload_n (pc := 149) dX12_init_149 rfl ?_
  refine wp_sipush (v := 4096) (pc := 150) dX12_init_150 (by decide) ?_
  refine wp_newa (i := 0) (pc := 153) (t := 1) (N := 4096) (mi' := mi) (ml' := ml) dX12_init_153 (by simp) (tb_1 108 rfl rfl) (by decide) rfl (by decide) (Nat.le_of_ble_eq_true rfl) (Nat.le_of_ble_eq_true rfl) (fun _ _ => rfl) (fun _ _ => rfl) (z8 _ (Nat.le_of_eq hn2.symm)).1 (z8 _ (Nat.le_of_eq hn2.symm)).2.1 ?_
  rw [hn2]
  obtain ⟨kd3, hk3⟩ : ∃ k, k = kd2 ++ [(1, 4096)] := ⟨_, rfl⟩
  rw [← hk3]
  have hn3 : kd3.length = n + 19 := by rw [hk3, List.length_append, hn2]; rfl
  have hh0_3 := k_at hk3 hh0_2
  have hf1_3 := k_at hk3 hf1_2
  have hc18 : kd3[n + 18]? = some (1, 4096) := by rw [hk3]; exact k_new hn2
  have z11 : Zz (n + 19) mi ml mr2 := z8.mono (by omega)
  refine wp_cs (cs' := 19) (ss' := 8816) rfl rfl ?_
  refine wp_putR (pc := 155) dX12_init_155 fl_X12_66 rfl ⟨rfl, (RX12, TX12, 61), rfl, rfl, tb_6 54 rfl rfl⟩ hh0_3 ?_
  obtain ⟨mr3, hm3⟩ : ∃ m, m = pm_up mr2 (h) 43 (some (n + 18)) := ⟨_, rfl⟩
  rw [← hm3]
  have gf0_3 : mr3 h 4 = some (n + 3) := by rw [hm3]; exact (pm_up_ne _ _ (by omega)).trans gf0_2
  have g39_3 : mr3 h 39 = some (n + 16) := by rw [hm3]; exact (pm_up_ne _ _ (by omega)).trans g39_2
  have g40_3 : mr3 h 40 = some (n + 17) := by rw [hm3]; exact (pm_up_ne _ _ (by omega)).trans g40_2
  have g43_3 : mr3 h 43 = some (n + 18) := by rw [hm3]; exact pm_up_s _ _ _ _
  have z12 : Zz (n + 19) mi ml mr3 := by rw [hm3]; exact z11.upR (by omega)
  refine wp_aload_n (pc := 158) dX12_init_158 rfl ?_
  refine wp_sipush (v := 4096) (pc := 159) dX12_init_159 (by decide) ?_
  refine wp_newa (i := 0) (pc := 162) (t := 1) (N := 4096) (mi' := mi) (ml' := ml) dX12_init_162 (by simp) (tb_1 108 rfl rfl) (by decide) rfl (by decide) (Nat.le_of_ble_eq_true rfl) (Nat.le_of_ble_eq_true rfl) (fun _ _ => rfl) (fun _ _ => rfl) (z12 _ (Nat.le_of_eq hn3.symm)).1 (z12 _ (Nat.le_of_eq hn3.symm)).2.1 ?_
  rw [hn3]
  obtain ⟨kd4, hk4⟩ : ∃ k, k = kd3 ++ [(1, 4096)] := ⟨_, rfl⟩
  rw [← hk4]
  have hn4 : kd4.length = n + 20 := by rw [hk4, List.length_append, hn3]; rfl
  have hh0_4 := k_at hk4 hh0_3
  have hf1_4 := k_at hk4 hf1_3
  have hc19 : kd4[n + 19]? = some (1, 4096) := by rw [hk4]; exact k_new hn3
  have z15 : Zz (n + 20) mi ml mr3 := z12.mono (by omega)
  refine wp_cs (cs' := 20) (ss' := 12912) rfl rfl ?_
  refine wp_putR (pc := 164) dX12_init_164 fl_X12_69 rfl ⟨rfl, (RX12, TX12, 61), rfl, rfl, tb_6 55 rfl rfl⟩ hh0_4 ?_
  obtain ⟨mr4, hm4⟩ : ∃ m, m = pm_up mr3 (h) 44 (some (n + 19)) := ⟨_, rfl⟩
  rw [← hm4]
  have gf0_4 : mr4 h 4 = some (n + 3) := by rw [hm4]; exact (pm_up_ne _ _ (by omega)).trans gf0_3
  have g39_4 : mr4 h 39 = some (n + 16) := by rw [hm4]; exact (pm_up_ne _ _ (by omega)).trans g39_3
  have g40_4 : mr4 h 40 = some (n + 17) := by rw [hm4]; exact (pm_up_ne _ _ (by omega)).trans g40_3
  have g43_4 : mr4 h 43 = some (n + 18) := by rw [hm4]; exact (pm_up_ne _ _ (by omega)).trans g43_3
  have g44_4 : mr4 h 44 = some (n + 19) := by rw [hm4]; exact pm_up_s _ _ _ _
  have z16 : Zz (n + 20) mi ml mr4 := by rw [hm4]; exact z15.upR (by omega)
  have e1 : kd ++ KX12_4 = kd4 ++ KX12_5 := by rw [hk4, hk3, hk2, hk1]; simp only [List.append_assoc]; rfl
  have e2 : rX12_4 mr h n = mr4 := by rw [hm4, hm3, hm2, hm1]; rfl
  have e3 : RX12_4 mr h n = RX12_5 mr4 h n := congrArg (fun m => RX12_5 m h n) e2
  rw [e1, e3]
  exact n_X12_5 hh0_4 hf1_4 gf0_4 hn4 hlt z16
set_option maxHeartbeats 4000000 in
theorem n_X12_3 {l : Launch} {d h n : Nat} {kd : pm_K} {mi : pm_I} {ml : pm_L} {mr : pm_R} (hh0 : kd[h]? = some (0, 12)) (hf1 : kd[n + 3]? = some (1, 4)) (gf0_0 : mr h 4 = some (n + 3)) (hn0 : kd.length = n + 12) (hlt : h < n) (z0 : Zz (n + 12) mi ml mr) : wp l M_X12_init (d + 1) 31 58837 101 [some (.ref h)] [] 12 4568 kd mi ml mr (qN (kd ++ KX12_3) (IX12_3 mi h n) ml (RX12_3 mr h n)) := by
  refine wp_aload_n (pc := 101) dX12_init_101 rfl ?_
  refine wp_bipush (v := 6) (pc := 102) dX12_init_102 (by decide) ?_
  refine wp_newa (i := 0) (pc := 104) (t := 1) (N := 6) (mi' := mi) (ml' := ml) dX12_init_104 (by simp) (tb_1 108 rfl rfl) (by decide) rfl (by decide) (Nat.le_of_ble_eq_true rfl) (Nat.le_of_ble_eq_true rfl) (fun _ _ => rfl) (fun _ _ => rfl) (z0 _ (Nat.le_of_eq hn0.symm)).1 (z0 _ (Nat.le_of_eq hn0.symm)).2.1 ?_
  rw [hn0]
  obtain ⟨kd1, hk1⟩ : ∃ k, k = kd ++ [(1, 6)] := ⟨_, rfl⟩
  rw [← hk1]
  have hn1 : kd1.length = n + 13 := by rw [hk1, List.length_append, hn0]; rfl
  have hh0_1 := k_at hk1 hh0
  have hf1_1 := k_at hk1 hf1
  have hc12 : kd1[n + 12]? = some (1, 6) := by rw [hk1]; exact k_new hn0
  have z3 : Zz (n + 13) mi ml mr := z0.mono (by omega)
  refine wp_cs (cs' := 13) (ss' := 4574) rfl rfl ?_
  refine wp_putR (pc := 106) dX12_init_106 fl_X12_47 rfl ⟨rfl, (RX12, TX12, 61), rfl, rfl, tb_6 43 rfl rfl⟩ hh0_1 ?_
  obtain ⟨mr1, hm1⟩ : ∃ m, m = pm_up mr (h) 32 (some (n + 12)) := ⟨_, rfl⟩
  rw [← hm1]
  have gf0_1 : mr1 h 4 = some (n + 3) := by rw [hm1]; exact (pm_up_ne _ _ (by omega)).trans gf0_0
  have g32_1 : mr1 h 32 = some (n + 12) := by rw [hm1]; exact pm_up_s _ _ _ _
  have z4 : Zz (n + 13) mi ml mr1 := by rw [hm1]; exact z3.upR (by omega)
  refine wp_aload_n (pc := 109) dX12_init_109 rfl ?_
  refine wp_bipush (v := 6) (pc := 110) dX12_init_110 (by decide) ?_
  refine wp_newa (i := 0) (pc := 112) (t := 1) (N := 6) (mi' := mi) (ml' := ml) dX12_init_112 (by simp) (tb_1 108 rfl rfl) (by decide) rfl (by decide) (Nat.le_of_ble_eq_true rfl) (Nat.le_of_ble_eq_true rfl) (fun _ _ => rfl) (fun _ _ => rfl) (z4 _ (Nat.le_of_eq hn1.symm)).1 (z4 _ (Nat.le_of_eq hn1.symm)).2.1 ?_
  rw [hn1]
  obtain ⟨kd2, hk2⟩ : ∃ k, k = kd1 ++ [(1, 6)] := ⟨_, rfl⟩
  rw [← hk2]
  have hn2 : kd2.length = n + 14 := by rw [hk2, List.length_append, hn1]; rfl
  have hh0_2 := k_at hk2 hh0_1
  have hf1_2 := k_at hk2 hf1_1
  have hc13 : kd2[n + 13]? = some (1, 6) := by rw [hk2]; exact k_new hn1
  have z7 : Zz (n + 14) mi ml mr1 := z4.mono (by omega)
  refine wp_cs (cs' := 14) (ss' := 4580) rfl rfl ?_
  refine wp_putR (pc := 114) dX12_init_114 fl_X12_50 rfl ⟨rfl, (RX12, TX12, 61), rfl, rfl, tb_6 44 rfl rfl⟩ hh0_2 ?_
  obtain ⟨mr2, hm2⟩ : ∃ m, m = pm_up mr1 (h) 33 (some (n + 13)) := ⟨_, rfl⟩
  rw [← hm2]
  have gf0_2 : mr2 h 4 = some (n + 3) := by rw [hm2]; exact (pm_up_ne _ _ (by omega)).trans gf0_1
  have g32_2 : mr2 h 32 = some (n + 12) := by rw [hm2]; exact (pm_up_ne _ _ (by omega)).trans g32_1
  have g33_2 : mr2 h 33 = some (n + 13) := by rw [hm2]; exact pm_up_s _ _ _ _
  have z8 : Zz (n + 14) mi ml mr2 := by rw [hm2]; exact z7.upR (by omega)
  refine wp_aload_n (pc := 117) dX12_init_117 rfl ?_
  refine wp_bipush (v := 6) (pc := 118) dX12_init_118 (by decide) ?_
  refine wp_newa (i := 0) (pc := 120) (t := 1) (N := 6) (mi' := mi) (ml' := ml) dX12_init_120 (by simp) (tb_1 108 rfl rfl) (by decide) rfl (by decide) (Nat.le_of_ble_eq_true rfl) (Nat.le_of_ble_eq_true rfl) (fun _ _ => rfl) (fun _ _ => rfl) (z8 _ (Nat.le_of_eq hn2.symm)).1 (z8 _ (Nat.le_of_eq hn2.symm)).2.1 ?_
  rw [hn2]
  obtain ⟨kd3, hk3⟩ : ∃ k, k = kd2 ++ [(1, 6)] := ⟨_, rfl⟩
  rw [← hk3]
  have hn3 : kd3.length = n + 15 := by rw [hk3, List.length_append, hn2]; rfl
  have hh0_3 := k_at hk3 hh0_2
  have hf1_3 := k_at hk3 hf1_2
  have hc14 : kd3[n + 14]? = some (1, 6) := by rw [hk3]; exact k_new hn2
  have z11 : Zz (n + 15) mi ml mr2 := z8.mono (by omega)
  refine wp_cs (cs' := 15) (ss' := 4586) rfl rfl ?_
  refine wp_putR (pc := 122) dX12_init_122 fl_X12_53 rfl ⟨rfl, (RX12, TX12, 61), rfl, rfl, tb_6 45 rfl rfl⟩ hh0_3 ?_
  obtain ⟨mr3, hm3⟩ : ∃ m, m = pm_up mr2 (h) 34 (some (n + 14)) := ⟨_, rfl⟩
  rw [← hm3]
  have gf0_3 : mr3 h 4 = some (n + 3) := by rw [hm3]; exact (pm_up_ne _ _ (by omega)).trans gf0_2
  have g32_3 : mr3 h 32 = some (n + 12) := by rw [hm3]; exact (pm_up_ne _ _ (by omega)).trans g32_2
  have g33_3 : mr3 h 33 = some (n + 13) := by rw [hm3]; exact (pm_up_ne _ _ (by omega)).trans g33_2
  have g34_3 : mr3 h 34 = some (n + 14) := by rw [hm3]; exact pm_up_s _ _ _ _
  have z12 : Zz (n + 15) mi ml mr3 := by rw [hm3]; exact z11.upR (by omega)
  refine wp_aload_n (pc := 125) dX12_init_125 rfl ?_
  refine wp_bipush (v := 6) (pc := 126) dX12_init_126 (by decide) ?_
  refine wp_newa (i := 0) (pc := 128) (t := 1) (N := 6) (mi' := mi) (ml' := ml) dX12_init_128 (by simp) (tb_1 108 rfl rfl) (by decide) rfl (by decide) (Nat.le_of_ble_eq_true rfl) (Nat.le_of_ble_eq_true rfl) (fun _ _ => rfl) (fun _ _ => rfl) (z12 _ (Nat.le_of_eq hn3.symm)).1 (z12 _ (Nat.le_of_eq hn3.symm)).2.1 ?_
  rw [hn3]
  obtain ⟨kd4, hk4⟩ : ∃ k, k = kd3 ++ [(1, 6)] := ⟨_, rfl⟩
  rw [← hk4]
  have hn4 : kd4.length = n + 16 := by rw [hk4, List.length_append, hn3]; rfl
  have hh0_4 := k_at hk4 hh0_3
  have hf1_4 := k_at hk4 hf1_3
  have hc15 : kd4[n + 15]? = some (1, 6) := by rw [hk4]; exact k_new hn3
  have z15 : Zz (n + 16) mi ml mr3 := z12.mono (by omega)
  refine wp_cs (cs' := 16) (ss' := 4592) rfl rfl ?_
  refine wp_putR (pc := 130) dX12_init_130 fl_X12_56 rfl ⟨rfl, (RX12, TX12, 61), rfl, rfl, tb_6 46 rfl rfl⟩ hh0_4 ?_
  obtain ⟨mr4, hm4⟩ : ∃ m, m = pm_up mr3 (h) 35 (some (n + 15)) := ⟨_, rfl⟩
  rw [← hm4]
  have gf0_4 : mr4 h 4 = some (n + 3) := by rw [hm4]; exact (pm_up_ne _ _ (by omega)).trans gf0_3
  have g32_4 : mr4 h 32 = some (n + 12) := by rw [hm4]; exact (pm_up_ne _ _ (by omega)).trans g32_3
  have g33_4 : mr4 h 33 = some (n + 13) := by rw [hm4]; exact (pm_up_ne _ _ (by omega)).trans g33_3
  have g34_4 : mr4 h 34 = some (n + 14) := by rw [hm4]; exact (pm_up_ne _ _ (by omega)).trans g34_3
  have g35_4 : mr4 h 35 = some (n + 15) := by rw [hm4]; exact pm_up_s _ _ _ _
  have z16 : Zz (n + 16) mi ml mr4 := by rw [hm4]; exact z15.upR (by omega)
  have e1 : kd ++ KX12_3 = kd4 ++ KX12_4 := by rw [hk4, hk3, hk2, hk1]; simp only [List.append_assoc]; rfl
  have e2 : rX12_3 mr h n = mr4 := by rw [hm4, hm3, hm2, hm1]; rfl
  have e3 : RX12_3 mr h n = RX12_4 mr4 h n := congrArg (fun m => RX12_4 m h n) e2
  rw [e1, e3]
  exact n_X12_4 hh0_4 hf1_4 gf0_4 hn4 hlt z16
set_option maxHeartbeats 4000000 in
theorem n_X12_2 {l : Launch} {d h n : Nat} {kd : pm_K} {mi : pm_I} {ml : pm_L} {mr : pm_R} (hh0 : kd[h]? = some (0, 12)) (hf1 : kd[n + 3]? = some (1, 4)) (gf0_0 : mr h 4 = some (n + 3)) (hn0 : kd.length = n + 8) (hlt : h < n) (z0 : Zz (n + 8) mi ml mr) : wp l M_X12_init (d + 1) 31 58837 69 [some (.ref h)] [] 8 4132 kd mi ml mr (qN (kd ++ KX12_2) (IX12_2 mi h n) ml (RX12_2 mr h n)) := by
  refine wp_aload_n (pc := 69) dX12_init_69 rfl ?_
  refine wp_sipush (v := 248) (pc := 70) dX12_init_70 (by decide) ?_
  refine wp_newa (i := 0) (pc := 73) (t := 1) (N := 248) (mi' := mi) (ml' := ml) dX12_init_73 (by simp) (tb_1 108 rfl rfl) (by decide) rfl (by decide) (Nat.le_of_ble_eq_true rfl) (Nat.le_of_ble_eq_true rfl) (fun _ _ => rfl) (fun _ _ => rfl) (z0 _ (Nat.le_of_eq hn0.symm)).1 (z0 _ (Nat.le_of_eq hn0.symm)).2.1 ?_
  rw [hn0]
  obtain ⟨kd1, hk1⟩ : ∃ k, k = kd ++ [(1, 248)] := ⟨_, rfl⟩
  rw [← hk1]
  have hn1 : kd1.length = n + 9 := by rw [hk1, List.length_append, hn0]; rfl
  have hh0_1 := k_at hk1 hh0
  have hf1_1 := k_at hk1 hf1
  have hc8 : kd1[n + 8]? = some (1, 248) := by rw [hk1]; exact k_new hn0
  have z3 : Zz (n + 9) mi ml mr := z0.mono (by omega)
  refine wp_cs (cs' := 9) (ss' := 4380) rfl rfl ?_
  refine wp_putR (pc := 75) dX12_init_75 fl_X12_35 rfl ⟨rfl, (RX12, TX12, 61), rfl, rfl, tb_6 20 rfl rfl⟩ hh0_1 ?_
  obtain ⟨mr1, hm1⟩ : ∃ m, m = pm_up mr (h) 9 (some (n + 8)) := ⟨_, rfl⟩
  rw [← hm1]
  have gf0_1 : mr1 h 4 = some (n + 3) := by rw [hm1]; exact (pm_up_ne _ _ (by omega)).trans gf0_0
  have g9_1 : mr1 h 9 = some (n + 8) := by rw [hm1]; exact pm_up_s _ _ _ _
  have z4 : Zz (n + 9) mi ml mr1 := by rw [hm1]; exact z3.upR (by omega)
  refine wp_aload_n (pc := 78) dX12_init_78 rfl ?_
  refine wp_bipush (v := 121) (pc := 79) dX12_init_79 (by decide) ?_
  refine wp_newa (i := 0) (pc := 81) (t := 1) (N := 121) (mi' := mi) (ml' := ml) dX12_init_81 (by simp) (tb_1 108 rfl rfl) (by decide) rfl (by decide) (Nat.le_of_ble_eq_true rfl) (Nat.le_of_ble_eq_true rfl) (fun _ _ => rfl) (fun _ _ => rfl) (z4 _ (Nat.le_of_eq hn1.symm)).1 (z4 _ (Nat.le_of_eq hn1.symm)).2.1 ?_
  rw [hn1]
  obtain ⟨kd2, hk2⟩ : ∃ k, k = kd1 ++ [(1, 121)] := ⟨_, rfl⟩
  rw [← hk2]
  have hn2 : kd2.length = n + 10 := by rw [hk2, List.length_append, hn1]; rfl
  have hh0_2 := k_at hk2 hh0_1
  have hf1_2 := k_at hk2 hf1_1
  have hc9 : kd2[n + 9]? = some (1, 121) := by rw [hk2]; exact k_new hn1
  have z7 : Zz (n + 10) mi ml mr1 := z4.mono (by omega)
  refine wp_cs (cs' := 10) (ss' := 4501) rfl rfl ?_
  refine wp_putR (pc := 83) dX12_init_83 fl_X12_38 rfl ⟨rfl, (RX12, TX12, 61), rfl, rfl, tb_6 30 rfl rfl⟩ hh0_2 ?_
  obtain ⟨mr2, hm2⟩ : ∃ m, m = pm_up mr1 (h) 19 (some (n + 9)) := ⟨_, rfl⟩
  rw [← hm2]
  have gf0_2 : mr2 h 4 = some (n + 3) := by rw [hm2]; exact (pm_up_ne _ _ (by omega)).trans gf0_1
  have g9_2 : mr2 h 9 = some (n + 8) := by rw [hm2]; exact (pm_up_ne _ _ (by omega)).trans g9_1
  have g19_2 : mr2 h 19 = some (n + 9) := by rw [hm2]; exact pm_up_s _ _ _ _
  have z8 : Zz (n + 10) mi ml mr2 := by rw [hm2]; exact z7.upR (by omega)
  refine wp_aload_n (pc := 86) dX12_init_86 rfl ?_
  refine wp_iconst (v := 3) (pc := 87) dX12_init_87 (by decide) ?_
  refine wp_newa (i := 0) (pc := 88) (t := 1) (N := 3) (mi' := mi) (ml' := ml) dX12_init_88 (by simp) (tb_1 108 rfl rfl) (by decide) rfl (by decide) (Nat.le_of_ble_eq_true rfl) (Nat.le_of_ble_eq_true rfl) (fun _ _ => rfl) (fun _ _ => rfl) (z8 _ (Nat.le_of_eq hn2.symm)).1 (z8 _ (Nat.le_of_eq hn2.symm)).2.1 ?_
  rw [hn2]
  obtain ⟨kd3, hk3⟩ : ∃ k, k = kd2 ++ [(1, 3)] := ⟨_, rfl⟩
  rw [← hk3]
  have hn3 : kd3.length = n + 11 := by rw [hk3, List.length_append, hn2]; rfl
  have hh0_3 := k_at hk3 hh0_2
  have hf1_3 := k_at hk3 hf1_2
  have hc10 : kd3[n + 10]? = some (1, 3) := by rw [hk3]; exact k_new hn2
  have z11 : Zz (n + 11) mi ml mr2 := z8.mono (by omega)
  refine wp_cs (cs' := 11) (ss' := 4504) rfl rfl ?_
  refine wp_putR (pc := 90) dX12_init_90 fl_X12_41 rfl ⟨rfl, (RX12, TX12, 61), rfl, rfl, tb_6 31 rfl rfl⟩ hh0_3 ?_
  obtain ⟨mr3, hm3⟩ : ∃ m, m = pm_up mr2 (h) 20 (some (n + 10)) := ⟨_, rfl⟩
  rw [← hm3]
  have gf0_3 : mr3 h 4 = some (n + 3) := by rw [hm3]; exact (pm_up_ne _ _ (by omega)).trans gf0_2
  have g9_3 : mr3 h 9 = some (n + 8) := by rw [hm3]; exact (pm_up_ne _ _ (by omega)).trans g9_2
  have g19_3 : mr3 h 19 = some (n + 9) := by rw [hm3]; exact (pm_up_ne _ _ (by omega)).trans g19_2
  have g20_3 : mr3 h 20 = some (n + 10) := by rw [hm3]; exact pm_up_s _ _ _ _
  have z12 : Zz (n + 11) mi ml mr3 := by rw [hm3]; exact z11.upR (by omega)
  refine wp_aload_n (pc := 93) dX12_init_93 rfl ?_
  refine wp_bipush (v := 64) (pc := 94) dX12_init_94 (by decide) ?_
  refine wp_newa (i := 0) (pc := 96) (t := 1) (N := 64) (mi' := mi) (ml' := ml) dX12_init_96 (by simp) (tb_1 108 rfl rfl) (by decide) rfl (by decide) (Nat.le_of_ble_eq_true rfl) (Nat.le_of_ble_eq_true rfl) (fun _ _ => rfl) (fun _ _ => rfl) (z12 _ (Nat.le_of_eq hn3.symm)).1 (z12 _ (Nat.le_of_eq hn3.symm)).2.1 ?_
  rw [hn3]
  obtain ⟨kd4, hk4⟩ : ∃ k, k = kd3 ++ [(1, 64)] := ⟨_, rfl⟩
  rw [← hk4]
  have hn4 : kd4.length = n + 12 := by rw [hk4, List.length_append, hn3]; rfl
  have hh0_4 := k_at hk4 hh0_3
  have hf1_4 := k_at hk4 hf1_3
  have hc11 : kd4[n + 11]? = some (1, 64) := by rw [hk4]; exact k_new hn3
  have z15 : Zz (n + 12) mi ml mr3 := z12.mono (by omega)
  refine wp_cs (cs' := 12) (ss' := 4568) rfl rfl ?_
  refine wp_putR (pc := 98) dX12_init_98 fl_X12_44 rfl ⟨rfl, (RX12, TX12, 61), rfl, rfl, tb_6 42 rfl rfl⟩ hh0_4 ?_
  obtain ⟨mr4, hm4⟩ : ∃ m, m = pm_up mr3 (h) 31 (some (n + 11)) := ⟨_, rfl⟩
  rw [← hm4]
  have gf0_4 : mr4 h 4 = some (n + 3) := by rw [hm4]; exact (pm_up_ne _ _ (by omega)).trans gf0_3
  have g9_4 : mr4 h 9 = some (n + 8) := by rw [hm4]; exact (pm_up_ne _ _ (by omega)).trans g9_3
  have g19_4 : mr4 h 19 = some (n + 9) := by rw [hm4]; exact (pm_up_ne _ _ (by omega)).trans g19_3
  have g20_4 : mr4 h 20 = some (n + 10) := by rw [hm4]; exact (pm_up_ne _ _ (by omega)).trans g20_3
  have g31_4 : mr4 h 31 = some (n + 11) := by rw [hm4]; exact pm_up_s _ _ _ _
  have z16 : Zz (n + 12) mi ml mr4 := by rw [hm4]; exact z15.upR (by omega)
  have e1 : kd ++ KX12_2 = kd4 ++ KX12_3 := by rw [hk4, hk3, hk2, hk1]; simp only [List.append_assoc]; rfl
  have e2 : rX12_2 mr h n = mr4 := by rw [hm4, hm3, hm2, hm1]; rfl
  have e3 : RX12_2 mr h n = RX12_3 mr4 h n := congrArg (fun m => RX12_3 m h n) e2
  rw [e1, e3]
  exact n_X12_3 hh0_4 hf1_4 gf0_4 hn4 hlt z16
set_option maxHeartbeats 4000000 in
theorem n_X12_1 {l : Launch} {d h n : Nat} {kd : pm_K} {mi : pm_I} {ml : pm_L} {mr : pm_R} (hh0 : kd[h]? = some (0, 12)) (hf1 : kd[n + 3]? = some (1, 4)) (gf0_0 : mr h 4 = some (n + 3)) (hn0 : kd.length = n + 4) (hlt : h < n) (z0 : Zz (n + 4) mi ml mr) : wp l M_X12_init (d + 1) 31 58837 34 [some (.ref h)] [] 4 2412 kd mi ml mr (qN (kd ++ KX12_1) (IX12_1 mi h n) ml (RX12_1 mr h n)) := by
  refine wp_aload_n (pc := 34) dX12_init_34 rfl ?_
  refine wp_bipush (v := 16) (pc := 35) dX12_init_35 (by decide) ?_
  refine wp_newa (i := 0) (pc := 37) (t := 1) (N := 16) (mi' := mi) (ml' := ml) dX12_init_37 (by simp) (tb_1 108 rfl rfl) (by decide) rfl (by decide) (Nat.le_of_ble_eq_true rfl) (Nat.le_of_ble_eq_true rfl) (fun _ _ => rfl) (fun _ _ => rfl) (z0 _ (Nat.le_of_eq hn0.symm)).1 (z0 _ (Nat.le_of_eq hn0.symm)).2.1 ?_
  rw [hn0]
  obtain ⟨kd1, hk1⟩ : ∃ k, k = kd ++ [(1, 16)] := ⟨_, rfl⟩
  rw [← hk1]
  have hn1 : kd1.length = n + 5 := by rw [hk1, List.length_append, hn0]; rfl
  have hh0_1 := k_at hk1 hh0
  have hf1_1 := k_at hk1 hf1
  have hc4 : kd1[n + 4]? = some (1, 16) := by rw [hk1]; exact k_new hn0
  have z3 : Zz (n + 5) mi ml mr := z0.mono (by omega)
  refine wp_cs (cs' := 5) (ss' := 2428) rfl rfl ?_
  refine wp_putR (pc := 39) dX12_init_39 fl_X12_23 rfl ⟨rfl, (RX12, TX12, 61), rfl, rfl, tb_6 16 rfl rfl⟩ hh0_1 ?_
  obtain ⟨mr1, hm1⟩ : ∃ m, m = pm_up mr (h) 5 (some (n + 4)) := ⟨_, rfl⟩
  rw [← hm1]
  have gf0_1 : mr1 h 4 = some (n + 3) := by rw [hm1]; exact (pm_up_ne _ _ (by omega)).trans gf0_0
  have g5_1 : mr1 h 5 = some (n + 4) := by rw [hm1]; exact pm_up_s _ _ _ _
  have z4 : Zz (n + 5) mi ml mr1 := by rw [hm1]; exact z3.upR (by omega)
  refine wp_aload_n (pc := 42) dX12_init_42 rfl ?_
  refine wp_sipush (v := 424) (pc := 43) dX12_init_43 (by decide) ?_
  refine wp_newa (i := 0) (pc := 46) (t := 1) (N := 424) (mi' := mi) (ml' := ml) dX12_init_46 (by simp) (tb_1 108 rfl rfl) (by decide) rfl (by decide) (Nat.le_of_ble_eq_true rfl) (Nat.le_of_ble_eq_true rfl) (fun _ _ => rfl) (fun _ _ => rfl) (z4 _ (Nat.le_of_eq hn1.symm)).1 (z4 _ (Nat.le_of_eq hn1.symm)).2.1 ?_
  rw [hn1]
  obtain ⟨kd2, hk2⟩ : ∃ k, k = kd1 ++ [(1, 424)] := ⟨_, rfl⟩
  rw [← hk2]
  have hn2 : kd2.length = n + 6 := by rw [hk2, List.length_append, hn1]; rfl
  have hh0_2 := k_at hk2 hh0_1
  have hf1_2 := k_at hk2 hf1_1
  have hc5 : kd2[n + 5]? = some (1, 424) := by rw [hk2]; exact k_new hn1
  have z7 : Zz (n + 6) mi ml mr1 := z4.mono (by omega)
  refine wp_cs (cs' := 6) (ss' := 2852) rfl rfl ?_
  refine wp_putR (pc := 48) dX12_init_48 fl_X12_26 rfl ⟨rfl, (RX12, TX12, 61), rfl, rfl, tb_6 17 rfl rfl⟩ hh0_2 ?_
  obtain ⟨mr2, hm2⟩ : ∃ m, m = pm_up mr1 (h) 6 (some (n + 5)) := ⟨_, rfl⟩
  rw [← hm2]
  have gf0_2 : mr2 h 4 = some (n + 3) := by rw [hm2]; exact (pm_up_ne _ _ (by omega)).trans gf0_1
  have g5_2 : mr2 h 5 = some (n + 4) := by rw [hm2]; exact (pm_up_ne _ _ (by omega)).trans g5_1
  have g6_2 : mr2 h 6 = some (n + 5) := by rw [hm2]; exact pm_up_s _ _ _ _
  have z8 : Zz (n + 6) mi ml mr2 := by rw [hm2]; exact z7.upR (by omega)
  refine wp_aload_n (pc := 51) dX12_init_51 rfl ?_
  refine wp_sipush (v := 968) (pc := 52) dX12_init_52 (by decide) ?_
  refine wp_newa (i := 0) (pc := 55) (t := 1) (N := 968) (mi' := mi) (ml' := ml) dX12_init_55 (by simp) (tb_1 108 rfl rfl) (by decide) rfl (by decide) (Nat.le_of_ble_eq_true rfl) (Nat.le_of_ble_eq_true rfl) (fun _ _ => rfl) (fun _ _ => rfl) (z8 _ (Nat.le_of_eq hn2.symm)).1 (z8 _ (Nat.le_of_eq hn2.symm)).2.1 ?_
  rw [hn2]
  obtain ⟨kd3, hk3⟩ : ∃ k, k = kd2 ++ [(1, 968)] := ⟨_, rfl⟩
  rw [← hk3]
  have hn3 : kd3.length = n + 7 := by rw [hk3, List.length_append, hn2]; rfl
  have hh0_3 := k_at hk3 hh0_2
  have hf1_3 := k_at hk3 hf1_2
  have hc6 : kd3[n + 6]? = some (1, 968) := by rw [hk3]; exact k_new hn2
  have z11 : Zz (n + 7) mi ml mr2 := z8.mono (by omega)
  refine wp_cs (cs' := 7) (ss' := 3820) rfl rfl ?_
  refine wp_putR (pc := 57) dX12_init_57 fl_X12_29 rfl ⟨rfl, (RX12, TX12, 61), rfl, rfl, tb_6 18 rfl rfl⟩ hh0_3 ?_
  obtain ⟨mr3, hm3⟩ : ∃ m, m = pm_up mr2 (h) 7 (some (n + 6)) := ⟨_, rfl⟩
  rw [← hm3]
  have gf0_3 : mr3 h 4 = some (n + 3) := by rw [hm3]; exact (pm_up_ne _ _ (by omega)).trans gf0_2
  have g5_3 : mr3 h 5 = some (n + 4) := by rw [hm3]; exact (pm_up_ne _ _ (by omega)).trans g5_2
  have g6_3 : mr3 h 6 = some (n + 5) := by rw [hm3]; exact (pm_up_ne _ _ (by omega)).trans g6_2
  have g7_3 : mr3 h 7 = some (n + 6) := by rw [hm3]; exact pm_up_s _ _ _ _
  have z12 : Zz (n + 7) mi ml mr3 := by rw [hm3]; exact z11.upR (by omega)
  refine wp_aload_n (pc := 60) dX12_init_60 rfl ?_
  refine wp_sipush (v := 312) (pc := 61) dX12_init_61 (by decide) ?_
  refine wp_newa (i := 0) (pc := 64) (t := 1) (N := 312) (mi' := mi) (ml' := ml) dX12_init_64 (by simp) (tb_1 108 rfl rfl) (by decide) rfl (by decide) (Nat.le_of_ble_eq_true rfl) (Nat.le_of_ble_eq_true rfl) (fun _ _ => rfl) (fun _ _ => rfl) (z12 _ (Nat.le_of_eq hn3.symm)).1 (z12 _ (Nat.le_of_eq hn3.symm)).2.1 ?_
  rw [hn3]
  obtain ⟨kd4, hk4⟩ : ∃ k, k = kd3 ++ [(1, 312)] := ⟨_, rfl⟩
  rw [← hk4]
  have hn4 : kd4.length = n + 8 := by rw [hk4, List.length_append, hn3]; rfl
  have hh0_4 := k_at hk4 hh0_3
  have hf1_4 := k_at hk4 hf1_3
  have hc7 : kd4[n + 7]? = some (1, 312) := by rw [hk4]; exact k_new hn3
  have z15 : Zz (n + 8) mi ml mr3 := z12.mono (by omega)
  refine wp_cs (cs' := 8) (ss' := 4132) rfl rfl ?_
  refine wp_putR (pc := 66) dX12_init_66 fl_X12_32 rfl ⟨rfl, (RX12, TX12, 61), rfl, rfl, tb_6 19 rfl rfl⟩ hh0_4 ?_
  obtain ⟨mr4, hm4⟩ : ∃ m, m = pm_up mr3 (h) 8 (some (n + 7)) := ⟨_, rfl⟩
  rw [← hm4]
  have gf0_4 : mr4 h 4 = some (n + 3) := by rw [hm4]; exact (pm_up_ne _ _ (by omega)).trans gf0_3
  have g5_4 : mr4 h 5 = some (n + 4) := by rw [hm4]; exact (pm_up_ne _ _ (by omega)).trans g5_3
  have g6_4 : mr4 h 6 = some (n + 5) := by rw [hm4]; exact (pm_up_ne _ _ (by omega)).trans g6_3
  have g7_4 : mr4 h 7 = some (n + 6) := by rw [hm4]; exact (pm_up_ne _ _ (by omega)).trans g7_3
  have g8_4 : mr4 h 8 = some (n + 7) := by rw [hm4]; exact pm_up_s _ _ _ _
  have z16 : Zz (n + 8) mi ml mr4 := by rw [hm4]; exact z15.upR (by omega)
  have e1 : kd ++ KX12_1 = kd4 ++ KX12_2 := by rw [hk4, hk3, hk2, hk1]; simp only [List.append_assoc]; rfl
  have e2 : rX12_1 mr h n = mr4 := by rw [hm4, hm3, hm2, hm1]; rfl
  have e3 : RX12_1 mr h n = RX12_2 mr4 h n := congrArg (fun m => RX12_2 m h n) e2
  rw [e1, e3]
  exact n_X12_2 hh0_4 hf1_4 gf0_4 hn4 hlt z16
set_option maxHeartbeats 4000000 in
theorem n_X12_0 {l : Launch} {d h n : Nat} {kd : pm_K} {mi : pm_I} {ml : pm_L} {mr : pm_R} (hh0 : kd[h]? = some (0, 12))  (hn0 : kd.length = n) (hlt : h < n) (z0 : Zz (n) mi ml mr) : wp l M_X12_init (d + 1) 31 58837 0 [some (.ref h)] [] 0 0 kd mi ml mr (qN (kd ++ KX12_0) (IX12_0 mi h n) ml (RX12_0 mr h n)) := by
  refine wp_aload_n (pc := 0) dX12_init_0 rfl ?_
  refine wp_objInit (pc := 1) dX12_init_1 ⟨tb_6 9 rfl rfl, tb_1 29 rfl rfl, tb_1 30 rfl rfl⟩ (Nat.succ_pos _) (Nat.le_of_ble_eq_true rfl) ?_
  refine wp_aload_n (pc := 4) dX12_init_4 rfl ?_
  refine wp_sipush (v := 2400) (pc := 5) dX12_init_5 (by decide) ?_
  refine wp_newa (i := 0) (pc := 8) (t := 3) (N := 2400) (mi' := mi) (ml' := ml) dX12_init_8 (by simp) (tb_1 107 rfl rfl) (by decide) rfl (by decide) (Nat.le_of_ble_eq_true rfl) (Nat.le_of_ble_eq_true rfl) (fun _ _ => rfl) (fun _ _ => rfl) (z0 _ (Nat.le_of_eq hn0.symm)).1 (z0 _ (Nat.le_of_eq hn0.symm)).2.1 ?_
  rw [hn0]
  obtain ⟨kd1, hk1⟩ : ∃ k, k = kd ++ [(3, 2400)] := ⟨_, rfl⟩
  rw [← hk1]
  have hn1 : kd1.length = n + 1 := by rw [hk1, List.length_append, hn0]; rfl
  have hh0_1 := k_at hk1 hh0
  have hc0 : kd1[n]? = some (3, 2400) := by rw [hk1]; exact k_new hn0
  have z5 : Zz (n + 1) mi ml mr := z0.mono (by omega)
  refine wp_cs (cs' := 1) (ss' := 2400) rfl rfl ?_
  refine wp_putR (pc := 10) dX12_init_10 fl_X12_7 rfl ⟨rfl, (RX12, TX12, 61), rfl, rfl, tb_6 12 rfl rfl⟩ hh0_1 ?_
  obtain ⟨mr1, hm1⟩ : ∃ m, m = pm_up mr (h) 1 (some (n)) := ⟨_, rfl⟩
  rw [← hm1]
  have g1_1 : mr1 h 1 = some (n) := by rw [hm1]; exact pm_up_s _ _ _ _
  have z6 : Zz (n + 1) mi ml mr1 := by rw [hm1]; exact z5.upR (by omega)
  refine wp_aload_n (pc := 13) dX12_init_13 rfl ?_
  refine wp_iconst (v := 4) (pc := 14) dX12_init_14 (by decide) ?_
  refine wp_newa (i := 0) (pc := 15) (t := 1) (N := 4) (mi' := mi) (ml' := ml) dX12_init_15 (by simp) (tb_1 108 rfl rfl) (by decide) rfl (by decide) (Nat.le_of_ble_eq_true rfl) (Nat.le_of_ble_eq_true rfl) (fun _ _ => rfl) (fun _ _ => rfl) (z6 _ (Nat.le_of_eq hn1.symm)).1 (z6 _ (Nat.le_of_eq hn1.symm)).2.1 ?_
  rw [hn1]
  obtain ⟨kd2, hk2⟩ : ∃ k, k = kd1 ++ [(1, 4)] := ⟨_, rfl⟩
  rw [← hk2]
  have hn2 : kd2.length = n + 2 := by rw [hk2, List.length_append, hn1]; rfl
  have hh0_2 := k_at hk2 hh0_1
  have hc1 : kd2[n + 1]? = some (1, 4) := by rw [hk2]; exact k_new hn1
  have z9 : Zz (n + 2) mi ml mr1 := z6.mono (by omega)
  refine wp_cs (cs' := 2) (ss' := 2404) rfl rfl ?_
  refine wp_putR (pc := 17) dX12_init_17 fl_X12_13 rfl ⟨rfl, (RX12, TX12, 61), rfl, rfl, tb_6 13 rfl rfl⟩ hh0_2 ?_
  obtain ⟨mr2, hm2⟩ : ∃ m, m = pm_up mr1 (h) 2 (some (n + 1)) := ⟨_, rfl⟩
  rw [← hm2]
  have g1_2 : mr2 h 1 = some (n) := by rw [hm2]; exact (pm_up_ne _ _ (by omega)).trans g1_1
  have g2_2 : mr2 h 2 = some (n + 1) := by rw [hm2]; exact pm_up_s _ _ _ _
  have z10 : Zz (n + 2) mi ml mr2 := by rw [hm2]; exact z9.upR (by omega)
  refine wp_aload_n (pc := 20) dX12_init_20 rfl ?_
  refine wp_iconst (v := 4) (pc := 21) dX12_init_21 (by decide) ?_
  refine wp_newa (i := 0) (pc := 22) (t := 1) (N := 4) (mi' := mi) (ml' := ml) dX12_init_22 (by simp) (tb_1 108 rfl rfl) (by decide) rfl (by decide) (Nat.le_of_ble_eq_true rfl) (Nat.le_of_ble_eq_true rfl) (fun _ _ => rfl) (fun _ _ => rfl) (z10 _ (Nat.le_of_eq hn2.symm)).1 (z10 _ (Nat.le_of_eq hn2.symm)).2.1 ?_
  rw [hn2]
  obtain ⟨kd3, hk3⟩ : ∃ k, k = kd2 ++ [(1, 4)] := ⟨_, rfl⟩
  rw [← hk3]
  have hn3 : kd3.length = n + 3 := by rw [hk3, List.length_append, hn2]; rfl
  have hh0_3 := k_at hk3 hh0_2
  have hc2 : kd3[n + 2]? = some (1, 4) := by rw [hk3]; exact k_new hn2
  have z13 : Zz (n + 3) mi ml mr2 := z10.mono (by omega)
  refine wp_cs (cs' := 3) (ss' := 2408) rfl rfl ?_
  refine wp_putR (pc := 24) dX12_init_24 fl_X12_17 rfl ⟨rfl, (RX12, TX12, 61), rfl, rfl, tb_6 14 rfl rfl⟩ hh0_3 ?_
  obtain ⟨mr3, hm3⟩ : ∃ m, m = pm_up mr2 (h) 3 (some (n + 2)) := ⟨_, rfl⟩
  rw [← hm3]
  have g1_3 : mr3 h 1 = some (n) := by rw [hm3]; exact (pm_up_ne _ _ (by omega)).trans g1_2
  have g2_3 : mr3 h 2 = some (n + 1) := by rw [hm3]; exact (pm_up_ne _ _ (by omega)).trans g2_2
  have g3_3 : mr3 h 3 = some (n + 2) := by rw [hm3]; exact pm_up_s _ _ _ _
  have z14 : Zz (n + 3) mi ml mr3 := by rw [hm3]; exact z13.upR (by omega)
  refine wp_aload_n (pc := 27) dX12_init_27 rfl ?_
  refine wp_iconst (v := 4) (pc := 28) dX12_init_28 (by decide) ?_
  refine wp_newa (i := 0) (pc := 29) (t := 1) (N := 4) (mi' := mi) (ml' := ml) dX12_init_29 (by simp) (tb_1 108 rfl rfl) (by decide) rfl (by decide) (Nat.le_of_ble_eq_true rfl) (Nat.le_of_ble_eq_true rfl) (fun _ _ => rfl) (fun _ _ => rfl) (z14 _ (Nat.le_of_eq hn3.symm)).1 (z14 _ (Nat.le_of_eq hn3.symm)).2.1 ?_
  rw [hn3]
  obtain ⟨kd4, hk4⟩ : ∃ k, k = kd3 ++ [(1, 4)] := ⟨_, rfl⟩
  rw [← hk4]
  have hn4 : kd4.length = n + 4 := by rw [hk4, List.length_append, hn3]; rfl
  have hh0_4 := k_at hk4 hh0_3
  have hc3 : kd4[n + 3]? = some (1, 4) := by rw [hk4]; exact k_new hn3
  have z17 : Zz (n + 4) mi ml mr3 := z14.mono (by omega)
  refine wp_cs (cs' := 4) (ss' := 2412) rfl rfl ?_
  refine wp_putR (pc := 31) dX12_init_31 fl_X12_20 rfl ⟨rfl, (RX12, TX12, 61), rfl, rfl, tb_6 15 rfl rfl⟩ hh0_4 ?_
  obtain ⟨mr4, hm4⟩ : ∃ m, m = pm_up mr3 (h) 4 (some (n + 3)) := ⟨_, rfl⟩
  rw [← hm4]
  have g1_4 : mr4 h 1 = some (n) := by rw [hm4]; exact (pm_up_ne _ _ (by omega)).trans g1_3
  have g2_4 : mr4 h 2 = some (n + 1) := by rw [hm4]; exact (pm_up_ne _ _ (by omega)).trans g2_3
  have g3_4 : mr4 h 3 = some (n + 2) := by rw [hm4]; exact (pm_up_ne _ _ (by omega)).trans g3_3
  have g4_4 : mr4 h 4 = some (n + 3) := by rw [hm4]; exact pm_up_s _ _ _ _
  have z18 : Zz (n + 4) mi ml mr4 := by rw [hm4]; exact z17.upR (by omega)
  have e1 : kd ++ KX12_0 = kd4 ++ KX12_1 := by rw [hk4, hk3, hk2, hk1]; simp only [List.append_assoc]; rfl
  have e2 : rX12_0 mr h n = mr4 := by rw [hm4, hm3, hm2, hm1]; rfl
  have e3 : RX12_0 mr h n = RX12_1 mr4 h n := congrArg (fun m => RX12_1 m h n) e2
  rw [e1, e3]
  exact n_X12_1 hh0_4 hc3 g4_4 hn4 hlt z18
theorem n_X12 {l : Launch} {d h n : Nat} {kd : pm_K} {mi : pm_I} {ml : pm_L} {mr : pm_R} (hh0 : kd[h]? = some (0, 12)) (hn0 : kd.length = n) (hlt : h < n) (z0 : Zz n mi ml mr) : wpc l M_X12_init (d + 1) 31 58837 [.ref h] kd mi ml mr (qN (kd ++ kX12) (iX12 mi h n) ml (rX12 mr h n)) := n_X12_0 hh0 hn0 hlt z0
theorem z_X12 {h n : Nat} {mi : pm_I} {ml : pm_L} {mr : pm_R} (z : Zz n mi ml mr) (hlt : h < n) : Zz (n + 31) (iX12 mi h n) ml (rX12 mr h n) := by
  have z := z.mono (Nat.le_add_right n 31)
  intro k hk
  obtain ⟨e1, e2, e3⟩ := z k hk
  refine ⟨?_, e2, ?_⟩
  · rw [iX12_ge (by omega) (by omega)]; exact e1
  · rw [rX12_ge (by omega) (by omega)]; exact e3
