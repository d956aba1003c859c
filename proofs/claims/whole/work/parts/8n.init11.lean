/-! constructors, by program (gen/mk70.py) -/
def rX11_0 (mr : pm_R) (h n : Nat) : pm_R := (pm_up (rX9 mr (n) (n + 1)) (h) 0 (some (n)))
def iX11_0 (mi : pm_I) (h n : Nat) : pm_I := (iX9 mi (n) (n + 1))
def kX11_0 : pm_K := [(0, 9)] ++ (kX9)
theorem rX11_0_ge {h n a : Nat} {mr : pm_R} (hlt : h < n) (ha : n + 45 ≤ a) : rX11_0 mr h n a = mr a := by
  unfold rX11_0; rw [pm_up_row _ _ (by omega), rX9_ge (by omega) (by omega)]
theorem iX11_0_ge {h n a : Nat} {mi : pm_I} (hlt : h < n) (ha : n + 45 ≤ a) : iX11_0 mi h n a = mi a := by
  unfold iX11_0; rw [iX9_ge (by omega) (by omega)]
theorem rX11_0_lt {h n a : Nat} {mr : pm_R} (hlt : h < n) (ha : a < h) : rX11_0 mr h n a = mr a := by
  unfold rX11_0; rw [pm_up_row _ _ (by omega), rX9_lt (by omega) (by omega)]
theorem iX11_0_lt {h n a : Nat} {mi : pm_I} (hlt : h < n) (ha : a < h) : iX11_0 mi h n a = mi a := by
  unfold iX11_0; rw [iX9_lt (by omega) (by omega)]
def rX11_1 (mr : pm_R) (h n : Nat) : pm_R := (pm_up (rX9 (pm_up mr (h) 1 (some (n + 45))) (n + 46) (n + 47)) (n + 45) 0 (some (n + 46)))
def iX11_1 (mi : pm_I) (h n : Nat) : pm_I := (iX9 mi (n + 46) (n + 47))
def kX11_1 : pm_K := [(8, 3)] ++ ([(0, 9)] ++ (kX9))
theorem rX11_1_ge {h n a : Nat} {mr : pm_R} (hlt : h < n) (ha : n + 91 ≤ a) : rX11_1 mr h n a = mr a := by
  unfold rX11_1; rw [pm_up_row _ _ (by omega), rX9_ge (by omega) (by omega), pm_up_row _ _ (by omega)]
theorem iX11_1_ge {h n a : Nat} {mi : pm_I} (hlt : h < n) (ha : n + 91 ≤ a) : iX11_1 mi h n a = mi a := by
  unfold iX11_1; rw [iX9_ge (by omega) (by omega)]
theorem rX11_1_lt {h n a : Nat} {mr : pm_R} (hlt : h < n) (ha : a < h) : rX11_1 mr h n a = mr a := by
  unfold rX11_1; rw [pm_up_row _ _ (by omega), rX9_lt (by omega) (by omega), pm_up_row _ _ (by omega)]
theorem iX11_1_lt {h n a : Nat} {mi : pm_I} (hlt : h < n) (ha : a < h) : iX11_1 mi h n a = mi a := by
  unfold iX11_1; rw [iX9_lt (by omega) (by omega)]
def rX11_2 (mr : pm_R) (h n : Nat) : pm_R := (pm_up (rX9 mr (n + 91) (n + 92)) (n + 45) 1 (some (n + 91)))
def iX11_2 (mi : pm_I) (h n : Nat) : pm_I := (iX9 mi (n + 91) (n + 92))
def kX11_2 : pm_K := [(0, 9)] ++ (kX9)
theorem rX11_2_ge {h n a : Nat} {mr : pm_R} (hlt : h < n) (ha : n + 136 ≤ a) : rX11_2 mr h n a = mr a := by
  unfold rX11_2; rw [pm_up_row _ _ (by omega), rX9_ge (by omega) (by omega)]
theorem iX11_2_ge {h n a : Nat} {mi : pm_I} (hlt : h < n) (ha : n + 136 ≤ a) : iX11_2 mi h n a = mi a := by
  unfold iX11_2; rw [iX9_ge (by omega) (by omega)]
theorem rX11_2_lt {h n a : Nat} {mr : pm_R} (hlt : h < n) (ha : a < h) : rX11_2 mr h n a = mr a := by
  unfold rX11_2; rw [pm_up_row _ _ (by omega), rX9_lt (by omega) (by omega)]
theorem iX11_2_lt {h n a : Nat} {mi : pm_I} (hlt : h < n) (ha : a < h) : iX11_2 mi h n a = mi a := by
  unfold iX11_2; rw [iX9_lt (by omega) (by omega)]
def rX11_3 (mr : pm_R) (h n : Nat) : pm_R := (pm_up (rX9 mr (n + 136) (n + 137)) (n + 45) 2 (some (n + 136)))
def iX11_3 (mi : pm_I) (h n : Nat) : pm_I := (iX9 mi (n + 136) (n + 137))
def kX11_3 : pm_K := [(0, 9)] ++ (kX9)
theorem rX11_3_ge {h n a : Nat} {mr : pm_R} (hlt : h < n) (ha : n + 181 ≤ a) : rX11_3 mr h n a = mr a := by
  unfold rX11_3; rw [pm_up_row _ _ (by omega), rX9_ge (by omega) (by omega)]
theorem iX11_3_ge {h n a : Nat} {mi : pm_I} (hlt : h < n) (ha : n + 181 ≤ a) : iX11_3 mi h n a = mi a := by
  unfold iX11_3; rw [iX9_ge (by omega) (by omega)]
theorem rX11_3_lt {h n a : Nat} {mr : pm_R} (hlt : h < n) (ha : a < h) : rX11_3 mr h n a = mr a := by
  unfold rX11_3; rw [pm_up_row _ _ (by omega), rX9_lt (by omega) (by omega)]
theorem iX11_3_lt {h n a : Nat} {mi : pm_I} (hlt : h < n) (ha : a < h) : iX11_3 mi h n a = mi a := by
  unfold iX11_3; rw [iX9_lt (by omega) (by omega)]
def rX11_4 (mr : pm_R) (h n : Nat) : pm_R := (pm_up (rX5 (pm_up mr (h) 2 (some (n + 181))) (n + 182) (n + 183)) (h) 3 (some (n + 182)))
def iX11_4 (mi : pm_I) (h n : Nat) : pm_I := mi
def kX11_4 : pm_K := [(4, 3)] ++ ([(0, 5)] ++ (kX5))
theorem rX11_4_ge {h n a : Nat} {mr : pm_R} (hlt : h < n) (ha : n + 199 ≤ a) : rX11_4 mr h n a = mr a := by
  unfold rX11_4; rw [pm_up_row _ _ (by omega), rX5_ge (by omega) (by omega), pm_up_row _ _ (by omega)]
theorem iX11_4_ge {h n a : Nat} {mi : pm_I} (hlt : h < n) (ha : n + 199 ≤ a) : iX11_4 mi h n a = mi a := by
  unfold iX11_4; rfl
theorem rX11_4_lt {h n a : Nat} {mr : pm_R} (hlt : h < n) (ha : a < h) : rX11_4 mr h n a = mr a := by
  unfold rX11_4; rw [pm_up_row _ _ (by omega), rX5_lt (by omega) (by omega), pm_up_row _ _ (by omega)]
theorem iX11_4_lt {h n a : Nat} {mi : pm_I} (hlt : h < n) (ha : a < h) : iX11_4 mi h n a = mi a := by
  unfold iX11_4; rfl
def rX11_5 (mr : pm_R) (h n : Nat) : pm_R := (pm_up (rX7 mr (n + 199) (n + 200)) (h) 4 (some (n + 199)))
def iX11_5 (mi : pm_I) (h n : Nat) : pm_I := mi
def kX11_5 : pm_K := [(0, 7)] ++ (kX7)
theorem rX11_5_ge {h n a : Nat} {mr : pm_R} (hlt : h < n) (ha : n + 201 ≤ a) : rX11_5 mr h n a = mr a := by
  unfold rX11_5; rw [pm_up_row _ _ (by omega), rX7_ge (by omega) (by omega)]
theorem iX11_5_ge {h n a : Nat} {mi : pm_I} (hlt : h < n) (ha : n + 201 ≤ a) : iX11_5 mi h n a = mi a := by
  unfold iX11_5; rfl
theorem rX11_5_lt {h n a : Nat} {mr : pm_R} (hlt : h < n) (ha : a < h) : rX11_5 mr h n a = mr a := by
  unfold rX11_5; rw [pm_up_row _ _ (by omega), rX7_lt (by omega) (by omega)]
theorem iX11_5_lt {h n a : Nat} {mi : pm_I} (hlt : h < n) (ha : a < h) : iX11_5 mi h n a = mi a := by
  unfold iX11_5; rfl
def rX11_6 (mr : pm_R) (h n : Nat) : pm_R := (pm_up (rX1 mr (n + 201) (n + 202)) (h) 5 (some (n + 201)))
def iX11_6 (mi : pm_I) (h n : Nat) : pm_I := mi
def kX11_6 : pm_K := [(0, 1)] ++ (kX1)
theorem rX11_6_ge {h n a : Nat} {mr : pm_R} (hlt : h < n) (ha : n + 207 ≤ a) : rX11_6 mr h n a = mr a := by
  unfold rX11_6; rw [pm_up_row _ _ (by omega), rX1_ge (by omega) (by omega)]
theorem iX11_6_ge {h n a : Nat} {mi : pm_I} (hlt : h < n) (ha : n + 207 ≤ a) : iX11_6 mi h n a = mi a := by
  unfold iX11_6; rfl
theorem rX11_6_lt {h n a : Nat} {mr : pm_R} (hlt : h < n) (ha : a < h) : rX11_6 mr h n a = mr a := by
  unfold rX11_6; rw [pm_up_row _ _ (by omega), rX1_lt (by omega) (by omega)]
theorem iX11_6_lt {h n a : Nat} {mi : pm_I} (hlt : h < n) (ha : a < h) : iX11_6 mi h n a = mi a := by
  unfold iX11_6; rfl
def rX11_7 (mr : pm_R) (h n : Nat) : pm_R := (pm_up (rX3 mr (n + 207) (n + 208)) (h) 6 (some (n + 207)))
def iX11_7 (mi : pm_I) (h n : Nat) : pm_I := mi
def kX11_7 : pm_K := [(0, 3)] ++ (kX3)
theorem rX11_7_ge {h n a : Nat} {mr : pm_R} (hlt : h < n) (ha : n + 214 ≤ a) : rX11_7 mr h n a = mr a := by
  unfold rX11_7; rw [pm_up_row _ _ (by omega), rX3_ge (by omega) (by omega)]
theorem iX11_7_ge {h n a : Nat} {mi : pm_I} (hlt : h < n) (ha : n + 214 ≤ a) : iX11_7 mi h n a = mi a := by
  unfold iX11_7; rfl
theorem rX11_7_lt {h n a : Nat} {mr : pm_R} (hlt : h < n) (ha : a < h) : rX11_7 mr h n a = mr a := by
  unfold rX11_7; rw [pm_up_row _ _ (by omega), rX3_lt (by omega) (by omega)]
theorem iX11_7_lt {h n a : Nat} {mi : pm_I} (hlt : h < n) (ha : a < h) : iX11_7 mi h n a = mi a := by
  unfold iX11_7; rfl
def rX11_8 (mr : pm_R) (h n : Nat) : pm_R := (pm_up (rX8 mr (n + 214) (n + 215)) (h) 7 (some (n + 214)))
def iX11_8 (mi : pm_I) (h n : Nat) : pm_I := mi
def kX11_8 : pm_K := [(0, 8)] ++ (kX8)
theorem rX11_8_ge {h n a : Nat} {mr : pm_R} (hlt : h < n) (ha : n + 221 ≤ a) : rX11_8 mr h n a = mr a := by
  unfold rX11_8; rw [pm_up_row _ _ (by omega), rX8_ge (by omega) (by omega)]
theorem iX11_8_ge {h n a : Nat} {mi : pm_I} (hlt : h < n) (ha : n + 221 ≤ a) : iX11_8 mi h n a = mi a := by
  unfold iX11_8; rfl
theorem rX11_8_lt {h n a : Nat} {mr : pm_R} (hlt : h < n) (ha : a < h) : rX11_8 mr h n a = mr a := by
  unfold rX11_8; rw [pm_up_row _ _ (by omega), rX8_lt (by omega) (by omega)]
theorem iX11_8_lt {h n a : Nat} {mi : pm_I} (hlt : h < n) (ha : a < h) : iX11_8 mi h n a = mi a := by
  unfold iX11_8; rfl
def rX11_9 (mr : pm_R) (h n : Nat) : pm_R := (pm_up (rX2 mr (n + 221) (n + 222)) (h) 8 (some (n + 221)))
def iX11_9 (mi : pm_I) (h n : Nat) : pm_I := mi
def kX11_9 : pm_K := [(0, 2)] ++ (kX2)
theorem rX11_9_ge {h n a : Nat} {mr : pm_R} (hlt : h < n) (ha : n + 228 ≤ a) : rX11_9 mr h n a = mr a := by
  unfold rX11_9; rw [pm_up_row _ _ (by omega), rX2_ge (by omega) (by omega)]
theorem iX11_9_ge {h n a : Nat} {mi : pm_I} (hlt : h < n) (ha : n + 228 ≤ a) : iX11_9 mi h n a = mi a := by
  unfold iX11_9; rfl
theorem rX11_9_lt {h n a : Nat} {mr : pm_R} (hlt : h < n) (ha : a < h) : rX11_9 mr h n a = mr a := by
  unfold rX11_9; rw [pm_up_row _ _ (by omega), rX2_lt (by omega) (by omega)]
theorem iX11_9_lt {h n a : Nat} {mi : pm_I} (hlt : h < n) (ha : a < h) : iX11_9 mi h n a = mi a := by
  unfold iX11_9; rfl
def rX11_10 (mr : pm_R) (h n : Nat) : pm_R := (pm_up (rX4 mr (n + 228) (n + 229)) (h) 9 (some (n + 228)))
def iX11_10 (mi : pm_I) (h n : Nat) : pm_I := (iX4 mi (n + 228) (n + 229))
def kX11_10 : pm_K := [(0, 4)] ++ (kX4)
theorem rX11_10_ge {h n a : Nat} {mr : pm_R} (hlt : h < n) (ha : n + 233 ≤ a) : rX11_10 mr h n a = mr a := by
  unfold rX11_10; rw [pm_up_row _ _ (by omega), rX4_ge (by omega) (by omega)]
theorem iX11_10_ge {h n a : Nat} {mi : pm_I} (hlt : h < n) (ha : n + 233 ≤ a) : iX11_10 mi h n a = mi a := by
  unfold iX11_10; rw [iX4_ge (by omega) (by omega)]
theorem rX11_10_lt {h n a : Nat} {mr : pm_R} (hlt : h < n) (ha : a < h) : rX11_10 mr h n a = mr a := by
  unfold rX11_10; rw [pm_up_row _ _ (by omega), rX4_lt (by omega) (by omega)]
theorem iX11_10_lt {h n a : Nat} {mi : pm_I} (hlt : h < n) (ha : a < h) : iX11_10 mi h n a = mi a := by
  unfold iX11_10; rw [iX4_lt (by omega) (by omega)]
def rX11_11 (mr : pm_R) (h n : Nat) : pm_R := (pm_up mr (h) 10 (some (n + 233)))
def iX11_11 (mi : pm_I) (h n : Nat) : pm_I := mi
def kX11_11 : pm_K := [(1, 256)]
theorem rX11_11_ge {h n a : Nat} {mr : pm_R} (hlt : h < n) (ha : n + 234 ≤ a) : rX11_11 mr h n a = mr a := by
  unfold rX11_11; rw [pm_up_row _ _ (by omega)]
theorem iX11_11_ge {h n a : Nat} {mi : pm_I} (hlt : h < n) (ha : n + 234 ≤ a) : iX11_11 mi h n a = mi a := by
  unfold iX11_11; rfl
theorem rX11_11_lt {h n a : Nat} {mr : pm_R} (hlt : h < n) (ha : a < h) : rX11_11 mr h n a = mr a := by
  unfold rX11_11; rw [pm_up_row _ _ (by omega)]
theorem iX11_11_lt {h n a : Nat} {mi : pm_I} (hlt : h < n) (ha : a < h) : iX11_11 mi h n a = mi a := by
  unfold iX11_11; rfl
def RX11_11 (mr : pm_R) (h n : Nat) : pm_R := rX11_11 mr h n
def IX11_11 (mi : pm_I) (h n : Nat) : pm_I := iX11_11 mi h n
def KX11_11 : pm_K := kX11_11
theorem RX11_11_ge {h n a : Nat} {mr : pm_R} (hlt : h < n) (ha : n + 234 ≤ a) : RX11_11 mr h n a = mr a := by
  exact rX11_11_ge hlt ha
theorem RX11_11_lt {h n a : Nat} {mr : pm_R} (hlt : h < n) (ha : a < h) : RX11_11 mr h n a = mr a := by
  exact rX11_11_lt hlt ha
theorem IX11_11_ge {h n a : Nat} {mi : pm_I} (hlt : h < n) (ha : n + 234 ≤ a) : IX11_11 mi h n a = mi a := by
  exact iX11_11_ge hlt ha
theorem IX11_11_lt {h n a : Nat} {mi : pm_I} (hlt : h < n) (ha : a < h) : IX11_11 mi h n a = mi a := by
  exact iX11_11_lt hlt ha
def RX11_10 (mr : pm_R) (h n : Nat) : pm_R := RX11_11 (rX11_10 mr h n) h n
def IX11_10 (mi : pm_I) (h n : Nat) : pm_I := IX11_11 (iX11_10 mi h n) h n
def KX11_10 : pm_K := kX11_10 ++ KX11_11
theorem RX11_10_ge {h n a : Nat} {mr : pm_R} (hlt : h < n) (ha : n + 234 ≤ a) : RX11_10 mr h n a = mr a := by
  exact (RX11_11_ge hlt ha).trans (rX11_10_ge hlt (by omega))
theorem RX11_10_lt {h n a : Nat} {mr : pm_R} (hlt : h < n) (ha : a < h) : RX11_10 mr h n a = mr a := by
  exact (RX11_11_lt hlt ha).trans (rX11_10_lt hlt ha)
theorem IX11_10_ge {h n a : Nat} {mi : pm_I} (hlt : h < n) (ha : n + 234 ≤ a) : IX11_10 mi h n a = mi a := by
  exact (IX11_11_ge hlt ha).trans (iX11_10_ge hlt (by omega))
theorem IX11_10_lt {h n a : Nat} {mi : pm_I} (hlt : h < n) (ha : a < h) : IX11_10 mi h n a = mi a := by
  exact (IX11_11_lt hlt ha).trans (iX11_10_lt hlt ha)
def RX11_9 (mr : pm_R) (h n : Nat) : pm_R := RX11_10 (rX11_9 mr h n) h n
def IX11_9 (mi : pm_I) (h n : Nat) : pm_I := IX11_10 (iX11_9 mi h n) h n
def KX11_9 : pm_K := kX11_9 ++ KX11_10
theorem RX11_9_ge {h n a : Nat} {mr : pm_R} (hlt : h < n) (ha : n + 234 ≤ a) : RX11_9 mr h n a = mr a := by
  exact (RX11_10_ge hlt ha).trans (rX11_9_ge hlt (by omega))
theorem RX11_9_lt {h n a : Nat} {mr : pm_R} (hlt : h < n) (ha : a < h) : RX11_9 mr h n a = mr a := by
  exact (RX11_10_lt hlt ha).trans (rX11_9_lt hlt ha)
theorem IX11_9_ge {h n a : Nat} {mi : pm_I} (hlt : h < n) (ha : n + 234 ≤ a) : IX11_9 mi h n a = mi a := by
  exact (IX11_10_ge hlt ha).trans (iX11_9_ge hlt (by omega))
theorem IX11_9_lt {h n a : Nat} {mi : pm_I} (hlt : h < n) (ha : a < h) : IX11_9 mi h n a = mi a := by
  exact (IX11_10_lt hlt ha).trans (iX11_9_lt hlt ha)
def RX11_8 (mr : pm_R) (h n : Nat) : pm_R := RX11_9 (rX11_8 mr h n) h n
def IX11_8 (mi : pm_I) (h n : Nat) : pm_I := IX11_9 (iX11_8 mi h n) h n
def KX11_8 : pm_K := kX11_8 ++ KX11_9
theorem RX11_8_ge {h n a : Nat} {mr : pm_R} (hlt : h < n) (ha : n + 234 ≤ a) : RX11_8 mr h n a = mr a := by
  exact (RX11_9_ge hlt ha).trans (rX11_8_ge hlt (by omega))
theorem RX11_8_lt {h n a : Nat} {mr : pm_R} (hlt : h < n) (ha : a < h) : RX11_8 mr h n a = mr a := by
  exact (RX11_9_lt hlt ha).trans (rX11_8_lt hlt ha)
theorem IX11_8_ge {h n a : Nat} {mi : pm_I} (hlt : h < n) (ha : n + 234 ≤ a) : IX11_8 mi h n a = mi a := by
  exact (IX11_9_ge hlt ha).trans (iX11_8_ge hlt (by omega))
theorem IX11_8_lt {h n a : Nat} {mi : pm_I} (hlt : h < n) (ha : a < h) : IX11_8 mi h n a = mi a := by
  exact (IX11_9_lt hlt ha).trans (iX11_8_lt hlt ha)
def RX11_7 (mr : pm_R) (h n : Nat) : pm_R := RX11_8 (rX11_7 mr h n) h n
def IX11_7 (mi : pm_I) (h n : Nat) : pm_I := IX11_8 (iX11_7 mi h n) h n
def KX11_7 : pm_K := kX11_7 ++ KX11_8
theorem RX11_7_ge {h n a : Nat} {mr : pm_R} (hlt : h < n) (ha : n + 234 ≤ a) : RX11_7 mr h n a = mr a := by
  exact (RX11_8_ge hlt ha).trans (rX11_7_ge hlt (by omega))
theorem RX11_7_lt {h n a : Nat} {mr : pm_R} (hlt : h < n) (ha : a < h) : RX11_7 mr h n a = mr a := by
  exact (RX11_8_lt hlt ha).trans (rX11_7_lt hlt ha)
theorem IX11_7_ge {h n a : Nat} {mi : pm_I} (hlt : h < n) (ha : n + 234 ≤ a) : IX11_7 mi h n a = mi a := by
  exact (IX11_8_ge hlt ha).trans (iX11_7_ge hlt (by omega))
theorem IX11_7_lt {h n a : Nat} {mi : pm_I} (hlt : h < n) (ha : a < h) : IX11_7 mi h n a = mi a := by
  exact (IX11_8_lt hlt ha).trans (iX11_7_lt hlt ha)
def RX11_6 (mr : pm_R) (h n : Nat) : pm_R := RX11_7 (rX11_6 mr h n) h n
def IX11_6 (mi : pm_I) (h n : Nat) : pm_I := IX11_7 (iX11_6 mi h n) h n
def KX11_6 : pm_K := kX11_6 ++ KX11_7
theorem RX11_6_ge {h n a : Nat} {mr : pm_R} (hlt : h < n) (ha : n + 234 ≤ a) : RX11_6 mr h n a = mr a := by
  exact (RX11_7_ge hlt ha).trans (rX11_6_ge hlt (by omega))
theorem RX11_6_lt {h n a : Nat} {mr : pm_R} (hlt : h < n) (ha : a < h) : RX11_6 mr h n a = mr a := by
  exact (RX11_7_lt hlt ha).trans (rX11_6_lt hlt ha)
theorem IX11_6_ge {h n a : Nat} {mi : pm_I} (hlt : h < n) (ha : n + 234 ≤ a) : IX11_6 mi h n a = mi a := by
  exact (IX11_7_ge hlt ha).trans (iX11_6_ge hlt (by omega))
theorem IX11_6_lt {h n a : Nat} {mi : pm_I} (hlt : h < n) (ha : a < h) : IX11_6 mi h n a = mi a := by
  exact (IX11_7_lt hlt ha).trans (iX11_6_lt hlt ha)
def RX11_5 (mr : pm_R) (h n : Nat) : pm_R := RX11_6 (rX11_5 mr h n) h n
def IX11_5 (mi : pm_I) (h n : Nat) : pm_I := IX11_6 (iX11_5 mi h n) h n
def KX11_5 : pm_K := kX11_5 ++ KX11_6
theorem RX11_5_ge {h n a : Nat} {mr : pm_R} (hlt : h < n) (ha : n + 234 ≤ a) : RX11_5 mr h n a = mr a := by
  exact (RX11_6_ge hlt ha).trans (rX11_5_ge hlt (by omega))
theorem RX11_5_lt {h n a : Nat} {mr : pm_R} (hlt : h < n) (ha : a < h) : RX11_5 mr h n a = mr a := by
  exact (RX11_6_lt hlt ha).trans (rX11_5_lt hlt ha)
theorem IX11_5_ge {h n a : Nat} {mi : pm_I} (hlt : h < n) (ha : n + 234 ≤ a) : IX11_5 mi h n a = mi a := by
  exact (IX11_6_ge hlt ha).trans (iX11_5_ge hlt (by omega))
theorem IX11_5_lt {h n a : Nat} {mi : pm_I} (hlt : h < n) (ha : a < h) : IX11_5 mi h n a = mi a := by
  exact (IX11_6_lt hlt ha).trans (iX11_5_lt hlt ha)
def RX11_4 (mr : pm_R) (h n : Nat) : pm_R := RX11_5 (rX11_4 mr h n) h n
def IX11_4 (mi : pm_I) (h n : Nat) : pm_I := IX11_5 (iX11_4 mi h n) h n
def KX11_4 : pm_K := kX11_4 ++ KX11_5
theorem RX11_4_ge {h n a : Nat} {mr : pm_R} (hlt : h < n) (ha : n + 234 ≤ a) : RX11_4 mr h n a = mr a := by
  exact (RX11_5_ge hlt ha).trans (rX11_4_ge hlt (by omega))
theorem RX11_4_lt {h n a : Nat} {mr : pm_R} (hlt : h < n) (ha : a < h) : RX11_4 mr h n a = mr a := by
  exact (RX11_5_lt hlt ha).trans (rX11_4_lt hlt ha)
theorem IX11_4_ge {h n a : Nat} {mi : pm_I} (hlt : h < n) (ha : n + 234 ≤ a) : IX11_4 mi h n a = mi a := by
  exact (IX11_5_ge hlt ha).trans (iX11_4_ge hlt (by omega))
theorem IX11_4_lt {h n a : Nat} {mi : pm_I} (hlt : h < n) (ha : a < h) : IX11_4 mi h n a = mi a := by
  exact (IX11_5_lt hlt ha).trans (iX11_4_lt hlt ha)
def RX11_3 (mr : pm_R) (h n : Nat) : pm_R := RX11_4 (rX11_3 mr h n) h n
def IX11_3 (mi : pm_I) (h n : Nat) : pm_I := IX11_4 (iX11_3 mi h n) h n
def KX11_3 : pm_K := kX11_3 ++ KX11_4
theorem RX11_3_ge {h n a : Nat} {mr : pm_R} (hlt : h < n) (ha : n + 234 ≤ a) : RX11_3 mr h n a = mr a := by
  exact (RX11_4_ge hlt ha).trans (rX11_3_ge hlt (by omega))
theorem RX11_3_lt {h n a : Nat} {mr : pm_R} (hlt : h < n) (ha : a < h) : RX11_3 mr h n a = mr a := by
  exact (RX11_4_lt hlt ha).trans (rX11_3_lt hlt ha)
theorem IX11_3_ge {h n a : Nat} {mi : pm_I} (hlt : h < n) (ha : n + 234 ≤ a) : IX11_3 mi h n a = mi a := by
  exact (IX11_4_ge hlt ha).trans (iX11_3_ge hlt (by omega))
theorem IX11_3_lt {h n a : Nat} {mi : pm_I} (hlt : h < n) (ha : a < h) : IX11_3 mi h n a = mi a := by
  exact (IX11_4_lt hlt ha).trans (iX11_3_lt hlt ha)
def RX11_2 (mr : pm_R) (h n : Nat) : pm_R := RX11_3 (rX11_2 mr h n) h n
def IX11_2 (mi : pm_I) (h n : Nat) : pm_I := IX11_3 (iX11_2 mi h n) h n
def KX11_2 : pm_K := kX11_2 ++ KX11_3
theorem RX11_2_ge {h n a : Nat} {mr : pm_R} (hlt : h < n) (ha : n + 234 ≤ a) : RX11_2 mr h n a = mr a := by
  exact (RX11_3_ge hlt ha).trans (rX11_2_ge hlt (by omega))
theorem RX11_2_lt {h n a : Nat} {mr : pm_R} (hlt : h < n) (ha : a < h) : RX11_2 mr h n a = mr a := by
  exact (RX11_3_lt hlt ha).trans (rX11_2_lt hlt ha)
theorem IX11_2_ge {h n a : Nat} {mi : pm_I} (hlt : h < n) (ha : n + 234 ≤ a) : IX11_2 mi h n a = mi a := by
  exact (IX11_3_ge hlt ha).trans (iX11_2_ge hlt (by omega))
theorem IX11_2_lt {h n a : Nat} {mi : pm_I} (hlt : h < n) (ha : a < h) : IX11_2 mi h n a = mi a := by
  exact (IX11_3_lt hlt ha).trans (iX11_2_lt hlt ha)
def RX11_1 (mr : pm_R) (h n : Nat) : pm_R := RX11_2 (rX11_1 mr h n) h n
def IX11_1 (mi : pm_I) (h n : Nat) : pm_I := IX11_2 (iX11_1 mi h n) h n
def KX11_1 : pm_K := kX11_1 ++ KX11_2
theorem RX11_1_ge {h n a : Nat} {mr : pm_R} (hlt : h < n) (ha : n + 234 ≤ a) : RX11_1 mr h n a = mr a := by
  exact (RX11_2_ge hlt ha).trans (rX11_1_ge hlt (by omega))
theorem RX11_1_lt {h n a : Nat} {mr : pm_R} (hlt : h < n) (ha : a < h) : RX11_1 mr h n a = mr a := by
  exact (RX11_2_lt hlt ha).trans (rX11_1_lt hlt ha)
theorem IX11_1_ge {h n a : Nat} {mi : pm_I} (hlt : h < n) (ha : n + 234 ≤ a) : IX11_1 mi h n a = mi a := by
  exact (IX11_2_ge hlt ha).trans (iX11_1_ge hlt (by omega))
theorem IX11_1_lt {h n a : Nat} {mi : pm_I} (hlt : h < n) (ha : a < h) : IX11_1 mi h n a = mi a := by
  exact (IX11_2_lt hlt ha).trans (iX11_1_lt hlt ha)
def RX11_0 (mr : pm_R) (h n : Nat) : pm_R := RX11_1 (rX11_0 mr h n) h n
def IX11_0 (mi : pm_I) (h n : Nat) : pm_I := IX11_1 (iX11_0 mi h n) h n
def KX11_0 : pm_K := kX11_0 ++ KX11_1
theorem RX11_0_ge {h n a : Nat} {mr : pm_R} (hlt : h < n) (ha : n + 234 ≤ a) : RX11_0 mr h n a = mr a := by
  exact (RX11_1_ge hlt ha).trans (rX11_0_ge hlt (by omega))
theorem RX11_0_lt {h n a : Nat} {mr : pm_R} (hlt : h < n) (ha : a < h) : RX11_0 mr h n a = mr a := by
  exact (RX11_1_lt hlt ha).trans (rX11_0_lt hlt ha)
theorem IX11_0_ge {h n a : Nat} {mi : pm_I} (hlt : h < n) (ha : n + 234 ≤ a) : IX11_0 mi h n a = mi a := by
  exact (IX11_1_ge hlt ha).trans (iX11_0_ge hlt (by omega))
theorem IX11_0_lt {h n a : Nat} {mi : pm_I} (hlt : h < n) (ha : a < h) : IX11_0 mi h n a = mi a := by
  exact (IX11_1_lt hlt ha).trans (iX11_0_lt hlt ha)
def rX11 (mr : pm_R) (h n : Nat) : pm_R := RX11_0 mr h n
def iX11 (mi : pm_I) (h n : Nat) : pm_I := IX11_0 mi h n
def kX11 : pm_K := KX11_0
theorem rX11_ge {h n a : Nat} {mr : pm_R} (hlt : h < n) (ha : n + 234 ≤ a) : rX11 mr h n a = mr a := RX11_0_ge hlt ha
theorem rX11_lt {h n a : Nat} {mr : pm_R} (hlt : h < n) (ha : a < h) : rX11 mr h n a = mr a := RX11_0_lt hlt ha
theorem iX11_ge {h n a : Nat} {mi : pm_I} (hlt : h < n) (ha : n + 234 ≤ a) : iX11 mi h n a = mi a := IX11_0_ge hlt ha
theorem iX11_lt {h n a : Nat} {mi : pm_I} (hlt : h < n) (ha : a < h) : iX11 mi h n a = mi a := IX11_0_lt hlt ha
set_option maxHeartbeats 4000000 in
theorem n_X11_11 {l : Launch} {d h n : Nat} {kd : pm_K} {mi : pm_I} {ml : pm_L} {mr : pm_R} (hh0 : kd[h]? = some (0, 11)) (hf1 : kd[n + 45]? = some (5 + 3, 3)) (gf0_0 : mr h 1 = some (n + 45)) (hn0 : kd.length = n + 233) (hlt : h < n) (z0 : Zz (n + 233) mi ml mr) : wp l M_X11_init (d + 4) 234 25482 133 [some (.ref h), some (.int 3)] [] 233 25226 kd mi ml mr (qN (kd ++ KX11_11) (IX11_11 mi h n) ml (RX11_11 mr h n)) := by
  refine wp_aload_n (pc := 133) dX11_init_133 rfl ?_
  refine wp_sipush (v := 256) (pc := 134) dX11_init_134 (by decide) ?_
  refine wp_newa (i := 0) (pc := 137) (t := 1) (N := 256) (mi' := mi) (ml' := ml) dX11_init_137 (by simp) (tb_1 108 rfl rfl) (by decide) rfl (by decide) (Nat.le_of_ble_eq_true rfl) (Nat.le_of_ble_eq_true rfl) (fun _ _ => rfl) (fun _ _ => rfl) (z0 _ (Nat.le_of_eq hn0.symm)).1 (z0 _ (Nat.le_of_eq hn0.symm)).2.1 ?_
  rw [hn0]
  obtain ⟨kd1, hk1⟩ : ∃ k, k = kd ++ [(1, 256)] := ⟨_, rfl⟩
  rw [← hk1]
  have hn1 : kd1.length = n + 234 := by rw [hk1, List.length_append, hn0]; rfl
  have hh0_1 := k_at hk1 hh0
  have hf1_1 := k_at hk1 hf1
  have hc233 : kd1[n + 233]? = some (1, 256) := by rw [hk1]; exact k_new hn0
  have z3 : Zz (n + 234) mi ml mr := z0.mono (by omega)
  refine wp_cs (cs' := 234) (ss' := 25482) rfl rfl ?_
  refine wp_putR (pc := 139) dX11_init_139 fl_X11_73 rfl ⟨rfl, (RX11, TX11, 11), rfl, rfl, tb_2 181 rfl rfl⟩ hh0_1 ?_
  obtain ⟨mr1, hm1⟩ : ∃ m, m = pm_up mr (h) 10 (some (n + 233)) := ⟨_, rfl⟩
  rw [← hm1]
  have gf0_1 : mr1 h 1 = some (n + 45) := by rw [hm1]; exact (pm_up_ne _ _ (by omega)).trans gf0_0
  have z4 : Zz (n + 234) mi ml mr1 := by rw [hm1]; exact z3.upR (by omega)
  exact wp_vret (pc := 142) dX11_init_142 rfl ⟨rfl, by rw [hk1]; rfl, rfl, rfl, by rw [hm1]; rfl⟩
set_option maxHeartbeats 4000000 in
theorem n_X11_10 {l : Launch} {d h n : Nat} {kd : pm_K} {mi : pm_I} {ml : pm_L} {mr : pm_R} (hh0 : kd[h]? = some (0, 11)) (hf1 : kd[n + 45]? = some (5 + 3, 3)) (gf0_0 : mr h 1 = some (n + 45)) (hn0 : kd.length = n + 228) (hlt : h < n) (z0 : Zz (n + 228) mi ml mr) : wp l M_X11_init (d + 4) 234 25482 122 [some (.ref h), some (.int 3)] [] 228 20436 kd mi ml mr (qN (kd ++ KX11_10) (IX11_10 mi h n) ml (RX11_10 mr h n)) := by
  refine wp_aload_n (pc := 122) dX11_init_122 rfl ?_
  refine wp_new (pc := 123) (ci := 4) (C := RX4) (T := TX4) (mi' := mi) (ml' := ml) (mr' := mr) dX11_init_123 rfl ii_X4 tyX4_ok ⟨tb_2 135 rfl rfl, tb_2 136 rfl rfl, tb_1 12 rfl rfl⟩ (Nat.le_of_ble_eq_true rfl) (Nat.le_of_ble_eq_true rfl) (fun ad => fs_0 ad (z0 _ (Nat.le_of_eq hn0.symm)) (by decide)) (fun _ _ => rfl) (fun _ _ => rfl) (fun _ _ => rfl) (fun k e => e ▸ (z0 _ (Nat.le_of_eq hn0.symm)).2.2) (fun _ _ => rfl) ?_
  rw [hn0, show pm_N 4 = 4 from rfl]
  obtain ⟨kd1, hk1⟩ : ∃ k, k = kd ++ [(0, 4)] := ⟨_, rfl⟩
  rw [← hk1]
  have hn1 : kd1.length = n + 229 := by rw [hk1, List.length_append, hn0]; rfl
  have hh0_1 := k_at hk1 hh0
  have hf1_1 := k_at hk1 hf1
  have hc228 : kd1[n + 228]? = some (0, 4) := by rw [hk1]; exact k_new hn0
  have z2 : Zz (n + 229) mi ml mr := z0.mono (by omega)
  refine wp_cs (cs' := 229) (ss' := 20440) rfl rfl ?_
  refine wp_dup (pc := 126) dX11_init_126 rfl ?_
  refine wp_callN (pc := 127) (As := []) (b := n + 228) (d' := d + 3) (mc' := 4) (ms' := 4786) dX11_init_127 ml_X11_68 in_X4_init rfl rfl (Nat.le_of_ble_eq_true rfl) (Nat.le_of_ble_eq_true rfl) (by omega) ⟨Nat.le_of_ble_eq_true rfl, Nat.le_of_ble_eq_true rfl⟩ (n_X4 (d := d + 0) hc228 hn1 (by omega) z2 (by omega)) ?_
  obtain ⟨mr1, hm1⟩ : ∃ m, m = rX4 mr (n + 228) (n + 229) := ⟨_, rfl⟩
  rw [← hm1]
  have gf0_1 : mr1 h 1 = some (n + 45) := by rw [hm1]; exact (congrFun (rX4_lt (by omega) (by omega)) _).trans gf0_0
  obtain ⟨kd2, hk2⟩ : ∃ k, k = kd1 ++ kX4 := ⟨_, rfl⟩
  rw [← hk2]
  have hn2 : kd2.length = n + 233 := by rw [hk2, List.length_append, hn1]; rfl
  have hh0_2 := k_at hk2 hh0_1
  have hf1_2 := k_at hk2 hf1_1
  have hc228_2 := k_at hk2 hc228
  have z4 : Zz (n + 233) (iX4 mi (n + 228) (n + 229)) ml mr1 := by rw [hm1]; exact z_X4 z2 (by omega)
  refine wp_cs (cs' := 233) (ss' := 25226) rfl rfl ?_
  refine wp_putR (pc := 130) dX11_init_130 fl_X11_69 rfl ⟨rfl, (RX11, TX11, 11), rfl, rfl, tb_2 180 rfl rfl⟩ hh0_2 ?_
  obtain ⟨mr2, hm2⟩ : ∃ m, m = pm_up mr1 (h) 9 (some (n + 228)) := ⟨_, rfl⟩
  rw [← hm2]
  have gf0_2 : mr2 h 1 = some (n + 45) := by rw [hm2]; exact (pm_up_ne _ _ (by omega)).trans gf0_1
  have z5 : Zz (n + 233) (iX4 mi (n + 228) (n + 229)) ml mr2 := by rw [hm2]; exact z4.upR (by omega)
  have e1 : kd ++ KX11_10 = kd2 ++ KX11_11 := by rw [hk2, hk1]; simp only [List.append_assoc]; rfl
  have e2 : rX11_10 mr h n = mr2 := by rw [hm2, hm1]; rfl
  have e3 : RX11_10 mr h n = RX11_11 mr2 h n := congrArg (fun m => RX11_11 m h n) e2
  rw [e1, e3]
  exact n_X11_11 hh0_2 hf1_2 gf0_2 hn2 hlt z5
set_option maxHeartbeats 4000000 in
theorem n_X11_9 {l : Launch} {d h n : Nat} {kd : pm_K} {mi : pm_I} {ml : pm_L} {mr : pm_R} (hh0 : kd[h]? = some (0, 11)) (hf1 : kd[n + 45]? = some (5 + 3, 3)) (gf0_0 : mr h 1 = some (n + 45)) (hn0 : kd.length = n + 221) (hlt : h < n) (z0 : Zz (n + 221) mi ml mr) : wp l M_X11_init (d + 4) 234 25482 111 [some (.ref h), some (.int 3)] [] 221 7758 kd mi ml mr (qN (kd ++ KX11_9) (IX11_9 mi h n) ml (RX11_9 mr h n)) := by
  refine wp_aload_n (pc := 111) dX11_init_111 rfl ?_
  refine wp_new (pc := 112) (ci := 2) (C := RX2) (T := TX2) (mi' := mi) (ml' := ml) (mr' := mr) dX11_init_112 rfl ii_X2 tyX2_ok ⟨tb_2 110 rfl rfl, tb_2 111 rfl rfl, tb_1 11 rfl rfl⟩ (Nat.le_of_ble_eq_true rfl) (Nat.le_of_ble_eq_true rfl) (fun ad => fs_0 ad (z0 _ (Nat.le_of_eq hn0.symm)) (by decide)) (fun _ _ => rfl) (fun _ _ => rfl) (fun _ _ => rfl) (fun k e => e ▸ (z0 _ (Nat.le_of_eq hn0.symm)).2.2) (fun _ _ => rfl) ?_
  rw [hn0, show pm_N 2 = 6 from rfl]
  obtain ⟨kd1, hk1⟩ : ∃ k, k = kd ++ [(0, 2)] := ⟨_, rfl⟩
  rw [← hk1]
  have hn1 : kd1.length = n + 222 := by rw [hk1, List.length_append, hn0]; rfl
  have hh0_1 := k_at hk1 hh0
  have hf1_1 := k_at hk1 hf1
  have hc221 : kd1[n + 221]? = some (0, 2) := by rw [hk1]; exact k_new hn0
  have z2 : Zz (n + 222) mi ml mr := z0.mono (by omega)
  refine wp_cs (cs' := 222) (ss' := 7764) rfl rfl ?_
  refine wp_dup (pc := 115) dX11_init_115 rfl ?_
  refine wp_callN (pc := 116) (As := []) (b := n + 221) (d' := d + 3) (mc' := 6) (ms' := 12672) dX11_init_116 ml_X11_61 in_X2_init rfl rfl (Nat.le_of_ble_eq_true rfl) (Nat.le_of_ble_eq_true rfl) (by omega) ⟨Nat.le_of_ble_eq_true rfl, Nat.le_of_ble_eq_true rfl⟩ (n_X2 (d := d + 2) hc221 hn1 (by omega) z2) ?_
  obtain ⟨mr1, hm1⟩ : ∃ m, m = rX2 mr (n + 221) (n + 222) := ⟨_, rfl⟩
  rw [← hm1]
  have gf0_1 : mr1 h 1 = some (n + 45) := by rw [hm1]; exact (congrFun (rX2_lt (by omega) (by omega)) _).trans gf0_0
  obtain ⟨kd2, hk2⟩ : ∃ k, k = kd1 ++ kX2 := ⟨_, rfl⟩
  rw [← hk2]
  have hn2 : kd2.length = n + 228 := by rw [hk2, List.length_append, hn1]; rfl
  have hh0_2 := k_at hk2 hh0_1
  have hf1_2 := k_at hk2 hf1_1
  have hc221_2 := k_at hk2 hc221
  have z4 : Zz (n + 228) mi ml mr1 := by rw [hm1]; exact z_X2 z2 (by omega)
  refine wp_cs (cs' := 228) (ss' := 20436) rfl rfl ?_
  refine wp_putR (pc := 119) dX11_init_119 fl_X11_62 rfl ⟨rfl, (RX11, TX11, 11), rfl, rfl, tb_2 179 rfl rfl⟩ hh0_2 ?_
  obtain ⟨mr2, hm2⟩ : ∃ m, m = pm_up mr1 (h) 8 (some (n + 221)) := ⟨_, rfl⟩
  rw [← hm2]
  have gf0_2 : mr2 h 1 = some (n + 45) := by rw [hm2]; exact (pm_up_ne _ _ (by omega)).trans gf0_1
  have z5 : Zz (n + 228) mi ml mr2 := by rw [hm2]; exact z4.upR (by omega)
  have e1 : kd ++ KX11_9 = kd2 ++ KX11_10 := by rw [hk2, hk1]; simp only [List.append_assoc]; rfl
  have e2 : rX11_9 mr h n = mr2 := by rw [hm2, hm1]; rfl
  have e3 : RX11_9 mr h n = RX11_10 mr2 h n := congrArg (fun m => RX11_10 m h n) e2
  rw [e1, e3]
  exact n_X11_10 hh0_2 hf1_2 gf0_2 hn2 hlt z5
set_option maxHeartbeats 4000000 in
theorem n_X11_8 {l : Launch} {d h n : Nat} {kd : pm_K} {mi : pm_I} {ml : pm_L} {mr : pm_R} (hh0 : kd[h]? = some (0, 11)) (hf1 : kd[n + 45]? = some (5 + 3, 3)) (gf0_0 : mr h 1 = some (n + 45)) (hn0 : kd.length = n + 214) (hlt : h < n) (z0 : Zz (n + 214) mi ml mr) : wp l M_X11_init (d + 4) 234 25482 100 [some (.ref h), some (.int 3)] [] 214 7050 kd mi ml mr (qN (kd ++ KX11_8) (IX11_8 mi h n) ml (RX11_8 mr h n)) := by
  refine wp_aload_n (pc := 100) dX11_init_100 rfl ?_
  refine wp_new (pc := 101) (ci := 8) (C := RX8) (T := TX8) (mi' := mi) (ml' := ml) (mr' := mr) dX11_init_101 rfl ii_X8 tyX8_ok ⟨tb_2 79 rfl rfl, tb_2 80 rfl rfl, tb_1 10 rfl rfl⟩ (Nat.le_of_ble_eq_true rfl) (Nat.le_of_ble_eq_true rfl) (fun ad => fs_0 ad (z0 _ (Nat.le_of_eq hn0.symm)) (by decide)) (fun _ _ => rfl) (fun _ _ => rfl) (fun _ _ => rfl) (fun k e => e ▸ (z0 _ (Nat.le_of_eq hn0.symm)).2.2) (fun _ _ => rfl) ?_
  rw [hn0, show pm_N 8 = 8 from rfl]
  obtain ⟨kd1, hk1⟩ : ∃ k, k = kd ++ [(0, 8)] := ⟨_, rfl⟩
  rw [← hk1]
  have hn1 : kd1.length = n + 215 := by rw [hk1, List.length_append, hn0]; rfl
  have hh0_1 := k_at hk1 hh0
  have hf1_1 := k_at hk1 hf1
  have hc214 : kd1[n + 214]? = some (0, 8) := by rw [hk1]; exact k_new hn0
  have z2 : Zz (n + 215) mi ml mr := z0.mono (by omega)
  refine wp_cs (cs' := 215) (ss' := 7058) rfl rfl ?_
  refine wp_dup (pc := 104) dX11_init_104 rfl ?_
  refine wp_callN (pc := 105) (As := []) (b := n + 214) (d' := d + 3) (mc' := 6) (ms' := 700) dX11_init_105 ml_X11_54 in_X8_init rfl rfl (Nat.le_of_ble_eq_true rfl) (Nat.le_of_ble_eq_true rfl) (by omega) ⟨Nat.le_of_ble_eq_true rfl, Nat.le_of_ble_eq_true rfl⟩ (n_X8 (d := d + 2) hc214 hn1 (by omega) z2) ?_
  obtain ⟨mr1, hm1⟩ : ∃ m, m = rX8 mr (n + 214) (n + 215) := ⟨_, rfl⟩
  rw [← hm1]
  have gf0_1 : mr1 h 1 = some (n + 45) := by rw [hm1]; exact (congrFun (rX8_lt (by omega) (by omega)) _).trans gf0_0
  obtain ⟨kd2, hk2⟩ : ∃ k, k = kd1 ++ kX8 := ⟨_, rfl⟩
  rw [← hk2]
  have hn2 : kd2.length = n + 221 := by rw [hk2, List.length_append, hn1]; rfl
  have hh0_2 := k_at hk2 hh0_1
  have hf1_2 := k_at hk2 hf1_1
  have hc214_2 := k_at hk2 hc214
  have z4 : Zz (n + 221) mi ml mr1 := by rw [hm1]; exact z_X8 z2 (by omega)
  refine wp_cs (cs' := 221) (ss' := 7758) rfl rfl ?_
  refine wp_putR (pc := 108) dX11_init_108 fl_X11_55 rfl ⟨rfl, (RX11, TX11, 11), rfl, rfl, tb_2 178 rfl rfl⟩ hh0_2 ?_
  obtain ⟨mr2, hm2⟩ : ∃ m, m = pm_up mr1 (h) 7 (some (n + 214)) := ⟨_, rfl⟩
  rw [← hm2]
  have gf0_2 : mr2 h 1 = some (n + 45) := by rw [hm2]; exact (pm_up_ne _ _ (by omega)).trans gf0_1
  have z5 : Zz (n + 221) mi ml mr2 := by rw [hm2]; exact z4.upR (by omega)
  have e1 : kd ++ KX11_8 = kd2 ++ KX11_9 := by rw [hk2, hk1]; simp only [List.append_assoc]; rfl
  have e2 : rX11_8 mr h n = mr2 := by rw [hm2, hm1]; rfl
  have e3 : RX11_8 mr h n = RX11_9 mr2 h n := congrArg (fun m => RX11_9 m h n) e2
  rw [e1, e3]
  exact n_X11_9 hh0_2 hf1_2 gf0_2 hn2 hlt z5
set_option maxHeartbeats 4000000 in
theorem n_X11_7 {l : Launch} {d h n : Nat} {kd : pm_K} {mi : pm_I} {ml : pm_L} {mr : pm_R} (hh0 : kd[h]? = some (0, 11)) (hf1 : kd[n + 45]? = some (5 + 3, 3)) (gf0_0 : mr h 1 = some (n + 45)) (hn0 : kd.length = n + 207) (hlt : h < n) (z0 : Zz (n + 207) mi ml mr) : wp l M_X11_init (d + 4) 234 25482 89 [some (.ref h), some (.int 3)] [] 207 6960 kd mi ml mr (qN (kd ++ KX11_7) (IX11_7 mi h n) ml (RX11_7 mr h n)) := by
  refine wp_aload_n (pc := 89) dX11_init_89 rfl ?_
  refine wp_new (pc := 90) (ci := 3) (C := RX3) (T := TX3) (mi' := mi) (ml' := ml) (mr' := mr) dX11_init_90 rfl ii_X3 tyX3_ok ⟨tb_2 46 rfl rfl, tb_2 47 rfl rfl, tb_1 9 rfl rfl⟩ (Nat.le_of_ble_eq_true rfl) (Nat.le_of_ble_eq_true rfl) (fun ad => fs_0 ad (z0 _ (Nat.le_of_eq hn0.symm)) (by decide)) (fun _ _ => rfl) (fun _ _ => rfl) (fun _ _ => rfl) (fun k e => e ▸ (z0 _ (Nat.le_of_eq hn0.symm)).2.2) (fun _ _ => rfl) ?_
  rw [hn0, show pm_N 3 = 8 from rfl]
  obtain ⟨kd1, hk1⟩ : ∃ k, k = kd ++ [(0, 3)] := ⟨_, rfl⟩
  rw [← hk1]
  have hn1 : kd1.length = n + 208 := by rw [hk1, List.length_append, hn0]; rfl
  have hh0_1 := k_at hk1 hh0
  have hf1_1 := k_at hk1 hf1
  have hc207 : kd1[n + 207]? = some (0, 3) := by rw [hk1]; exact k_new hn0
  have z2 : Zz (n + 208) mi ml mr := z0.mono (by omega)
  refine wp_cs (cs' := 208) (ss' := 6968) rfl rfl ?_
  refine wp_dup (pc := 93) dX11_init_93 rfl ?_
  refine wp_callN (pc := 94) (As := []) (b := n + 207) (d' := d + 3) (mc' := 6) (ms' := 82) dX11_init_94 ml_X11_47 in_X3_init rfl rfl (Nat.le_of_ble_eq_true rfl) (Nat.le_of_ble_eq_true rfl) (by omega) ⟨Nat.le_of_ble_eq_true rfl, Nat.le_of_ble_eq_true rfl⟩ (n_X3 (d := d + 1) hc207 hn1 (by omega) z2) ?_
  obtain ⟨mr1, hm1⟩ : ∃ m, m = rX3 mr (n + 207) (n + 208) := ⟨_, rfl⟩
  rw [← hm1]
  have gf0_1 : mr1 h 1 = some (n + 45) := by rw [hm1]; exact (congrFun (rX3_lt (by omega) (by omega)) _).trans gf0_0
  obtain ⟨kd2, hk2⟩ : ∃ k, k = kd1 ++ kX3 := ⟨_, rfl⟩
  rw [← hk2]
  have hn2 : kd2.length = n + 214 := by rw [hk2, List.length_append, hn1]; rfl
  have hh0_2 := k_at hk2 hh0_1
  have hf1_2 := k_at hk2 hf1_1
  have hc207_2 := k_at hk2 hc207
  have z4 : Zz (n + 214) mi ml mr1 := by rw [hm1]; exact z_X3 z2 (by omega)
  refine wp_cs (cs' := 214) (ss' := 7050) rfl rfl ?_
  refine wp_putR (pc := 97) dX11_init_97 fl_X11_48 rfl ⟨rfl, (RX11, TX11, 11), rfl, rfl, tb_2 177 rfl rfl⟩ hh0_2 ?_
  obtain ⟨mr2, hm2⟩ : ∃ m, m = pm_up mr1 (h) 6 (some (n + 207)) := ⟨_, rfl⟩
  rw [← hm2]
  have gf0_2 : mr2 h 1 = some (n + 45) := by rw [hm2]; exact (pm_up_ne _ _ (by omega)).trans gf0_1
  have z5 : Zz (n + 214) mi ml mr2 := by rw [hm2]; exact z4.upR (by omega)
  have e1 : kd ++ KX11_7 = kd2 ++ KX11_8 := by rw [hk2, hk1]; simp only [List.append_assoc]; rfl
  have e2 : rX11_7 mr h n = mr2 := by rw [hm2, hm1]; rfl
  have e3 : RX11_7 mr h n = RX11_8 mr2 h n := congrArg (fun m => RX11_8 m h n) e2
  rw [e1, e3]
  exact n_X11_8 hh0_2 hf1_2 gf0_2 hn2 hlt z5
set_option maxHeartbeats 4000000 in
theorem n_X11_6 {l : Launch} {d h n : Nat} {kd : pm_K} {mi : pm_I} {ml : pm_L} {mr : pm_R} (hh0 : kd[h]? = some (0, 11)) (hf1 : kd[n + 45]? = some (5 + 3, 3)) (gf0_0 : mr h 1 = some (n + 45)) (hn0 : kd.length = n + 201) (hlt : h < n) (z0 : Zz (n + 201) mi ml mr) : wp l M_X11_init (d + 4) 234 25482 78 [some (.ref h), some (.int 3)] [] 201 6761 kd mi ml mr (qN (kd ++ KX11_6) (IX11_6 mi h n) ml (RX11_6 mr h n)) := by
  refine wp_aload_n (pc := 78) dX11_init_78 rfl ?_
  refine wp_new (pc := 79) (ci := 1) (C := RX1) (T := TX1) (mi' := mi) (ml' := ml) (mr' := mr) dX11_init_79 rfl ii_X1 tyX1_ok ⟨tb_2 16 rfl rfl, tb_2 17 rfl rfl, tb_1 8 rfl rfl⟩ (Nat.le_of_ble_eq_true rfl) (Nat.le_of_ble_eq_true rfl) (fun ad => fs_0 ad (z0 _ (Nat.le_of_eq hn0.symm)) (by decide)) (fun _ _ => rfl) (fun _ _ => rfl) (fun _ _ => rfl) (fun k e => e ▸ (z0 _ (Nat.le_of_eq hn0.symm)).2.2) (fun _ _ => rfl) ?_
  rw [hn0, show pm_N 1 = 7 from rfl]
  obtain ⟨kd1, hk1⟩ : ∃ k, k = kd ++ [(0, 1)] := ⟨_, rfl⟩
  rw [← hk1]
  have hn1 : kd1.length = n + 202 := by rw [hk1, List.length_append, hn0]; rfl
  have hh0_1 := k_at hk1 hh0
  have hf1_1 := k_at hk1 hf1
  have hc201 : kd1[n + 201]? = some (0, 1) := by rw [hk1]; exact k_new hn0
  have z2 : Zz (n + 202) mi ml mr := z0.mono (by omega)
  refine wp_cs (cs' := 202) (ss' := 6768) rfl rfl ?_
  refine wp_dup (pc := 82) dX11_init_82 rfl ?_
  refine wp_callN (pc := 83) (As := []) (b := n + 201) (d' := d + 3) (mc' := 5) (ms' := 192) dX11_init_83 ml_X11_40 in_X1_init rfl rfl (Nat.le_of_ble_eq_true rfl) (Nat.le_of_ble_eq_true rfl) (by omega) ⟨Nat.le_of_ble_eq_true rfl, Nat.le_of_ble_eq_true rfl⟩ (n_X1 (d := d + 1) hc201 hn1 (by omega) z2) ?_
  obtain ⟨mr1, hm1⟩ : ∃ m, m = rX1 mr (n + 201) (n + 202) := ⟨_, rfl⟩
  rw [← hm1]
  have gf0_1 : mr1 h 1 = some (n + 45) := by rw [hm1]; exact (congrFun (rX1_lt (by omega) (by omega)) _).trans gf0_0
  obtain ⟨kd2, hk2⟩ : ∃ k, k = kd1 ++ kX1 := ⟨_, rfl⟩
  rw [← hk2]
  have hn2 : kd2.length = n + 207 := by rw [hk2, List.length_append, hn1]; rfl
  have hh0_2 := k_at hk2 hh0_1
  have hf1_2 := k_at hk2 hf1_1
  have hc201_2 := k_at hk2 hc201
  have z4 : Zz (n + 207) mi ml mr1 := by rw [hm1]; exact z_X1 z2 (by omega)
  refine wp_cs (cs' := 207) (ss' := 6960) rfl rfl ?_
  refine wp_putR (pc := 86) dX11_init_86 fl_X11_41 rfl ⟨rfl, (RX11, TX11, 11), rfl, rfl, tb_2 176 rfl rfl⟩ hh0_2 ?_
  obtain ⟨mr2, hm2⟩ : ∃ m, m = pm_up mr1 (h) 5 (some (n + 201)) := ⟨_, rfl⟩
  rw [← hm2]
  have gf0_2 : mr2 h 1 = some (n + 45) := by rw [hm2]; exact (pm_up_ne _ _ (by omega)).trans gf0_1
  have z5 : Zz (n + 207) mi ml mr2 := by rw [hm2]; exact z4.upR (by omega)
  have e1 : kd ++ KX11_6 = kd2 ++ KX11_7 := by rw [hk2, hk1]; simp only [List.append_assoc]; rfl
  have e2 : rX11_6 mr h n = mr2 := by rw [hm2, hm1]; rfl
  have e3 : RX11_6 mr h n = RX11_7 mr2 h n := congrArg (fun m => RX11_7 m h n) e2
  rw [e1, e3]
  exact n_X11_7 hh0_2 hf1_2 gf0_2 hn2 hlt z5
set_option maxHeartbeats 4000000 in
theorem n_X11_5 {l : Launch} {d h n : Nat} {kd : pm_K} {mi : pm_I} {ml : pm_L} {mr : pm_R} (hh0 : kd[h]? = some (0, 11)) (hf1 : kd[n + 45]? = some (5 + 3, 3)) (gf0_0 : mr h 1 = some (n + 45)) (hn0 : kd.length = n + 199) (hlt : h < n) (z0 : Zz (n + 199) mi ml mr) : wp l M_X11_init (d + 4) 234 25482 67 [some (.ref h), some (.int 3)] [] 199 6703 kd mi ml mr (qN (kd ++ KX11_5) (IX11_5 mi h n) ml (RX11_5 mr h n)) := by
  refine wp_aload_n (pc := 67) dX11_init_67 rfl ?_
  refine wp_new (pc := 68) (ci := 7) (C := RX7) (T := TX7) (mi' := mi) (ml' := ml) (mr' := mr) dX11_init_68 rfl ii_X7 tyX7_ok ⟨tb_2 5 rfl rfl, tb_2 6 rfl rfl, tb_1 7 rfl rfl⟩ (Nat.le_of_ble_eq_true rfl) (Nat.le_of_ble_eq_true rfl) (fun ad => fs_0 ad (z0 _ (Nat.le_of_eq hn0.symm)) (by decide)) (fun _ _ => rfl) (fun _ _ => rfl) (fun _ _ => rfl) (fun k e => e ▸ (z0 _ (Nat.le_of_eq hn0.symm)).2.2) (fun _ _ => rfl) ?_
  rw [hn0, show pm_N 7 = 1 from rfl]
  obtain ⟨kd1, hk1⟩ : ∃ k, k = kd ++ [(0, 7)] := ⟨_, rfl⟩
  rw [← hk1]
  have hn1 : kd1.length = n + 200 := by rw [hk1, List.length_append, hn0]; rfl
  have hh0_1 := k_at hk1 hh0
  have hf1_1 := k_at hk1 hf1
  have hc199 : kd1[n + 199]? = some (0, 7) := by rw [hk1]; exact k_new hn0
  have z2 : Zz (n + 200) mi ml mr := z0.mono (by omega)
  refine wp_cs (cs' := 200) (ss' := 6704) rfl rfl ?_
  refine wp_dup (pc := 71) dX11_init_71 rfl ?_
  refine wp_callN (pc := 72) (As := []) (b := n + 199) (d' := d + 3) (mc' := 1) (ms' := 57) dX11_init_72 ml_X11_33 in_X7_init rfl rfl (Nat.le_of_ble_eq_true rfl) (Nat.le_of_ble_eq_true rfl) (by omega) ⟨Nat.le_of_ble_eq_true rfl, Nat.le_of_ble_eq_true rfl⟩ (n_X7 (d := d + 2) hc199 hn1 (by omega) z2) ?_
  obtain ⟨mr1, hm1⟩ : ∃ m, m = rX7 mr (n + 199) (n + 200) := ⟨_, rfl⟩
  rw [← hm1]
  have gf0_1 : mr1 h 1 = some (n + 45) := by rw [hm1]; exact (congrFun (rX7_lt (by omega) (by omega)) _).trans gf0_0
  obtain ⟨kd2, hk2⟩ : ∃ k, k = kd1 ++ kX7 := ⟨_, rfl⟩
  rw [← hk2]
  have hn2 : kd2.length = n + 201 := by rw [hk2, List.length_append, hn1]; rfl
  have hh0_2 := k_at hk2 hh0_1
  have hf1_2 := k_at hk2 hf1_1
  have hc199_2 := k_at hk2 hc199
  have z4 : Zz (n + 201) mi ml mr1 := by rw [hm1]; exact z_X7 z2 (by omega)
  refine wp_cs (cs' := 201) (ss' := 6761) rfl rfl ?_
  refine wp_putR (pc := 75) dX11_init_75 fl_X11_34 rfl ⟨rfl, (RX11, TX11, 11), rfl, rfl, tb_2 175 rfl rfl⟩ hh0_2 ?_
  obtain ⟨mr2, hm2⟩ : ∃ m, m = pm_up mr1 (h) 4 (some (n + 199)) := ⟨_, rfl⟩
  rw [← hm2]
  have gf0_2 : mr2 h 1 = some (n + 45) := by rw [hm2]; exact (pm_up_ne _ _ (by omega)).trans gf0_1
  have z5 : Zz (n + 201) mi ml mr2 := by rw [hm2]; exact z4.upR (by omega)
  have e1 : kd ++ KX11_5 = kd2 ++ KX11_6 := by rw [hk2, hk1]; simp only [List.append_assoc]; rfl
  have e2 : rX11_5 mr h n = mr2 := by rw [hm2, hm1]; rfl
  have e3 : RX11_5 mr h n = RX11_6 mr2 h n := congrArg (fun m => RX11_6 m h n) e2
  rw [e1, e3]
  exact n_X11_6 hh0_2 hf1_2 gf0_2 hn2 hlt z5
set_option maxHeartbeats 4000000 in
theorem n_X11_4 {l : Launch} {d h n : Nat} {kd : pm_K} {mi : pm_I} {ml : pm_L} {mr : pm_R} (hh0 : kd[h]? = some (0, 11)) (hf1 : kd[n + 45]? = some (5 + 3, 3)) (gf0_0 : mr h 1 = some (n + 45)) (hn0 : kd.length = n + 181) (hlt : h < n) (z0 : Zz (n + 181) mi ml mr) : wp l M_X11_init (d + 4) 234 25482 43 [some (.ref h), some (.int 2)] [] 181 5799 kd mi ml mr (qN (kd ++ KX11_4) (IX11_4 mi h n) ml (RX11_4 mr h n)) := by
  refine wp_iinc (v := 3) (pc := 43) dX11_init_43 rfl (by decide) rfl ?_
  refine wp_goto (tgt := 25) (pc := 46) dX11_init_46 (by decide) ?_
  refine wp_iload_n (pc := 25) dX11_init_25 rfl ?_
  refine wp_iconst (v := 3) (pc := 26) dX11_init_26 (by decide) ?_
  refine wp_icmp_ge (tgt := 49) (pc := 27) dX11_init_27 (by decide) (fun _ => ?_) (fun c => absurd (by decide) c)
  refine wp_aload_n (pc := 49) dX11_init_49 rfl ?_
  refine wp_iconst (v := 3) (pc := 50) dX11_init_50 (by decide) ?_
  refine wp_newa (i := 0) (pc := 51) (t := 4) (N := 3) (mi' := mi) (ml' := ml) dX11_init_51 (by simp) (tb_2 4 rfl rfl) (by decide) rfl (by decide) (Nat.le_of_ble_eq_true rfl) (Nat.le_of_ble_eq_true rfl) (fun _ _ => rfl) (fun _ _ => rfl) (z0 _ (Nat.le_of_eq hn0.symm)).1 (z0 _ (Nat.le_of_eq hn0.symm)).2.1 ?_
  rw [hn0]
  obtain ⟨kd1, hk1⟩ : ∃ k, k = kd ++ [(4, 3)] := ⟨_, rfl⟩
  rw [← hk1]
  have hn1 : kd1.length = n + 182 := by rw [hk1, List.length_append, hn0]; rfl
  have hh0_1 := k_at hk1 hh0
  have hf1_1 := k_at hk1 hf1
  have hc181 : kd1[n + 181]? = some (4, 3) := by rw [hk1]; exact k_new hn0
  have z8 : Zz (n + 182) mi ml mr := z0.mono (by omega)
  refine wp_cs (cs' := 182) (ss' := 5802) rfl rfl ?_
  refine wp_putR (pc := 53) dX11_init_53 fl_X11_20 rfl ⟨rfl, (RX11, TX11, 11), rfl, rfl, tb_2 173 rfl rfl⟩ hh0_1 ?_
  obtain ⟨mr1, hm1⟩ : ∃ m, m = pm_up mr (h) 2 (some (n + 181)) := ⟨_, rfl⟩
  rw [← hm1]
  have gf0_1 : mr1 h 1 = some (n + 45) := by rw [hm1]; exact (pm_up_ne _ _ (by omega)).trans gf0_0
  have z9 : Zz (n + 182) mi ml mr1 := by rw [hm1]; exact z8.upR (by omega)
  refine wp_aload_n (pc := 56) dX11_init_56 rfl ?_
  refine wp_new (pc := 57) (ci := 5) (C := RX5) (T := TX5) (mi' := mi) (ml' := ml) (mr' := mr1) dX11_init_57 rfl ii_X5 tyX5_ok ⟨tb_1 193 rfl rfl, tb_1 194 rfl rfl, tb_1 6 rfl rfl⟩ (Nat.le_of_ble_eq_true rfl) (Nat.le_of_ble_eq_true rfl) (fun ad => fs_0 ad (z9 _ (Nat.le_of_eq hn1.symm)) (by decide)) (fun _ _ => rfl) (fun _ _ => rfl) (fun _ _ => rfl) (fun k e => e ▸ (z9 _ (Nat.le_of_eq hn1.symm)).2.2) (fun _ _ => rfl) ?_
  rw [hn1, show pm_N 5 = 11 from rfl]
  obtain ⟨kd2, hk2⟩ : ∃ k, k = kd1 ++ [(0, 5)] := ⟨_, rfl⟩
  rw [← hk2]
  have hn2 : kd2.length = n + 183 := by rw [hk2, List.length_append, hn1]; rfl
  have hh0_2 := k_at hk2 hh0_1
  have hf1_2 := k_at hk2 hf1_1
  have hc182 : kd2[n + 182]? = some (0, 5) := by rw [hk2]; exact k_new hn1
  have z11 : Zz (n + 183) mi ml mr1 := z9.mono (by omega)
  refine wp_cs (cs' := 183) (ss' := 5813) rfl rfl ?_
  refine wp_dup (pc := 60) dX11_init_60 rfl ?_
  refine wp_callN (pc := 61) (As := []) (b := n + 182) (d' := d + 3) (mc' := 16) (ms' := 890) dX11_init_61 ml_X11_26 in_X5_init rfl rfl (Nat.le_of_ble_eq_true rfl) (Nat.le_of_ble_eq_true rfl) (by omega) ⟨Nat.le_of_ble_eq_true rfl, Nat.le_of_ble_eq_true rfl⟩ (n_X5 (d := d + 0) hc182 hn2 (by omega) z11) ?_
  obtain ⟨mr2, hm2⟩ : ∃ m, m = rX5 mr1 (n + 182) (n + 183) := ⟨_, rfl⟩
  rw [← hm2]
  have gf0_2 : mr2 h 1 = some (n + 45) := by rw [hm2]; exact (congrFun (rX5_lt (by omega) (by omega)) _).trans gf0_1
  obtain ⟨kd3, hk3⟩ : ∃ k, k = kd2 ++ kX5 := ⟨_, rfl⟩
  rw [← hk3]
  have hn3 : kd3.length = n + 199 := by rw [hk3, List.length_append, hn2]; rfl
  have hh0_3 := k_at hk3 hh0_2
  have hf1_3 := k_at hk3 hf1_2
  have hc182_3 := k_at hk3 hc182
  have z13 : Zz (n + 199) mi ml mr2 := by rw [hm2]; exact z_X5 z11 (by omega)
  refine wp_cs (cs' := 199) (ss' := 6703) rfl rfl ?_
  refine wp_putR (pc := 64) dX11_init_64 fl_X11_27 rfl ⟨rfl, (RX11, TX11, 11), rfl, rfl, tb_2 174 rfl rfl⟩ hh0_3 ?_
  obtain ⟨mr3, hm3⟩ : ∃ m, m = pm_up mr2 (h) 3 (some (n + 182)) := ⟨_, rfl⟩
  rw [← hm3]
  have gf0_3 : mr3 h 1 = some (n + 45) := by rw [hm3]; exact (pm_up_ne _ _ (by omega)).trans gf0_2
  have z14 : Zz (n + 199) mi ml mr3 := by rw [hm3]; exact z13.upR (by omega)
  have e1 : kd ++ KX11_4 = kd3 ++ KX11_5 := by rw [hk3, hk2, hk1]; simp only [List.append_assoc]; rfl
  have e2 : rX11_4 mr h n = mr3 := by rw [hm3, hm2, hm1]; rfl
  have e3 : RX11_4 mr h n = RX11_5 mr3 h n := congrArg (fun m => RX11_5 m h n) e2
  rw [e1, e3]
  exact n_X11_5 hh0_3 hf1_3 gf0_3 hn3 hlt z14
set_option maxHeartbeats 4000000 in
theorem n_X11_3 {l : Launch} {d h n : Nat} {kd : pm_K} {mi : pm_I} {ml : pm_L} {mr : pm_R} (hh0 : kd[h]? = some (0, 11)) (hf1 : kd[n + 45]? = some (5 + 3, 3)) (gf0_0 : mr h 1 = some (n + 45)) (hn0 : kd.length = n + 136) (hlt : h < n) (z0 : Zz (n + 136) mi ml mr) : wp l M_X11_init (d + 4) 234 25482 43 [some (.ref h), some (.int 1)] [] 136 4350 kd mi ml mr (qN (kd ++ KX11_3) (IX11_3 mi h n) ml (RX11_3 mr h n)) := by
  refine wp_iinc (v := 2) (pc := 43) dX11_init_43 rfl (by decide) rfl ?_
  refine wp_goto (tgt := 25) (pc := 46) dX11_init_46 (by decide) ?_
  refine wp_iload_n (pc := 25) dX11_init_25 rfl ?_
  refine wp_iconst (v := 3) (pc := 26) dX11_init_26 (by decide) ?_
  refine wp_icmp_ge (tgt := 49) (pc := 27) dX11_init_27 (by decide) (fun c => absurd c (by decide)) (fun _ => ?_)
  refine wp_aload_n (pc := 30) dX11_init_30 rfl ?_
  refine wp_getR (a := n + 45) (pc := 31) dX11_init_31 fl_X11_16 rfl hh0 (gf0_0) ?_
  refine wp_iload_n (pc := 34) dX11_init_34 rfl ?_
  refine wp_new (pc := 35) (ci := 9) (C := RX9) (T := TX9) (mi' := mi) (ml' := ml) (mr' := mr) dX11_init_35 rfl ii_X9 tyX9_ok ⟨tb_1 31 rfl rfl, tb_1 32 rfl rfl, tb_1 2 rfl rfl⟩ (Nat.le_of_ble_eq_true rfl) (Nat.le_of_ble_eq_true rfl) (fun ad => fs_0 ad (z0 _ (Nat.le_of_eq hn0.symm)) (by decide)) (fun _ _ => rfl) (fun _ _ => rfl) (fun _ _ => rfl) (fun k e => e ▸ (z0 _ (Nat.le_of_eq hn0.symm)).2.2) (fun _ _ => rfl) ?_
  rw [hn0, show pm_N 9 = 9 from rfl]
  obtain ⟨kd1, hk1⟩ : ∃ k, k = kd ++ [(0, 9)] := ⟨_, rfl⟩
  rw [← hk1]
  have hn1 : kd1.length = n + 137 := by rw [hk1, List.length_append, hn0]; rfl
  have hh0_1 := k_at hk1 hh0
  have hf1_1 := k_at hk1 hf1
  have hc136 : kd1[n + 136]? = some (0, 9) := by rw [hk1]; exact k_new hn0
  have z9 : Zz (n + 137) mi ml mr := z0.mono (by omega)
  refine wp_cs (cs' := 137) (ss' := 4359) rfl rfl ?_
  refine wp_dup (pc := 38) dX11_init_38 rfl ?_
  refine wp_callN (pc := 39) (As := []) (b := n + 136) (d' := d + 3) (mc' := 44) (ms' := 1440) dX11_init_39 ml_X11_9 in_X9_init rfl rfl (Nat.le_of_ble_eq_true rfl) (Nat.le_of_ble_eq_true rfl) (by omega) ⟨Nat.le_of_ble_eq_true rfl, Nat.le_of_ble_eq_true rfl⟩ (n_X9 (d := d + 0) hc136 hn1 (by omega) z9) ?_
  obtain ⟨mr1, hm1⟩ : ∃ m, m = rX9 mr (n + 136) (n + 137) := ⟨_, rfl⟩
  rw [← hm1]
  have gf0_1 : mr1 h 1 = some (n + 45) := by rw [hm1]; exact (congrFun (rX9_lt (by omega) (by omega)) _).trans gf0_0
  obtain ⟨kd2, hk2⟩ : ∃ k, k = kd1 ++ kX9 := ⟨_, rfl⟩
  rw [← hk2]
  have hn2 : kd2.length = n + 181 := by rw [hk2, List.length_append, hn1]; rfl
  have hh0_2 := k_at hk2 hh0_1
  have hf1_2 := k_at hk2 hf1_1
  have hc136_2 := k_at hk2 hc136
  have z11 : Zz (n + 181) (iX9 mi (n + 136) (n + 137)) ml mr1 := by rw [hm1]; exact z_X9 z9 (by omega)
  refine wp_cs (cs' := 181) (ss' := 5799) rfl rfl ?_
  refine wp_aast (t := 3) (ci := 9) (pc := 42) dX11_init_42 (by simp) hf1_2 hc136_2 (vp_dec (by decide)) ?_
  rw [show Int32.toNatClampNeg 2 = 2 from rfl]
  obtain ⟨mr2, hm2⟩ : ∃ m, m = pm_up mr1 (n + 45) 2 (some (n + 136)) := ⟨_, rfl⟩
  rw [← hm2]
  have gf0_2 : mr2 h 1 = some (n + 45) := by rw [hm2]; exact (pm_up_ne _ _ (by omega)).trans gf0_1
  have z12 : Zz (n + 181) (iX9 mi (n + 136) (n + 137)) ml mr2 := by rw [hm2]; exact z11.upR (by omega)
  have e1 : kd ++ KX11_3 = kd2 ++ KX11_4 := by rw [hk2, hk1]; simp only [List.append_assoc]; rfl
  have e2 : rX11_3 mr h n = mr2 := by rw [hm2, hm1]; rfl
  have e3 : RX11_3 mr h n = RX11_4 mr2 h n := congrArg (fun m => RX11_4 m h n) e2
  rw [e1, e3]
  exact n_X11_4 hh0_2 hf1_2 gf0_2 hn2 hlt z12
set_option maxHeartbeats 4000000 in
theorem n_X11_2 {l : Launch} {d h n : Nat} {kd : pm_K} {mi : pm_I} {ml : pm_L} {mr : pm_R} (hh0 : kd[h]? = some (0, 11)) (hf1 : kd[n + 45]? = some (5 + 3, 3)) (gf0_0 : mr h 1 = some (n + 45)) (hn0 : kd.length = n + 91) (hlt : h < n) (z0 : Zz (n + 91) mi ml mr) : wp l M_X11_init (d + 4) 234 25482 43 [some (.ref h), some (.int 0)] [] 91 2901 kd mi ml mr (qN (kd ++ KX11_2) (IX11_2 mi h n) ml (RX11_2 mr h n)) := by
  refine wp_iinc (v := 1) (pc := 43) dX11_init_43 rfl (by decide) rfl ?_
  refine wp_goto (tgt := 25) (pc := 46) dX11_init_46 (by decide) ?_
  refine wp_iload_n (pc := 25) dX11_init_25 rfl ?_
  refine wp_iconst (v := 3) (pc := 26) dX11_init_26 (by decide) ?_
  refine wp_icmp_ge (tgt := 49) (pc := 27) dX11_init_27 (by decide) (fun c => absurd c (by decide)) (fun _ => ?_)
  refine wp_aload_n (pc := 30) dX11_init_30 rfl ?_
  refine wp_getR (a := n + 45) (pc := 31) dX11_init_31 fl_X11_16 rfl hh0 (gf0_0) ?_
  refine wp_iload_n (pc := 34) dX11_init_34 rfl ?_
  refine wp_new (pc := 35) (ci := 9) (C := RX9) (T := TX9) (mi' := mi) (ml' := ml) (mr' := mr) dX11_init_35 rfl ii_X9 tyX9_ok ⟨tb_1 31 rfl rfl, tb_1 32 rfl rfl, tb_1 2 rfl rfl⟩ (Nat.le_of_ble_eq_true rfl) (Nat.le_of_ble_eq_true rfl) (fun ad => fs_0 ad (z0 _ (Nat.le_of_eq hn0.symm)) (by decide)) (fun _ _ => rfl) (fun _ _ => rfl) (fun _ _ => rfl) (fun k e => e ▸ (z0 _ (Nat.le_of_eq hn0.symm)).2.2) (fun _ _ => rfl) ?_
  rw [hn0, show pm_N 9 = 9 from rfl]
  obtain ⟨kd1, hk1⟩ : ∃ k, k = kd ++ [(0, 9)] := ⟨_, rfl⟩
  rw [← hk1]
  have hn1 : kd1.length = n + 92 := by rw [hk1, List.length_append, hn0]; rfl
  have hh0_1 := k_at hk1 hh0
  have hf1_1 := k_at hk1 hf1
  have hc91 : kd1[n + 91]? = some (0, 9) := by rw [hk1]; exact k_new hn0
  have z9 : Zz (n + 92) mi ml mr := z0.mono (by omega)
  refine wp_cs (cs' := 92) (ss' := 2910) rfl rfl ?_
  refine wp_dup (pc := 38) dX11_init_38 rfl ?_
  refine wp_callN (pc := 39) (As := []) (b := n + 91) (d' := d + 3) (mc' := 44) (ms' := 1440) dX11_init_39 ml_X11_9 in_X9_init rfl rfl (Nat.le_of_ble_eq_true rfl) (Nat.le_of_ble_eq_true rfl) (by omega) ⟨Nat.le_of_ble_eq_true rfl, Nat.le_of_ble_eq_true rfl⟩ (n_X9 (d := d + 0) hc91 hn1 (by omega) z9) ?_
  obtain ⟨mr1, hm1⟩ : ∃ m, m = rX9 mr (n + 91) (n + 92) := ⟨_, rfl⟩
  rw [← hm1]
  have gf0_1 : mr1 h 1 = some (n + 45) := by rw [hm1]; exact (congrFun (rX9_lt (by omega) (by omega)) _).trans gf0_0
  obtain ⟨kd2, hk2⟩ : ∃ k, k = kd1 ++ kX9 := ⟨_, rfl⟩
  rw [← hk2]
  have hn2 : kd2.length = n + 136 := by rw [hk2, List.length_append, hn1]; rfl
  have hh0_2 := k_at hk2 hh0_1
  have hf1_2 := k_at hk2 hf1_1
  have hc91_2 := k_at hk2 hc91
  have z11 : Zz (n + 136) (iX9 mi (n + 91) (n + 92)) ml mr1 := by rw [hm1]; exact z_X9 z9 (by omega)
  refine wp_cs (cs' := 136) (ss' := 4350) rfl rfl ?_
  refine wp_aast (t := 3) (ci := 9) (pc := 42) dX11_init_42 (by simp) hf1_2 hc91_2 (vp_dec (by decide)) ?_
  rw [show Int32.toNatClampNeg 1 = 1 from rfl]
  obtain ⟨mr2, hm2⟩ : ∃ m, m = pm_up mr1 (n + 45) 1 (some (n + 91)) := ⟨_, rfl⟩
  rw [← hm2]
  have gf0_2 : mr2 h 1 = some (n + 45) := by rw [hm2]; exact (pm_up_ne _ _ (by omega)).trans gf0_1
  have z12 : Zz (n + 136) (iX9 mi (n + 91) (n + 92)) ml mr2 := by rw [hm2]; exact z11.upR (by omega)
  have e1 : kd ++ KX11_2 = kd2 ++ KX11_3 := by rw [hk2, hk1]; simp only [List.append_assoc]; rfl
  have e2 : rX11_2 mr h n = mr2 := by rw [hm2, hm1]; rfl
  have e3 : RX11_2 mr h n = RX11_3 mr2 h n := congrArg (fun m => RX11_3 m h n) e2
  rw [e1, e3]
  exact n_X11_3 hh0_2 hf1_2 gf0_2 hn2 hlt z12
set_option maxHeartbeats 4000000 in
theorem n_X11_1 {l : Launch} {d h n : Nat} {kd : pm_K} {mi : pm_I} {ml : pm_L} {mr : pm_R} (hh0 : kd[h]? = some (0, 11))  (hn0 : kd.length = n + 45) (hlt : h < n) (z0 : Zz (n + 45) mi ml mr) : wp l M_X11_init (d + 4) 234 25482 15 [some (.ref h), none] [] 45 1449 kd mi ml mr (qN (kd ++ KX11_1) (IX11_1 mi h n) ml (RX11_1 mr h n)) := by
  refine wp_aload_n (pc := 15) dX11_init_15 rfl ?_
  refine wp_iconst (v := 3) (pc := 16) dX11_init_16 (by decide) ?_
  refine wp_newq (pc := 17) (t := 3) (C := RX9) (N := 3) (mr' := mr) dX11_init_17 (by simp) (tb_1 31 rfl rfl) (by decide) rfl (by decide) (Nat.le_of_ble_eq_true rfl) (Nat.le_of_ble_eq_true rfl) (fun _ _ => rfl) (z0 _ (Nat.le_of_eq hn0.symm)).2.2 ?_
  rw [hn0]
  obtain ⟨kd1, hk1⟩ : ∃ k, k = kd ++ [(8, 3)] := ⟨_, rfl⟩
  rw [← hk1]
  have hn1 : kd1.length = n + 46 := by rw [hk1, List.length_append, hn0]; rfl
  have hh0_1 := k_at hk1 hh0
  have hc45 : kd1[n + 45]? = some (5 + 3, 3) := by rw [hk1]; exact k_new hn0
  have z3 : Zz (n + 46) mi ml mr := z0.mono (by omega)
  refine wp_cs (cs' := 46) (ss' := 1452) rfl rfl ?_
  refine wp_putR (pc := 20) dX11_init_20 fl_X11_16 rfl ⟨rfl, (RX11, TX11, 11), rfl, rfl, tb_2 172 rfl rfl⟩ hh0_1 ?_
  obtain ⟨mr1, hm1⟩ : ∃ m, m = pm_up mr (h) 1 (some (n + 45)) := ⟨_, rfl⟩
  rw [← hm1]
  have g1_1 : mr1 h 1 = some (n + 45) := by rw [hm1]; exact pm_up_s _ _ _ _
  have z4 : Zz (n + 46) mi ml mr1 := by rw [hm1]; exact z3.upR (by omega)
  refine wp_iconst (v := 0) (pc := 23) dX11_init_23 (by decide) ?_
  refine wp_istore_n (pc := 24) dX11_init_24 (by show 1 < 2; decide) rfl ?_
  refine wp_iload_n (pc := 25) dX11_init_25 rfl ?_
  refine wp_iconst (v := 3) (pc := 26) dX11_init_26 (by decide) ?_
  refine wp_icmp_ge (tgt := 49) (pc := 27) dX11_init_27 (by decide) (fun c => absurd c (by decide)) (fun _ => ?_)
  refine wp_aload_n (pc := 30) dX11_init_30 rfl ?_
  refine wp_getR (a := n + 45) (pc := 31) dX11_init_31 fl_X11_16 rfl hh0_1 (g1_1) ?_
  refine wp_iload_n (pc := 34) dX11_init_34 rfl ?_
  refine wp_new (pc := 35) (ci := 9) (C := RX9) (T := TX9) (mi' := mi) (ml' := ml) (mr' := mr1) dX11_init_35 rfl ii_X9 tyX9_ok ⟨tb_1 31 rfl rfl, tb_1 32 rfl rfl, tb_1 2 rfl rfl⟩ (Nat.le_of_ble_eq_true rfl) (Nat.le_of_ble_eq_true rfl) (fun ad => fs_0 ad (z4 _ (Nat.le_of_eq hn1.symm)) (by decide)) (fun _ _ => rfl) (fun _ _ => rfl) (fun _ _ => rfl) (fun k e => e ▸ (z4 _ (Nat.le_of_eq hn1.symm)).2.2) (fun _ _ => rfl) ?_
  rw [hn1, show pm_N 9 = 9 from rfl]
  obtain ⟨kd2, hk2⟩ : ∃ k, k = kd1 ++ [(0, 9)] := ⟨_, rfl⟩
  rw [← hk2]
  have hn2 : kd2.length = n + 47 := by rw [hk2, List.length_append, hn1]; rfl
  have hh0_2 := k_at hk2 hh0_1
  have hc45_2 := k_at hk2 hc45
  have hc46 : kd2[n + 46]? = some (0, 9) := by rw [hk2]; exact k_new hn1
  have z13 : Zz (n + 47) mi ml mr1 := z4.mono (by omega)
  refine wp_cs (cs' := 47) (ss' := 1461) rfl rfl ?_
  refine wp_dup (pc := 38) dX11_init_38 rfl ?_
  refine wp_callN (pc := 39) (As := []) (b := n + 46) (d' := d + 3) (mc' := 44) (ms' := 1440) dX11_init_39 ml_X11_9 in_X9_init rfl rfl (Nat.le_of_ble_eq_true rfl) (Nat.le_of_ble_eq_true rfl) (by omega) ⟨Nat.le_of_ble_eq_true rfl, Nat.le_of_ble_eq_true rfl⟩ (n_X9 (d := d + 0) hc46 hn2 (by omega) z13) ?_
  obtain ⟨mr2, hm2⟩ : ∃ m, m = rX9 mr1 (n + 46) (n + 47) := ⟨_, rfl⟩
  rw [← hm2]
  have g1_2 : mr2 h 1 = some (n + 45) := by rw [hm2]; exact (congrFun (rX9_lt (by omega) (by omega)) _).trans g1_1
  obtain ⟨kd3, hk3⟩ : ∃ k, k = kd2 ++ kX9 := ⟨_, rfl⟩
  rw [← hk3]
  have hn3 : kd3.length = n + 91 := by rw [hk3, List.length_append, hn2]; rfl
  have hh0_3 := k_at hk3 hh0_2
  have hc45_3 := k_at hk3 hc45_2
  have hc46_3 := k_at hk3 hc46
  have z15 : Zz (n + 91) (iX9 mi (n + 46) (n + 47)) ml mr2 := by rw [hm2]; exact z_X9 z13 (by omega)
  refine wp_cs (cs' := 91) (ss' := 2901) rfl rfl ?_
  refine wp_aast (t := 3) (ci := 9) (pc := 42) dX11_init_42 (by simp) hc45_3 hc46_3 (vp_dec (by decide)) ?_
  rw [show Int32.toNatClampNeg 0 = 0 from rfl]
  obtain ⟨mr3, hm3⟩ : ∃ m, m = pm_up mr2 (n + 45) 0 (some (n + 46)) := ⟨_, rfl⟩
  rw [← hm3]
  have g1_3 : mr3 h 1 = some (n + 45) := by rw [hm3]; exact (pm_up_ne _ _ (by omega)).trans g1_2
  have z16 : Zz (n + 91) (iX9 mi (n + 46) (n + 47)) ml mr3 := by rw [hm3]; exact z15.upR (by omega)
  have e1 : kd ++ KX11_1 = kd3 ++ KX11_2 := by rw [hk3, hk2, hk1]; simp only [List.append_assoc]; rfl
  have e2 : rX11_1 mr h n = mr3 := by rw [hm3, hm2, hm1]; rfl
  have e3 : RX11_1 mr h n = RX11_2 mr3 h n := congrArg (fun m => RX11_2 m h n) e2
  rw [e1, e3]
  exact n_X11_2 hh0_3 hc45_3 g1_3 hn3 hlt z16
set_option maxHeartbeats 4000000 in
theorem n_X11_0 {l : Launch} {d h n : Nat} {kd : pm_K} {mi : pm_I} {ml : pm_L} {mr : pm_R} (hh0 : kd[h]? = some (0, 11))  (hn0 : kd.length = n) (hlt : h < n) (z0 : Zz (n) mi ml mr) : wp l M_X11_init (d + 4) 234 25482 0 [some (.ref h), none] [] 0 0 kd mi ml mr (qN (kd ++ KX11_0) (IX11_0 mi h n) ml (RX11_0 mr h n)) := by
  refine wp_aload_n (pc := 0) dX11_init_0 rfl ?_
  refine wp_objInit (pc := 1) dX11_init_1 ⟨tb_1 28 rfl rfl, tb_1 29 rfl rfl, tb_1 30 rfl rfl⟩ (Nat.succ_pos _) (Nat.le_of_ble_eq_true rfl) ?_
  refine wp_aload_n (pc := 4) dX11_init_4 rfl ?_
  refine wp_new (pc := 5) (ci := 9) (C := RX9) (T := TX9) (mi' := mi) (ml' := ml) (mr' := mr) dX11_init_5 rfl ii_X9 tyX9_ok ⟨tb_1 31 rfl rfl, tb_1 32 rfl rfl, tb_1 2 rfl rfl⟩ (Nat.le_of_ble_eq_true rfl) (Nat.le_of_ble_eq_true rfl) (fun ad => fs_0 ad (z0 _ (Nat.le_of_eq hn0.symm)) (by decide)) (fun _ _ => rfl) (fun _ _ => rfl) (fun _ _ => rfl) (fun k e => e ▸ (z0 _ (Nat.le_of_eq hn0.symm)).2.2) (fun _ _ => rfl) ?_
  rw [hn0, show pm_N 9 = 9 from rfl]
  obtain ⟨kd1, hk1⟩ : ∃ k, k = kd ++ [(0, 9)] := ⟨_, rfl⟩
  rw [← hk1]
  have hn1 : kd1.length = n + 1 := by rw [hk1, List.length_append, hn0]; rfl
  have hh0_1 := k_at hk1 hh0
  have hc0 : kd1[n]? = some (0, 9) := by rw [hk1]; exact k_new hn0
  have z4 : Zz (n + 1) mi ml mr := z0.mono (by omega)
  refine wp_cs (cs' := 1) (ss' := 9) rfl rfl ?_
  refine wp_dup (pc := 8) dX11_init_8 rfl ?_
  refine wp_callN (pc := 9) (As := []) (b := n) (d' := d + 3) (mc' := 44) (ms' := 1440) dX11_init_9 ml_X11_9 in_X9_init rfl rfl (Nat.le_of_ble_eq_true rfl) (Nat.le_of_ble_eq_true rfl) (by omega) ⟨Nat.le_of_ble_eq_true rfl, Nat.le_of_ble_eq_true rfl⟩ (n_X9 (d := d + 0) hc0 hn1 (by omega) z4) ?_
  obtain ⟨mr1, hm1⟩ : ∃ m, m = rX9 mr (n) (n + 1) := ⟨_, rfl⟩
  rw [← hm1]
  obtain ⟨kd2, hk2⟩ : ∃ k, k = kd1 ++ kX9 := ⟨_, rfl⟩
  rw [← hk2]
  have hn2 : kd2.length = n + 45 := by rw [hk2, List.length_append, hn1]; rfl
  have hh0_2 := k_at hk2 hh0_1
  have hc0_2 := k_at hk2 hc0
  have z6 : Zz (n + 45) (iX9 mi (n) (n + 1)) ml mr1 := by rw [hm1]; exact z_X9 z4 (by omega)
  refine wp_cs (cs' := 45) (ss' := 1449) rfl rfl ?_
  refine wp_putR (pc := 12) dX11_init_12 fl_X11_10 rfl ⟨rfl, (RX11, TX11, 11), rfl, rfl, tb_2 171 rfl rfl⟩ hh0_2 ?_
  obtain ⟨mr2, hm2⟩ : ∃ m, m = pm_up mr1 (h) 0 (some (n)) := ⟨_, rfl⟩
  rw [← hm2]
  have z7 : Zz (n + 45) (iX9 mi (n) (n + 1)) ml mr2 := by rw [hm2]; exact z6.upR (by omega)
  have e1 : kd ++ KX11_0 = kd2 ++ KX11_1 := by rw [hk2, hk1]; simp only [List.append_assoc]; rfl
  have e2 : rX11_0 mr h n = mr2 := by rw [hm2, hm1]; rfl
  have e3 : RX11_0 mr h n = RX11_1 mr2 h n := congrArg (fun m => RX11_1 m h n) e2
  rw [e1, e3]
  exact n_X11_1 hh0_2 hn2 hlt z7
theorem n_X11 {l : Launch} {d h n : Nat} {kd : pm_K} {mi : pm_I} {ml : pm_L} {mr : pm_R} (hh0 : kd[h]? = some (0, 11)) (hn0 : kd.length = n) (hlt : h < n) (z0 : Zz n mi ml mr) : wpc l M_X11_init (d + 4) 234 25482 [.ref h] kd mi ml mr (qN (kd ++ kX11) (iX11 mi h n) ml (rX11 mr h n)) := n_X11_0 hh0 hn0 hlt z0
theorem z_X11 {h n : Nat} {mi : pm_I} {ml : pm_L} {mr : pm_R} (z : Zz n mi ml mr) (hlt : h < n) : Zz (n + 234) (iX11 mi h n) ml (rX11 mr h n) := by
  have z := z.mono (Nat.le_add_right n 234)
  intro k hk
  obtain ⟨e1, e2, e3⟩ := z k hk
  refine ⟨?_, e2, ?_⟩
  · rw [iX11_ge (by omega) (by omega)]; exact e1
  · rw [rX11_ge (by omega) (by omega)]; exact e3
