/-! constructors, by program (gen/mk70.py) -/
def rX9 (mr : pm_R) (h n : Nat) : pm_R := (pm_up (rX6 (pm_up (rX10 (pm_up (rX6 (pm_up (rX0 (pm_up (rX6 (pm_up (rX10 (pm_up (rX6 (pm_up (rX0 (pm_up (pm_up (pm_up (pm_up (pm_up (pm_up mr (h) 0 (some (n))) (h) 4 (some (n + 1))) (h) 5 (some (n + 2))) (h) 6 (some (n + 3))) (h) 7 (some (n + 4))) (h) 8 (some (n + 5))) (n + 6) (n + 7)) (n + 2) 0 (some (n + 6))) (n + 12) (n + 13)) (n + 3) 0 (some (n + 12))) (n + 16) (n + 17)) (n + 4) 0 (some (n + 16))) (n + 21) (n + 22)) (n + 5) 0 (some (n + 21))) (n + 25) (n + 26)) (n + 2) 1 (some (n + 25))) (n + 31) (n + 32)) (n + 3) 1 (some (n + 31))) (n + 35) (n + 36)) (n + 4) 1 (some (n + 35))) (n + 40) (n + 41)) (n + 5) 1 (some (n + 40)))
def iX9 (mi : pm_I) (h n : Nat) : pm_I := (pm_up mi h 3 (-1))
def kX9 : pm_K := [(3, 600)] ++ ([(1, 4)] ++ ([(5, 2)] ++ ([(6, 2)] ++ ([(7, 2)] ++ ([(6, 2)] ++ ([(0, 0)] ++ (kX0 ++ ([(0, 6)] ++ (kX6 ++ ([(0, 10)] ++ (kX10 ++ ([(0, 6)] ++ (kX6 ++ ([(0, 0)] ++ (kX0 ++ ([(0, 6)] ++ (kX6 ++ ([(0, 10)] ++ (kX10 ++ ([(0, 6)] ++ (kX6)))))))))))))))))))))
theorem rX9_ge {h n a : Nat} {mr : pm_R} (hlt : h < n) (ha : n + 44 ≤ a) : rX9 mr h n a = mr a := by
  unfold rX9; rw [pm_up_row _ _ (by omega), rX6_ge (by omega) (by omega), pm_up_row _ _ (by omega), rX10_ge (by omega) (by omega), pm_up_row _ _ (by omega), rX6_ge (by omega) (by omega), pm_up_row _ _ (by omega), rX0_ge (by omega) (by omega), pm_up_row _ _ (by omega), rX6_ge (by omega) (by omega), pm_up_row _ _ (by omega), rX10_ge (by omega) (by omega), pm_up_row _ _ (by omega), rX6_ge (by omega) (by omega), pm_up_row _ _ (by omega), rX0_ge (by omega) (by omega), pm_up_row _ _ (by omega), pm_up_row _ _ (by omega), pm_up_row _ _ (by omega), pm_up_row _ _ (by omega), pm_up_row _ _ (by omega), pm_up_row _ _ (by omega)]
theorem rX9_lt {h n a : Nat} {mr : pm_R} (hlt : h < n) (ha : a < h) : rX9 mr h n a = mr a := by
  unfold rX9; rw [pm_up_row _ _ (by omega), rX6_lt (by omega) (by omega), pm_up_row _ _ (by omega), rX10_lt (by omega) (by omega), pm_up_row _ _ (by omega), rX6_lt (by omega) (by omega), pm_up_row _ _ (by omega), rX0_lt (by omega) (by omega), pm_up_row _ _ (by omega), rX6_lt (by omega) (by omega), pm_up_row _ _ (by omega), rX10_lt (by omega) (by omega), pm_up_row _ _ (by omega), rX6_lt (by omega) (by omega), pm_up_row _ _ (by omega), rX0_lt (by omega) (by omega), pm_up_row _ _ (by omega), pm_up_row _ _ (by omega), pm_up_row _ _ (by omega), pm_up_row _ _ (by omega), pm_up_row _ _ (by omega), pm_up_row _ _ (by omega)]
theorem iX9_ge {h n a : Nat} {mi : pm_I} (hlt : h < n) (ha : n + 44 ≤ a) : iX9 mi h n a = mi a := by
  unfold iX9; rw [pm_up_row _ _ (by omega)]
theorem iX9_lt {h n a : Nat} {mi : pm_I} (hlt : h < n) (ha : a < h) : iX9 mi h n a = mi a := by
  unfold iX9; rw [pm_up_row _ _ (by omega)]
theorem n_X9 {l : Launch} {d h n : Nat} {kd : pm_K} {mi : pm_I} {ml : pm_L} {mr : pm_R} (hh0 : kd[h]? = some (0, 9)) (hn0 : kd.length = n) (hlt : h < n) (z0 : Zz n mi ml mr) : wpc l M_X9_init (d + 3) 44 1440 [.ref h] kd mi ml mr (qN (kd ++ kX9) (iX9 mi h n) ml (rX9 mr h n)) := by
  show wp l M_X9_init (d + 3) 44 1440 0 [some (.ref h), none] [] 0 0 kd mi ml mr _
  refine wp_aload_n (pc := 0) dX9_init_0 rfl ?_
  refine wp_objInit (pc := 1) dX9_init_1 ⟨tb_1 36 rfl rfl, tb_1 29 rfl rfl, tb_1 30 rfl rfl⟩ (Nat.succ_pos _) (Nat.le_of_ble_eq_true rfl) ?_
  refine wp_aload_n (pc := 4) dX9_init_4 rfl ?_
  refine wp_sipush (v := 600) (pc := 5) dX9_init_5 (by decide) ?_
  refine wp_newa (i := 0) (pc := 8) (t := 3) (N := 600) (mi' := mi) (ml' := ml) dX9_init_8 (by simp) (tb_1 107 rfl rfl) (by decide) rfl (by decide) (Nat.le_of_ble_eq_true rfl) (Nat.le_of_ble_eq_true rfl) (fun _ _ => rfl) (fun _ _ => rfl) (z0 _ (Nat.le_of_eq hn0.symm)).1 (z0 _ (Nat.le_of_eq hn0.symm)).2.1 ?_
  rw [hn0]
  obtain ⟨kd1, hk1⟩ : ∃ k, k = kd ++ [(3, 600)] := ⟨_, rfl⟩
  rw [← hk1]
  have hn1 : kd1.length = n + 1 := by rw [hk1, List.length_append, hn0]; rfl
  have hc0 : kd1[n]? = some (3, 600) := by rw [hk1]; exact k_new hn0
  have z5 : Zz (n + 1) mi ml mr := z0.mono (by omega)
  refine wp_putR (pc := 10) dX9_init_10 fl_X9_9 rfl ⟨rfl, (RX9, TX9, 9), rfl, rfl, tb_1 160 rfl rfl⟩ (by rw [hk1]; exact k_app hh0) ?_
  have z6 : Zz (n + 1) mi ml (pm_up mr (h) 0 (some (n))) := z5.upR (by omega)
  refine wp_aload_n (pc := 13) dX9_init_13 rfl ?_
  refine wp_iconst (v := -1) (pc := 14) dX9_init_14 (by decide) ?_
  refine wp_putI (pc := 15) dX9_init_15 fl_X9_15 rfl rfl (by rw [hk1]; exact k_app hh0) ?_
  have z9 : Zz (n + 1) (pm_up mi h 3 (-1)) ml (pm_up mr (h) 0 (some (n))) := z6.upI (by omega)
  refine wp_aload_n (pc := 18) dX9_init_18 rfl ?_
  refine wp_iconst (v := 4) (pc := 19) dX9_init_19 (by decide) ?_
  refine wp_newa (i := 0) (pc := 20) (t := 1) (N := 4) (mi' := (pm_up mi h 3 (-1))) (ml' := ml) dX9_init_20 (by simp) (tb_1 108 rfl rfl) (by decide) rfl (by decide) (Nat.le_of_ble_eq_true rfl) (Nat.le_of_ble_eq_true rfl) (fun _ _ => rfl) (fun _ _ => rfl) (z9 _ (Nat.le_of_eq hn1.symm)).1 (z9 _ (Nat.le_of_eq hn1.symm)).2.1 ?_
  rw [hn1]
  obtain ⟨kd2, hk2⟩ : ∃ k, k = kd1 ++ [(1, 4)] := ⟨_, rfl⟩
  rw [← hk2]
  have hn2 : kd2.length = n + 2 := by rw [hk2, List.length_append, hn1]; rfl
  have hc1 : kd2[n + 1]? = some (1, 4) := by rw [hk2]; exact k_new hn1
  have z12 : Zz (n + 2) (pm_up mi h 3 (-1)) ml (pm_up mr (h) 0 (some (n))) := z9.mono (by omega)
  refine wp_putR (pc := 22) dX9_init_22 fl_X9_19 rfl ⟨rfl, (RX9, TX9, 9), rfl, rfl, tb_1 168 rfl rfl⟩ (by rw [hk2]; exact k_app (by rw [hk1]; exact k_app hh0)) ?_
  have z13 : Zz (n + 2) (pm_up mi h 3 (-1)) ml (pm_up (pm_up mr (h) 0 (some (n))) (h) 4 (some (n + 1))) := z12.upR (by omega)
  refine wp_aload_n (pc := 25) dX9_init_25 rfl ?_
  refine wp_iconst (v := 2) (pc := 26) dX9_init_26 (by decide) ?_
  refine wp_newq (pc := 27) (t := 0) (C := RX0) (N := 2) (mr' := (pm_up (pm_up mr (h) 0 (some (n))) (h) 4 (some (n + 1)))) dX9_init_27 (by simp) (tb_1 37 rfl rfl) (by decide) rfl (by decide) (Nat.le_of_ble_eq_true rfl) (Nat.le_of_ble_eq_true rfl) (fun _ _ => rfl) (z13 _ (Nat.le_of_eq hn2.symm)).2.2 ?_
  rw [hn2]
  obtain ⟨kd3, hk3⟩ : ∃ k, k = kd2 ++ [(5, 2)] := ⟨_, rfl⟩
  rw [← hk3]
  have hn3 : kd3.length = n + 3 := by rw [hk3, List.length_append, hn2]; rfl
  have hc2 : kd3[n + 2]? = some (5 + 0, 2) := by rw [hk3]; exact k_new hn2
  have z16 : Zz (n + 3) (pm_up mi h 3 (-1)) ml (pm_up (pm_up mr (h) 0 (some (n))) (h) 4 (some (n + 1))) := z13.mono (by omega)
  refine wp_putR (pc := 30) dX9_init_30 fl_X9_25 rfl ⟨rfl, (RX9, TX9, 9), rfl, rfl, tb_1 169 rfl rfl⟩ (by rw [hk3]; exact k_app (by rw [hk2]; exact k_app (by rw [hk1]; exact k_app hh0))) ?_
  have z17 : Zz (n + 3) (pm_up mi h 3 (-1)) ml (pm_up (pm_up (pm_up mr (h) 0 (some (n))) (h) 4 (some (n + 1))) (h) 5 (some (n + 2))) := z16.upR (by omega)
  refine wp_aload_n (pc := 33) dX9_init_33 rfl ?_
  refine wp_iconst (v := 2) (pc := 34) dX9_init_34 (by decide) ?_
  refine wp_newq (pc := 35) (t := 1) (C := RX6) (N := 2) (mr' := (pm_up (pm_up (pm_up mr (h) 0 (some (n))) (h) 4 (some (n + 1))) (h) 5 (some (n + 2)))) dX9_init_35 (by simp) (tb_1 39 rfl rfl) (by decide) rfl (by decide) (Nat.le_of_ble_eq_true rfl) (Nat.le_of_ble_eq_true rfl) (fun _ _ => rfl) (z17 _ (Nat.le_of_eq hn3.symm)).2.2 ?_
  rw [hn3]
  obtain ⟨kd4, hk4⟩ : ∃ k, k = kd3 ++ [(6, 2)] := ⟨_, rfl⟩
  rw [← hk4]
  have hn4 : kd4.length = n + 4 := by rw [hk4, List.length_append, hn3]; rfl
  have hc3 : kd4[n + 3]? = some (5 + 1, 2) := by rw [hk4]; exact k_new hn3
  have z20 : Zz (n + 4) (pm_up mi h 3 (-1)) ml (pm_up (pm_up (pm_up mr (h) 0 (some (n))) (h) 4 (some (n + 1))) (h) 5 (some (n + 2))) := z17.mono (by omega)
  refine wp_putR (pc := 38) dX9_init_38 fl_X9_31 rfl ⟨rfl, (RX9, TX9, 9), rfl, rfl, tb_1 170 rfl rfl⟩ (by rw [hk4]; exact k_app (by rw [hk3]; exact k_app (by rw [hk2]; exact k_app (by rw [hk1]; exact k_app hh0)))) ?_
  have z21 : Zz (n + 4) (pm_up mi h 3 (-1)) ml (pm_up (pm_up (pm_up (pm_up mr (h) 0 (some (n))) (h) 4 (some (n + 1))) (h) 5 (some (n + 2))) (h) 6 (some (n + 3))) := z20.upR (by omega)
  refine wp_aload_n (pc := 41) dX9_init_41 rfl ?_
  refine wp_iconst (v := 2) (pc := 42) dX9_init_42 (by decide) ?_
  refine wp_newq (pc := 43) (t := 2) (C := RX10) (N := 2) (mr' := (pm_up (pm_up (pm_up (pm_up mr (h) 0 (some (n))) (h) 4 (some (n + 1))) (h) 5 (some (n + 2))) (h) 6 (some (n + 3)))) dX9_init_43 (by simp) (tb_1 41 rfl rfl) (by decide) rfl (by decide) (Nat.le_of_ble_eq_true rfl) (Nat.le_of_ble_eq_true rfl) (fun _ _ => rfl) (z21 _ (Nat.le_of_eq hn4.symm)).2.2 ?_
  rw [hn4]
  obtain ⟨kd5, hk5⟩ : ∃ k, k = kd4 ++ [(7, 2)] := ⟨_, rfl⟩
  rw [← hk5]
  have hn5 : kd5.length = n + 5 := by rw [hk5, List.length_append, hn4]; rfl
  have hc4 : kd5[n + 4]? = some (5 + 2, 2) := by rw [hk5]; exact k_new hn4
  have z24 : Zz (n + 5) (pm_up mi h 3 (-1)) ml (pm_up (pm_up (pm_up (pm_up mr (h) 0 (some (n))) (h) 4 (some (n + 1))) (h) 5 (some (n + 2))) (h) 6 (some (n + 3))) := z21.mono (by omega)
  refine wp_putR (pc := 46) dX9_init_46 fl_X9_37 rfl ⟨rfl, (RX9, TX9, 9), rfl, rfl, tb_1 171 rfl rfl⟩ (by rw [hk5]; exact k_app (by rw [hk4]; exact k_app (by rw [hk3]; exact k_app (by rw [hk2]; exact k_app (by rw [hk1]; exact k_app hh0))))) ?_
  have z25 : Zz (n + 5) (pm_up mi h 3 (-1)) ml (pm_up (pm_up (pm_up (pm_up (pm_up mr (h) 0 (some (n))) (h) 4 (some (n + 1))) (h) 5 (some (n + 2))) (h) 6 (some (n + 3))) (h) 7 (some (n + 4))) := z24.upR (by omega)
  refine wp_aload_n (pc := 49) dX9_init_49 rfl ?_
  refine wp_iconst (v := 2) (pc := 50) dX9_init_50 (by decide) ?_
  refine wp_newq (pc := 51) (t := 1) (C := RX6) (N := 2) (mr' := (pm_up (pm_up (pm_up (pm_up (pm_up mr (h) 0 (some (n))) (h) 4 (some (n + 1))) (h) 5 (some (n + 2))) (h) 6 (some (n + 3))) (h) 7 (some (n + 4)))) dX9_init_51 (by simp) (tb_1 39 rfl rfl) (by decide) rfl (by decide) (Nat.le_of_ble_eq_true rfl) (Nat.le_of_ble_eq_true rfl) (fun _ _ => rfl) (z25 _ (Nat.le_of_eq hn5.symm)).2.2 ?_
  rw [hn5]
  obtain ⟨kd6, hk6⟩ : ∃ k, k = kd5 ++ [(6, 2)] := ⟨_, rfl⟩
  rw [← hk6]
  have hn6 : kd6.length = n + 6 := by rw [hk6, List.length_append, hn5]; rfl
  have hc5 : kd6[n + 5]? = some (5 + 1, 2) := by rw [hk6]; exact k_new hn5
  have z28 : Zz (n + 6) (pm_up mi h 3 (-1)) ml (pm_up (pm_up (pm_up (pm_up (pm_up mr (h) 0 (some (n))) (h) 4 (some (n + 1))) (h) 5 (some (n + 2))) (h) 6 (some (n + 3))) (h) 7 (some (n + 4))) := z25.mono (by omega)
  refine wp_putR (pc := 54) dX9_init_54 fl_X9_41 rfl ⟨rfl, (RX9, TX9, 9), rfl, rfl, tb_1 172 rfl rfl⟩ (by rw [hk6]; exact k_app (by rw [hk5]; exact k_app (by rw [hk4]; exact k_app (by rw [hk3]; exact k_app (by rw [hk2]; exact k_app (by rw [hk1]; exact k_app hh0)))))) ?_
  have z29 : Zz (n + 6) (pm_up mi h 3 (-1)) ml (pm_up (pm_up (pm_up (pm_up (pm_up (pm_up mr (h) 0 (some (n))) (h) 4 (some (n + 1))) (h) 5 (some (n + 2))) (h) 6 (some (n + 3))) (h) 7 (some (n + 4))) (h) 8 (some (n + 5))) := z28.upR (by omega)
  refine wp_iconst (v := 0) (pc := 57) dX9_init_57 (by decide) ?_
  refine wp_istore_n (pc := 58) dX9_init_58 (by show 1 < 2; decide) rfl ?_
  refine wp_iload_n (pc := 59) dX9_init_59 rfl ?_
  refine wp_iconst (v := 2) (pc := 60) dX9_init_60 (by decide) ?_
  refine wp_icmp_ge (tgt := 122) (pc := 61) dX9_init_61 (by decide) (fun c => absurd c (by decide)) (fun _ => ?_)
  refine wp_aload_n (pc := 64) dX9_init_64 rfl ?_
  refine wp_getR (a := n + 2) (pc := 65) dX9_init_65 fl_X9_25 rfl (by rw [hk6]; exact k_app (by rw [hk5]; exact k_app (by rw [hk4]; exact k_app (by rw [hk3]; exact k_app (by rw [hk2]; exact k_app (by rw [hk1]; exact k_app hh0)))))) ((pm_up_ne _ _ (by omega)).trans ((pm_up_ne _ _ (by omega)).trans ((pm_up_ne _ _ (by omega)).trans (pm_up_s _ _ _ _)))) ?_
  refine wp_iload_n (pc := 68) dX9_init_68 rfl ?_
  refine wp_new (pc := 69) (ci := 0) (C := RX0) (T := TX0) (mi' := (pm_up mi h 3 (-1))) (ml' := ml) (mr' := (pm_up (pm_up (pm_up (pm_up (pm_up (pm_up mr (h) 0 (some (n))) (h) 4 (some (n + 1))) (h) 5 (some (n + 2))) (h) 6 (some (n + 3))) (h) 7 (some (n + 4))) (h) 8 (some (n + 5)))) dX9_init_69 rfl ii_X0 tyX0_ok ⟨tb_1 37 rfl rfl, tb_1 43 rfl rfl, tb_1 3 rfl rfl⟩ (Nat.le_of_ble_eq_true rfl) (Nat.le_of_ble_eq_true rfl) (fun ad => fs_0 ad (z29 _ (Nat.le_of_eq hn6.symm)) (by decide)) (fun _ _ => rfl) (fun _ _ => rfl) (fun _ _ => rfl) (fun k e => e ▸ (z29 _ (Nat.le_of_eq hn6.symm)).2.2) (fun _ _ => rfl) ?_
  rw [hn6]
  obtain ⟨kd7, hk7⟩ : ∃ k, k = kd6 ++ [(0, 0)] := ⟨_, rfl⟩
  rw [← hk7]
  have hn7 : kd7.length = n + 7 := by rw [hk7, List.length_append, hn6]; rfl
  have hc6 : kd7[n + 6]? = some (0, 0) := by rw [hk7]; exact k_new hn6
  have z38 : Zz (n + 7) (pm_up mi h 3 (-1)) ml (pm_up (pm_up (pm_up (pm_up (pm_up (pm_up mr (h) 0 (some (n))) (h) 4 (some (n + 1))) (h) 5 (some (n + 2))) (h) 6 (some (n + 3))) (h) 7 (some (n + 4))) (h) 8 (some (n + 5))) := z29.mono (by omega)
  refine wp_dup (pc := 72) dX9_init_72 rfl ?_
  refine wp_callI (pc := 73) (As := []) (b := n + 6) (d' := d + 2) (mc' := 5) (ms' := 28) dX9_init_73 ml_X9_44 in_X0_init rfl rfl (Nat.le_of_ble_eq_true rfl) (Nat.le_of_ble_eq_true rfl) (by omega) ⟨Nat.le_of_ble_eq_true rfl, Nat.le_of_ble_eq_true rfl⟩ (n_X0 (d := d + 1) hc6 hn7 (by omega) z38) ?_
  rintro _ _ _ _ _ ⟨rfl, rfl, rfl, rfl, rfl⟩ _
  obtain ⟨kd8, hk8⟩ : ∃ k, k = kd7 ++ kX0 := ⟨_, rfl⟩
  rw [← hk8]
  have hn8 : kd8.length = n + 12 := by rw [hk8, List.length_append, hn7]; rfl
  have z40 : Zz (n + 12) (pm_up mi h 3 (-1)) ml (rX0 (pm_up (pm_up (pm_up (pm_up (pm_up (pm_up mr (h) 0 (some (n))) (h) 4 (some (n + 1))) (h) 5 (some (n + 2))) (h) 6 (some (n + 3))) (h) 7 (some (n + 4))) (h) 8 (some (n + 5))) (n + 6) (n + 7)) := z_X0 z38 (by omega)
  simp only [Option.toList, List.nil_append]
  refine wp_aast (t := 0) (ci := 0) (pc := 76) dX9_init_76 (by simp) (by rw [hk8]; exact k_app (by rw [hk7]; exact k_app (by rw [hk6]; exact k_app (by rw [hk5]; exact k_app (by rw [hk4]; exact k_app hc2))))) (by rw [hk8]; exact k_app hc6) (vp_dec (by decide)) ?_
  have z41 : Zz (n + 12) (pm_up mi h 3 (-1)) ml (pm_up (rX0 (pm_up (pm_up (pm_up (pm_up (pm_up (pm_up mr (h) 0 (some (n))) (h) 4 (some (n + 1))) (h) 5 (some (n + 2))) (h) 6 (some (n + 3))) (h) 7 (some (n + 4))) (h) 8 (some (n + 5))) (n + 6) (n + 7)) (n + 2) 0 (some (n + 6))) := z40.upR (by omega)
  refine wp_aload_n (pc := 77) dX9_init_77 rfl ?_
  refine wp_getR (a := n + 3) (pc := 78) dX9_init_78 fl_X9_31 rfl (by rw [hk8]; exact k_app (by rw [hk7]; exact k_app (by rw [hk6]; exact k_app (by rw [hk5]; exact k_app (by rw [hk4]; exact k_app (by rw [hk3]; exact k_app (by rw [hk2]; exact k_app (by rw [hk1]; exact k_app hh0)))))))) ((pm_up_ne _ _ (by omega)).trans ((congrFun (rX0_lt (by omega) (by omega)) _).trans ((pm_up_ne _ _ (by omega)).trans ((pm_up_ne _ _ (by omega)).trans (pm_up_s _ _ _ _))))) ?_
  refine wp_iload_n (pc := 81) dX9_init_81 rfl ?_
  refine wp_new (pc := 82) (ci := 6) (C := RX6) (T := TX6) (mi' := (pm_up mi h 3 (-1))) (ml' := ml) (mr' := (pm_up (rX0 (pm_up (pm_up (pm_up (pm_up (pm_up (pm_up mr (h) 0 (some (n))) (h) 4 (some (n + 1))) (h) 5 (some (n + 2))) (h) 6 (some (n + 3))) (h) 7 (some (n + 4))) (h) 8 (some (n + 5))) (n + 6) (n + 7)) (n + 2) 0 (some (n + 6)))) dX9_init_82 rfl ii_X6 tyX6_ok ⟨tb_1 39 rfl rfl, tb_1 109 rfl rfl, tb_1 4 rfl rfl⟩ (Nat.le_of_ble_eq_true rfl) (Nat.le_of_ble_eq_true rfl) (fun ad => fs_0 ad (z41 _ (Nat.le_of_eq hn8.symm)) (by decide)) (fun _ _ => rfl) (fun _ _ => rfl) (fun _ _ => rfl) (fun k e => e ▸ (z41 _ (Nat.le_of_eq hn8.symm)).2.2) (fun _ _ => rfl) ?_
  rw [hn8]
  obtain ⟨kd9, hk9⟩ : ∃ k, k = kd8 ++ [(0, 6)] := ⟨_, rfl⟩
  rw [← hk9]
  have hn9 : kd9.length = n + 13 := by rw [hk9, List.length_append, hn8]; rfl
  have hc12 : kd9[n + 12]? = some (0, 6) := by rw [hk9]; exact k_new hn8
  have z45 : Zz (n + 13) (pm_up mi h 3 (-1)) ml (pm_up (rX0 (pm_up (pm_up (pm_up (pm_up (pm_up (pm_up mr (h) 0 (some (n))) (h) 4 (some (n + 1))) (h) 5 (some (n + 2))) (h) 6 (some (n + 3))) (h) 7 (some (n + 4))) (h) 8 (some (n + 5))) (n + 6) (n + 7)) (n + 2) 0 (some (n + 6))) := z41.mono (by omega)
  refine wp_dup (pc := 85) dX9_init_85 rfl ?_
  refine wp_callI (pc := 86) (As := []) (b := n + 12) (d' := d + 2) (mc' := 3) (ms' := 120) dX9_init_86 ml_X9_45 in_X6_init rfl rfl (Nat.le_of_ble_eq_true rfl) (Nat.le_of_ble_eq_true rfl) (by omega) ⟨Nat.le_of_ble_eq_true rfl, Nat.le_of_ble_eq_true rfl⟩ (n_X6 (d := d + 1) hc12 hn9 (by omega) z45) ?_
  rintro _ _ _ _ _ ⟨rfl, rfl, rfl, rfl, rfl⟩ _
  obtain ⟨kd10, hk10⟩ : ∃ k, k = kd9 ++ kX6 := ⟨_, rfl⟩
  rw [← hk10]
  have hn10 : kd10.length = n + 16 := by rw [hk10, List.length_append, hn9]; rfl
  have z47 : Zz (n + 16) (pm_up mi h 3 (-1)) ml (rX6 (pm_up (rX0 (pm_up (pm_up (pm_up (pm_up (pm_up (pm_up mr (h) 0 (some (n))) (h) 4 (some (n + 1))) (h) 5 (some (n + 2))) (h) 6 (some (n + 3))) (h) 7 (some (n + 4))) (h) 8 (some (n + 5))) (n + 6) (n + 7)) (n + 2) 0 (some (n + 6))) (n + 12) (n + 13)) := z_X6 z45 (by omega)
  simp only [Option.toList, List.nil_append]
  refine wp_aast (t := 1) (ci := 6) (pc := 89) dX9_init_89 (by simp) (by rw [hk10]; exact k_app (by rw [hk9]; exact k_app (by rw [hk8]; exact k_app (by rw [hk7]; exact k_app (by rw [hk6]; exact k_app (by rw [hk5]; exact k_app hc3)))))) (by rw [hk10]; exact k_app hc12) (vp_dec (by decide)) ?_
  have z48 : Zz (n + 16) (pm_up mi h 3 (-1)) ml (pm_up (rX6 (pm_up (rX0 (pm_up (pm_up (pm_up (pm_up (pm_up (pm_up mr (h) 0 (some (n))) (h) 4 (some (n + 1))) (h) 5 (some (n + 2))) (h) 6 (some (n + 3))) (h) 7 (some (n + 4))) (h) 8 (some (n + 5))) (n + 6) (n + 7)) (n + 2) 0 (some (n + 6))) (n + 12) (n + 13)) (n + 3) 0 (some (n + 12))) := z47.upR (by omega)
  refine wp_aload_n (pc := 90) dX9_init_90 rfl ?_
  refine wp_getR (a := n + 4) (pc := 91) dX9_init_91 fl_X9_37 rfl (by rw [hk10]; exact k_app (by rw [hk9]; exact k_app (by rw [hk8]; exact k_app (by rw [hk7]; exact k_app (by rw [hk6]; exact k_app (by rw [hk5]; exact k_app (by rw [hk4]; exact k_app (by rw [hk3]; exact k_app (by rw [hk2]; exact k_app (by rw [hk1]; exact k_app hh0)))))))))) ((pm_up_ne _ _ (by omega)).trans ((congrFun (rX6_lt (by omega) (by omega)) _).trans ((pm_up_ne _ _ (by omega)).trans ((congrFun (rX0_lt (by omega) (by omega)) _).trans ((pm_up_ne _ _ (by omega)).trans (pm_up_s _ _ _ _)))))) ?_
  refine wp_iload_n (pc := 94) dX9_init_94 rfl ?_
  refine wp_new (pc := 95) (ci := 10) (C := RX10) (T := TX10) (mi' := (pm_up mi h 3 (-1))) (ml' := ml) (mr' := (pm_up (rX6 (pm_up (rX0 (pm_up (pm_up (pm_up (pm_up (pm_up (pm_up mr (h) 0 (some (n))) (h) 4 (some (n + 1))) (h) 5 (some (n + 2))) (h) 6 (some (n + 3))) (h) 7 (some (n + 4))) (h) 8 (some (n + 5))) (n + 6) (n + 7)) (n + 2) 0 (some (n + 6))) (n + 12) (n + 13)) (n + 3) 0 (some (n + 12)))) dX9_init_95 rfl ii_X10 tyX10_ok ⟨tb_1 41 rfl rfl, tb_1 140 rfl rfl, tb_1 5 rfl rfl⟩ (Nat.le_of_ble_eq_true rfl) (Nat.le_of_ble_eq_true rfl) (fun ad => fs_0 ad (z48 _ (Nat.le_of_eq hn10.symm)) (by decide)) (fun _ _ => rfl) (fun _ _ => rfl) (fun _ _ => rfl) (fun k e => e ▸ (z48 _ (Nat.le_of_eq hn10.symm)).2.2) (fun _ _ => rfl) ?_
  rw [hn10]
  obtain ⟨kd11, hk11⟩ : ∃ k, k = kd10 ++ [(0, 10)] := ⟨_, rfl⟩
  rw [← hk11]
  have hn11 : kd11.length = n + 17 := by rw [hk11, List.length_append, hn10]; rfl
  have hc16 : kd11[n + 16]? = some (0, 10) := by rw [hk11]; exact k_new hn10
  have z52 : Zz (n + 17) (pm_up mi h 3 (-1)) ml (pm_up (rX6 (pm_up (rX0 (pm_up (pm_up (pm_up (pm_up (pm_up (pm_up mr (h) 0 (some (n))) (h) 4 (some (n + 1))) (h) 5 (some (n + 2))) (h) 6 (some (n + 3))) (h) 7 (some (n + 4))) (h) 8 (some (n + 5))) (n + 6) (n + 7)) (n + 2) 0 (some (n + 6))) (n + 12) (n + 13)) (n + 3) 0 (some (n + 12))) := z48.mono (by omega)
  refine wp_dup (pc := 98) dX9_init_98 rfl ?_
  refine wp_callI (pc := 99) (As := []) (b := n + 16) (d' := d + 2) (mc' := 4) (ms' := 124) dX9_init_99 ml_X9_46 in_X10_init rfl rfl (Nat.le_of_ble_eq_true rfl) (Nat.le_of_ble_eq_true rfl) (by omega) ⟨Nat.le_of_ble_eq_true rfl, Nat.le_of_ble_eq_true rfl⟩ (n_X10 (d := d + 0) hc16 hn11 (by omega) z52) ?_
  rintro _ _ _ _ _ ⟨rfl, rfl, rfl, rfl, rfl⟩ _
  obtain ⟨kd12, hk12⟩ : ∃ k, k = kd11 ++ kX10 := ⟨_, rfl⟩
  rw [← hk12]
  have hn12 : kd12.length = n + 21 := by rw [hk12, List.length_append, hn11]; rfl
  have z54 : Zz (n + 21) (pm_up mi h 3 (-1)) ml (rX10 (pm_up (rX6 (pm_up (rX0 (pm_up (pm_up (pm_up (pm_up (pm_up (pm_up mr (h) 0 (some (n))) (h) 4 (some (n + 1))) (h) 5 (some (n + 2))) (h) 6 (some (n + 3))) (h) 7 (some (n + 4))) (h) 8 (some (n + 5))) (n + 6) (n + 7)) (n + 2) 0 (some (n + 6))) (n + 12) (n + 13)) (n + 3) 0 (some (n + 12))) (n + 16) (n + 17)) := z_X10 z52 (by omega)
  simp only [Option.toList, List.nil_append]
  refine wp_aast (t := 2) (ci := 10) (pc := 102) dX9_init_102 (by simp) (by rw [hk12]; exact k_app (by rw [hk11]; exact k_app (by rw [hk10]; exact k_app (by rw [hk9]; exact k_app (by rw [hk8]; exact k_app (by rw [hk7]; exact k_app (by rw [hk6]; exact k_app hc4))))))) (by rw [hk12]; exact k_app hc16) (vp_dec (by decide)) ?_
  have z55 : Zz (n + 21) (pm_up mi h 3 (-1)) ml (pm_up (rX10 (pm_up (rX6 (pm_up (rX0 (pm_up (pm_up (pm_up (pm_up (pm_up (pm_up mr (h) 0 (some (n))) (h) 4 (some (n + 1))) (h) 5 (some (n + 2))) (h) 6 (some (n + 3))) (h) 7 (some (n + 4))) (h) 8 (some (n + 5))) (n + 6) (n + 7)) (n + 2) 0 (some (n + 6))) (n + 12) (n + 13)) (n + 3) 0 (some (n + 12))) (n + 16) (n + 17)) (n + 4) 0 (some (n + 16))) := z54.upR (by omega)
  refine wp_aload_n (pc := 103) dX9_init_103 rfl ?_
  refine wp_getR (a := n + 5) (pc := 104) dX9_init_104 fl_X9_41 rfl (by rw [hk12]; exact k_app (by rw [hk11]; exact k_app (by rw [hk10]; exact k_app (by rw [hk9]; exact k_app (by rw [hk8]; exact k_app (by rw [hk7]; exact k_app (by rw [hk6]; exact k_app (by rw [hk5]; exact k_app (by rw [hk4]; exact k_app (by rw [hk3]; exact k_app (by rw [hk2]; exact k_app (by rw [hk1]; exact k_app hh0)))))))))))) ((pm_up_ne _ _ (by omega)).trans ((congrFun (rX10_lt (by omega) (by omega)) _).trans ((pm_up_ne _ _ (by omega)).trans ((congrFun (rX6_lt (by omega) (by omega)) _).trans ((pm_up_ne _ _ (by omega)).trans ((congrFun (rX0_lt (by omega) (by omega)) _).trans (pm_up_s _ _ _ _))))))) ?_
  refine wp_iload_n (pc := 107) dX9_init_107 rfl ?_
  refine wp_new (pc := 108) (ci := 6) (C := RX6) (T := TX6) (mi' := (pm_up mi h 3 (-1))) (ml' := ml) (mr' := (pm_up (rX10 (pm_up (rX6 (pm_up (rX0 (pm_up (pm_up (pm_up (pm_up (pm_up (pm_up mr (h) 0 (some (n))) (h) 4 (some (n + 1))) (h) 5 (some (n + 2))) (h) 6 (some (n + 3))) (h) 7 (some (n + 4))) (h) 8 (some (n + 5))) (n + 6) (n + 7)) (n + 2) 0 (some (n + 6))) (n + 12) (n + 13)) (n + 3) 0 (some (n + 12))) (n + 16) (n + 17)) (n + 4) 0 (some (n + 16)))) dX9_init_108 rfl ii_X6 tyX6_ok ⟨tb_1 39 rfl rfl, tb_1 109 rfl rfl, tb_1 4 rfl rfl⟩ (Nat.le_of_ble_eq_true rfl) (Nat.le_of_ble_eq_true rfl) (fun ad => fs_0 ad (z55 _ (Nat.le_of_eq hn12.symm)) (by decide)) (fun _ _ => rfl) (fun _ _ => rfl) (fun _ _ => rfl) (fun k e => e ▸ (z55 _ (Nat.le_of_eq hn12.symm)).2.2) (fun _ _ => rfl) ?_
  rw [hn12]
  obtain ⟨kd13, hk13⟩ : ∃ k, k = kd12 ++ [(0, 6)] := ⟨_, rfl⟩
  rw [← hk13]
  have hn13 : kd13.length = n + 22 := by rw [hk13, List.length_append, hn12]; rfl
  have hc21 : kd13[n + 21]? = some (0, 6) := by rw [hk13]; exact k_new hn12
  have z59 : Zz (n + 22) (pm_up mi h 3 (-1)) ml (pm_up (rX10 (pm_up (rX6 (pm_up (rX0 (pm_up (pm_up (pm_up (pm_up (pm_up (pm_up mr (h) 0 (some (n))) (h) 4 (some (n + 1))) (h) 5 (some (n + 2))) (h) 6 (some (n + 3))) (h) 7 (some (n + 4))) (h) 8 (some (n + 5))) (n + 6) (n + 7)) (n + 2) 0 (some (n + 6))) (n + 12) (n + 13)) (n + 3) 0 (some (n + 12))) (n + 16) (n + 17)) (n + 4) 0 (some (n + 16))) := z55.mono (by omega)
  refine wp_dup (pc := 111) dX9_init_111 rfl ?_
  refine wp_callI (pc := 112) (As := []) (b := n + 21) (d' := d + 2) (mc' := 3) (ms' := 120) dX9_init_112 ml_X9_45 in_X6_init rfl rfl (Nat.le_of_ble_eq_true rfl) (Nat.le_of_ble_eq_true rfl) (by omega) ⟨Nat.le_of_ble_eq_true rfl, Nat.le_of_ble_eq_true rfl⟩ (n_X6 (d := d + 1) hc21 hn13 (by omega) z59) ?_
  rintro _ _ _ _ _ ⟨rfl, rfl, rfl, rfl, rfl⟩ _
  obtain ⟨kd14, hk14⟩ : ∃ k, k = kd13 ++ kX6 := ⟨_, rfl⟩
  rw [← hk14]
  have hn14 : kd14.length = n + 25 := by rw [hk14, List.length_append, hn13]; rfl
  have z61 : Zz (n + 25) (pm_up mi h 3 (-1)) ml (rX6 (pm_up (rX10 (pm_up (rX6 (pm_up (rX0 (pm_up (pm_up (pm_up (pm_up (pm_up (pm_up mr (h) 0 (some (n))) (h) 4 (some (n + 1))) (h) 5 (some (n + 2))) (h) 6 (some (n + 3))) (h) 7 (some (n + 4))) (h) 8 (some (n + 5))) (n + 6) (n + 7)) (n + 2) 0 (some (n + 6))) (n + 12) (n + 13)) (n + 3) 0 (some (n + 12))) (n + 16) (n + 17)) (n + 4) 0 (some (n + 16))) (n + 21) (n + 22)) := z_X6 z59 (by omega)
  simp only [Option.toList, List.nil_append]
  refine wp_aast (t := 1) (ci := 6) (pc := 115) dX9_init_115 (by simp) (by rw [hk14]; exact k_app (by rw [hk13]; exact k_app (by rw [hk12]; exact k_app (by rw [hk11]; exact k_app (by rw [hk10]; exact k_app (by rw [hk9]; exact k_app (by rw [hk8]; exact k_app (by rw [hk7]; exact k_app hc5)))))))) (by rw [hk14]; exact k_app hc21) (vp_dec (by decide)) ?_
  have z62 : Zz (n + 25) (pm_up mi h 3 (-1)) ml (pm_up (rX6 (pm_up (rX10 (pm_up (rX6 (pm_up (rX0 (pm_up (pm_up (pm_up (pm_up (pm_up (pm_up mr (h) 0 (some (n))) (h) 4 (some (n + 1))) (h) 5 (some (n + 2))) (h) 6 (some (n + 3))) (h) 7 (some (n + 4))) (h) 8 (some (n + 5))) (n + 6) (n + 7)) (n + 2) 0 (some (n + 6))) (n + 12) (n + 13)) (n + 3) 0 (some (n + 12))) (n + 16) (n + 17)) (n + 4) 0 (some (n + 16))) (n + 21) (n + 22)) (n + 5) 0 (some (n + 21))) := z61.upR (by omega)
  refine wp_iinc (v := 1) (pc := 116) dX9_init_116 rfl (by decide) rfl ?_
  refine wp_goto (tgt := 59) (pc := 119) dX9_init_119 (by decide) ?_
  refine wp_iload_n (pc := 59) dX9_init_59 rfl ?_
  refine wp_iconst (v := 2) (pc := 60) dX9_init_60 (by decide) ?_
  refine wp_icmp_ge (tgt := 122) (pc := 61) dX9_init_61 (by decide) (fun c => absurd c (by decide)) (fun _ => ?_)
  refine wp_aload_n (pc := 64) dX9_init_64 rfl ?_
  refine wp_getR (a := n + 2) (pc := 65) dX9_init_65 fl_X9_25 rfl (by rw [hk14]; exact k_app (by rw [hk13]; exact k_app (by rw [hk12]; exact k_app (by rw [hk11]; exact k_app (by rw [hk10]; exact k_app (by rw [hk9]; exact k_app (by rw [hk8]; exact k_app (by rw [hk7]; exact k_app (by rw [hk6]; exact k_app (by rw [hk5]; exact k_app (by rw [hk4]; exact k_app (by rw [hk3]; exact k_app (by rw [hk2]; exact k_app (by rw [hk1]; exact k_app hh0)))))))))))))) ((pm_up_ne _ _ (by omega)).trans ((congrFun (rX6_lt (by omega) (by omega)) _).trans ((pm_up_ne _ _ (by omega)).trans ((congrFun (rX10_lt (by omega) (by omega)) _).trans ((pm_up_ne _ _ (by omega)).trans ((congrFun (rX6_lt (by omega) (by omega)) _).trans ((pm_up_ne _ _ (by omega)).trans ((congrFun (rX0_lt (by omega) (by omega)) _).trans ((pm_up_ne _ _ (by omega)).trans ((pm_up_ne _ _ (by omega)).trans ((pm_up_ne _ _ (by omega)).trans (pm_up_s _ _ _ _)))))))))))) ?_
  refine wp_iload_n (pc := 68) dX9_init_68 rfl ?_
  refine wp_new (pc := 69) (ci := 0) (C := RX0) (T := TX0) (mi' := (pm_up mi h 3 (-1))) (ml' := ml) (mr' := (pm_up (rX6 (pm_up (rX10 (pm_up (rX6 (pm_up (rX0 (pm_up (pm_up (pm_up (pm_up (pm_up (pm_up mr (h) 0 (some (n))) (h) 4 (some (n + 1))) (h) 5 (some (n + 2))) (h) 6 (some (n + 3))) (h) 7 (some (n + 4))) (h) 8 (some (n + 5))) (n + 6) (n + 7)) (n + 2) 0 (some (n + 6))) (n + 12) (n + 13)) (n + 3) 0 (some (n + 12))) (n + 16) (n + 17)) (n + 4) 0 (some (n + 16))) (n + 21) (n + 22)) (n + 5) 0 (some (n + 21)))) dX9_init_69 rfl ii_X0 tyX0_ok ⟨tb_1 37 rfl rfl, tb_1 43 rfl rfl, tb_1 3 rfl rfl⟩ (Nat.le_of_ble_eq_true rfl) (Nat.le_of_ble_eq_true rfl) (fun ad => fs_0 ad (z62 _ (Nat.le_of_eq hn14.symm)) (by decide)) (fun _ _ => rfl) (fun _ _ => rfl) (fun _ _ => rfl) (fun k e => e ▸ (z62 _ (Nat.le_of_eq hn14.symm)).2.2) (fun _ _ => rfl) ?_
  rw [hn14]
  obtain ⟨kd15, hk15⟩ : ∃ k, k = kd14 ++ [(0, 0)] := ⟨_, rfl⟩
  rw [← hk15]
  have hn15 : kd15.length = n + 26 := by rw [hk15, List.length_append, hn14]; rfl
  have hc25 : kd15[n + 25]? = some (0, 0) := by rw [hk15]; exact k_new hn14
  have z71 : Zz (n + 26) (pm_up mi h 3 (-1)) ml (pm_up (rX6 (pm_up (rX10 (pm_up (rX6 (pm_up (rX0 (pm_up (pm_up (pm_up (pm_up (pm_up (pm_up mr (h) 0 (some (n))) (h) 4 (some (n + 1))) (h) 5 (some (n + 2))) (h) 6 (some (n + 3))) (h) 7 (some (n + 4))) (h) 8 (some (n + 5))) (n + 6) (n + 7)) (n + 2) 0 (some (n + 6))) (n + 12) (n + 13)) (n + 3) 0 (some (n + 12))) (n + 16) (n + 17)) (n + 4) 0 (some (n + 16))) (n + 21) (n + 22)) (n + 5) 0 (some (n + 21))) := z62.mono (by omega)
  refine wp_dup (pc := 72) dX9_init_72 rfl ?_
  refine wp_callI (pc := 73) (As := []) (b := n + 25) (d' := d + 2) (mc' := 5) (ms' := 28) dX9_init_73 ml_X9_44 in_X0_init rfl rfl (Nat.le_of_ble_eq_true rfl) (Nat.le_of_ble_eq_true rfl) (by omega) ⟨Nat.le_of_ble_eq_true rfl, Nat.le_of_ble_eq_true rfl⟩ (n_X0 (d := d + 1) hc25 hn15 (by omega) z71) ?_
  rintro _ _ _ _ _ ⟨rfl, rfl, rfl, rfl, rfl⟩ _
  obtain ⟨kd16, hk16⟩ : ∃ k, k = kd15 ++ kX0 := ⟨_, rfl⟩
  rw [← hk16]
  have hn16 : kd16.length = n + 31 := by rw [hk16, List.length_append, hn15]; rfl
  have z73 : Zz (n + 31) (pm_up mi h 3 (-1)) ml (rX0 (pm_up (rX6 (pm_up (rX10 (pm_up (rX6 (pm_up (rX0 (pm_up (pm_up (pm_up (pm_up (pm_up (pm_up mr (h) 0 (some (n))) (h) 4 (some (n + 1))) (h) 5 (some (n + 2))) (h) 6 (some (n + 3))) (h) 7 (some (n + 4))) (h) 8 (some (n + 5))) (n + 6) (n + 7)) (n + 2) 0 (some (n + 6))) (n + 12) (n + 13)) (n + 3) 0 (some (n + 12))) (n + 16) (n + 17)) (n + 4) 0 (some (n + 16))) (n + 21) (n + 22)) (n + 5) 0 (some (n + 21))) (n + 25) (n + 26)) := z_X0 z71 (by omega)
  simp only [Option.toList, List.nil_append]
  refine wp_aast (t := 0) (ci := 0) (pc := 76) dX9_init_76 (by simp) (by rw [hk16]; exact k_app (by rw [hk15]; exact k_app (by rw [hk14]; exact k_app (by rw [hk13]; exact k_app (by rw [hk12]; exact k_app (by rw [hk11]; exact k_app (by rw [hk10]; exact k_app (by rw [hk9]; exact k_app (by rw [hk8]; exact k_app (by rw [hk7]; exact k_app (by rw [hk6]; exact k_app (by rw [hk5]; exact k_app (by rw [hk4]; exact k_app hc2))))))))))))) (by rw [hk16]; exact k_app hc25) (vp_dec (by decide)) ?_
  have z74 : Zz (n + 31) (pm_up mi h 3 (-1)) ml (pm_up (rX0 (pm_up (rX6 (pm_up (rX10 (pm_up (rX6 (pm_up (rX0 (pm_up (pm_up (pm_up (pm_up (pm_up (pm_up mr (h) 0 (some (n))) (h) 4 (some (n + 1))) (h) 5 (some (n + 2))) (h) 6 (some (n + 3))) (h) 7 (some (n + 4))) (h) 8 (some (n + 5))) (n + 6) (n + 7)) (n + 2) 0 (some (n + 6))) (n + 12) (n + 13)) (n + 3) 0 (some (n + 12))) (n + 16) (n + 17)) (n + 4) 0 (some (n + 16))) (n + 21) (n + 22)) (n + 5) 0 (some (n + 21))) (n + 25) (n + 26)) (n + 2) 1 (some (n + 25))) := z73.upR (by omega)
  refine wp_aload_n (pc := 77) dX9_init_77 rfl ?_
  refine wp_getR (a := n + 3) (pc := 78) dX9_init_78 fl_X9_31 rfl (by rw [hk16]; exact k_app (by rw [hk15]; exact k_app (by rw [hk14]; exact k_app (by rw [hk13]; exact k_app (by rw [hk12]; exact k_app (by rw [hk11]; exact k_app (by rw [hk10]; exact k_app (by rw [hk9]; exact k_app (by rw [hk8]; exact k_app (by rw [hk7]; exact k_app (by rw [hk6]; exact k_app (by rw [hk5]; exact k_app (by rw [hk4]; exact k_app (by rw [hk3]; exact k_app (by rw [hk2]; exact k_app (by rw [hk1]; exact k_app hh0)))))))))))))))) ((pm_up_ne _ _ (by omega)).trans ((congrFun (rX0_lt (by omega) (by omega)) _).trans ((pm_up_ne _ _ (by omega)).trans ((congrFun (rX6_lt (by omega) (by omega)) _).trans ((pm_up_ne _ _ (by omega)).trans ((congrFun (rX10_lt (by omega) (by omega)) _).trans ((pm_up_ne _ _ (by omega)).trans ((congrFun (rX6_lt (by omega) (by omega)) _).trans ((pm_up_ne _ _ (by omega)).trans ((congrFun (rX0_lt (by omega) (by omega)) _).trans ((pm_up_ne _ _ (by omega)).trans ((pm_up_ne _ _ (by omega)).trans (pm_up_s _ _ _ _))))))))))))) ?_
  refine wp_iload_n (pc := 81) dX9_init_81 rfl ?_
  refine wp_new (pc := 82) (ci := 6) (C := RX6) (T := TX6) (mi' := (pm_up mi h 3 (-1))) (ml' := ml) (mr' := (pm_up (rX0 (pm_up (rX6 (pm_up (rX10 (pm_up (rX6 (pm_up (rX0 (pm_up (pm_up (pm_up (pm_up (pm_up (pm_up mr (h) 0 (some (n))) (h) 4 (some (n + 1))) (h) 5 (some (n + 2))) (h) 6 (some (n + 3))) (h) 7 (some (n + 4))) (h) 8 (some (n + 5))) (n + 6) (n + 7)) (n + 2) 0 (some (n + 6))) (n + 12) (n + 13)) (n + 3) 0 (some (n + 12))) (n + 16) (n + 17)) (n + 4) 0 (some (n + 16))) (n + 21) (n + 22)) (n + 5) 0 (some (n + 21))) (n + 25) (n + 26)) (n + 2) 1 (some (n + 25)))) dX9_init_82 rfl ii_X6 tyX6_ok ⟨tb_1 39 rfl rfl, tb_1 109 rfl rfl, tb_1 4 rfl rfl⟩ (Nat.le_of_ble_eq_true rfl) (Nat.le_of_ble_eq_true rfl) (fun ad => fs_0 ad (z74 _ (Nat.le_of_eq hn16.symm)) (by decide)) (fun _ _ => rfl) (fun _ _ => rfl) (fun _ _ => rfl) (fun k e => e ▸ (z74 _ (Nat.le_of_eq hn16.symm)).2.2) (fun _ _ => rfl) ?_
  rw [hn16]
  obtain ⟨kd17, hk17⟩ : ∃ k, k = kd16 ++ [(0, 6)] := ⟨_, rfl⟩
  rw [← hk17]
  have hn17 : kd17.length = n + 32 := by rw [hk17, List.length_append, hn16]; rfl
  have hc31 : kd17[n + 31]? = some (0, 6) := by rw [hk17]; exact k_new hn16
  have z78 : Zz (n + 32) (pm_up mi h 3 (-1)) ml (pm_up (rX0 (pm_up (rX6 (pm_up (rX10 (pm_up (rX6 (pm_up (rX0 (pm_up (pm_up (pm_up (pm_up (pm_up (pm_up mr (h) 0 (some (n))) (h) 4 (some (n + 1))) (h) 5 (some (n + 2))) (h) 6 (some (n + 3))) (h) 7 (some (n + 4))) (h) 8 (some (n + 5))) (n + 6) (n + 7)) (n + 2) 0 (some (n + 6))) (n + 12) (n + 13)) (n + 3) 0 (some (n + 12))) (n + 16) (n + 17)) (n + 4) 0 (some (n + 16))) (n + 21) (n + 22)) (n + 5) 0 (some (n + 21))) (n + 25) (n + 26)) (n + 2) 1 (some (n + 25))) := z74.mono (by omega)
  refine wp_dup (pc := 85) dX9_init_85 rfl ?_
  refine wp_callI (pc := 86) (As := []) (b := n + 31) (d' := d + 2) (mc' := 3) (ms' := 120) dX9_init_86 ml_X9_45 in_X6_init rfl rfl (Nat.le_of_ble_eq_true rfl) (Nat.le_of_ble_eq_true rfl) (by omega) ⟨Nat.le_of_ble_eq_true rfl, Nat.le_of_ble_eq_true rfl⟩ (n_X6 (d := d + 1) hc31 hn17 (by omega) z78) ?_
  rintro _ _ _ _ _ ⟨rfl, rfl, rfl, rfl, rfl⟩ _
  obtain ⟨kd18, hk18⟩ : ∃ k, k = kd17 ++ kX6 := ⟨_, rfl⟩
  rw [← hk18]
  have hn18 : kd18.length = n + 35 := by rw [hk18, List.length_append, hn17]; rfl
  have z80 : Zz (n + 35) (pm_up mi h 3 (-1)) ml (rX6 (pm_up (rX0 (pm_up (rX6 (pm_up (rX10 (pm_up (rX6 (pm_up (rX0 (pm_up (pm_up (pm_up (pm_up (pm_up (pm_up mr (h) 0 (some (n))) (h) 4 (some (n + 1))) (h) 5 (some (n + 2))) (h) 6 (some (n + 3))) (h) 7 (some (n + 4))) (h) 8 (some (n + 5))) (n + 6) (n + 7)) (n + 2) 0 (some (n + 6))) (n + 12) (n + 13)) (n + 3) 0 (some (n + 12))) (n + 16) (n + 17)) (n + 4) 0 (some (n + 16))) (n + 21) (n + 22)) (n + 5) 0 (some (n + 21))) (n + 25) (n + 26)) (n + 2) 1 (some (n + 25))) (n + 31) (n + 32)) := z_X6 z78 (by omega)
  simp only [Option.toList, List.nil_append]
  refine wp_aast (t := 1) (ci := 6) (pc := 89) dX9_init_89 (by simp) (by rw [hk18]; exact k_app (by rw [hk17]; exact k_app (by rw [hk16]; exact k_app (by rw [hk15]; exact k_app (by rw [hk14]; exact k_app (by rw [hk13]; exact k_app (by rw [hk12]; exact k_app (by rw [hk11]; exact k_app (by rw [hk10]; exact k_app (by rw [hk9]; exact k_app (by rw [hk8]; exact k_app (by rw [hk7]; exact k_app (by rw [hk6]; exact k_app (by rw [hk5]; exact k_app hc3)))))))))))))) (by rw [hk18]; exact k_app hc31) (vp_dec (by decide)) ?_
  have z81 : Zz (n + 35) (pm_up mi h 3 (-1)) ml (pm_up (rX6 (pm_up (rX0 (pm_up (rX6 (pm_up (rX10 (pm_up (rX6 (pm_up (rX0 (pm_up (pm_up (pm_up (pm_up (pm_up (pm_up mr (h) 0 (some (n))) (h) 4 (some (n + 1))) (h) 5 (some (n + 2))) (h) 6 (some (n + 3))) (h) 7 (some (n + 4))) (h) 8 (some (n + 5))) (n + 6) (n + 7)) (n + 2) 0 (some (n + 6))) (n + 12) (n + 13)) (n + 3) 0 (some (n + 12))) (n + 16) (n + 17)) (n + 4) 0 (some (n + 16))) (n + 21) (n + 22)) (n + 5) 0 (some (n + 21))) (n + 25) (n + 26)) (n + 2) 1 (some (n + 25))) (n + 31) (n + 32)) (n + 3) 1 (some (n + 31))) := z80.upR (by omega)
  refine wp_aload_n (pc := 90) dX9_init_90 rfl ?_
  refine wp_getR (a := n + 4) (pc := 91) dX9_init_91 fl_X9_37 rfl (by rw [hk18]; exact k_app (by rw [hk17]; exact k_app (by rw [hk16]; exact k_app (by rw [hk15]; exact k_app (by rw [hk14]; exact k_app (by rw [hk13]; exact k_app (by rw [hk12]; exact k_app (by rw [hk11]; exact k_app (by rw [hk10]; exact k_app (by rw [hk9]; exact k_app (by rw [hk8]; exact k_app (by rw [hk7]; exact k_app (by rw [hk6]; exact k_app (by rw [hk5]; exact k_app (by rw [hk4]; exact k_app (by rw [hk3]; exact k_app (by rw [hk2]; exact k_app (by rw [hk1]; exact k_app hh0)))))))))))))))))) ((pm_up_ne _ _ (by omega)).trans ((congrFun (rX6_lt (by omega) (by omega)) _).trans ((pm_up_ne _ _ (by omega)).trans ((congrFun (rX0_lt (by omega) (by omega)) _).trans ((pm_up_ne _ _ (by omega)).trans ((congrFun (rX6_lt (by omega) (by omega)) _).trans ((pm_up_ne _ _ (by omega)).trans ((congrFun (rX10_lt (by omega) (by omega)) _).trans ((pm_up_ne _ _ (by omega)).trans ((congrFun (rX6_lt (by omega) (by omega)) _).trans ((pm_up_ne _ _ (by omega)).trans ((congrFun (rX0_lt (by omega) (by omega)) _).trans ((pm_up_ne _ _ (by omega)).trans (pm_up_s _ _ _ _)))))))))))))) ?_
  refine wp_iload_n (pc := 94) dX9_init_94 rfl ?_
  refine wp_new (pc := 95) (ci := 10) (C := RX10) (T := TX10) (mi' := (pm_up mi h 3 (-1))) (ml' := ml) (mr' := (pm_up (rX6 (pm_up (rX0 (pm_up (rX6 (pm_up (rX10 (pm_up (rX6 (pm_up (rX0 (pm_up (pm_up (pm_up (pm_up (pm_up (pm_up mr (h) 0 (some (n))) (h) 4 (some (n + 1))) (h) 5 (some (n + 2))) (h) 6 (some (n + 3))) (h) 7 (some (n + 4))) (h) 8 (some (n + 5))) (n + 6) (n + 7)) (n + 2) 0 (some (n + 6))) (n + 12) (n + 13)) (n + 3) 0 (some (n + 12))) (n + 16) (n + 17)) (n + 4) 0 (some (n + 16))) (n + 21) (n + 22)) (n + 5) 0 (some (n + 21))) (n + 25) (n + 26)) (n + 2) 1 (some (n + 25))) (n + 31) (n + 32)) (n + 3) 1 (some (n + 31)))) dX9_init_95 rfl ii_X10 tyX10_ok ⟨tb_1 41 rfl rfl, tb_1 140 rfl rfl, tb_1 5 rfl rfl⟩ (Nat.le_of_ble_eq_true rfl) (Nat.le_of_ble_eq_true rfl) (fun ad => fs_0 ad (z81 _ (Nat.le_of_eq hn18.symm)) (by decide)) (fun _ _ => rfl) (fun _ _ => rfl) (fun _ _ => rfl) (fun k e => e ▸ (z81 _ (Nat.le_of_eq hn18.symm)).2.2) (fun _ _ => rfl) ?_
  rw [hn18]
  obtain ⟨kd19, hk19⟩ : ∃ k, k = kd18 ++ [(0, 10)] := ⟨_, rfl⟩
  rw [← hk19]
  have hn19 : kd19.length = n + 36 := by rw [hk19, List.length_append, hn18]; rfl
  have hc35 : kd19[n + 35]? = some (0, 10) := by rw [hk19]; exact k_new hn18
  have z85 : Zz (n + 36) (pm_up mi h 3 (-1)) ml (pm_up (rX6 (pm_up (rX0 (pm_up (rX6 (pm_up (rX10 (pm_up (rX6 (pm_up (rX0 (pm_up (pm_up (pm_up (pm_up (pm_up (pm_up mr (h) 0 (some (n))) (h) 4 (some (n + 1))) (h) 5 (some (n + 2))) (h) 6 (some (n + 3))) (h) 7 (some (n + 4))) (h) 8 (some (n + 5))) (n + 6) (n + 7)) (n + 2) 0 (some (n + 6))) (n + 12) (n + 13)) (n + 3) 0 (some (n + 12))) (n + 16) (n + 17)) (n + 4) 0 (some (n + 16))) (n + 21) (n + 22)) (n + 5) 0 (some (n + 21))) (n + 25) (n + 26)) (n + 2) 1 (some (n + 25))) (n + 31) (n + 32)) (n + 3) 1 (some (n + 31))) := z81.mono (by omega)
  refine wp_dup (pc := 98) dX9_init_98 rfl ?_
  refine wp_callI (pc := 99) (As := []) (b := n + 35) (d' := d + 2) (mc' := 4) (ms' := 124) dX9_init_99 ml_X9_46 in_X10_init rfl rfl (Nat.le_of_ble_eq_true rfl) (Nat.le_of_ble_eq_true rfl) (by omega) ⟨Nat.le_of_ble_eq_true rfl, Nat.le_of_ble_eq_true rfl⟩ (n_X10 (d := d + 0) hc35 hn19 (by omega) z85) ?_
  rintro _ _ _ _ _ ⟨rfl, rfl, rfl, rfl, rfl⟩ _
  obtain ⟨kd20, hk20⟩ : ∃ k, k = kd19 ++ kX10 := ⟨_, rfl⟩
  rw [← hk20]
  have hn20 : kd20.length = n + 40 := by rw [hk20, List.length_append, hn19]; rfl
  have z87 : Zz (n + 40) (pm_up mi h 3 (-1)) ml (rX10 (pm_up (rX6 (pm_up (rX0 (pm_up (rX6 (pm_up (rX10 (pm_up (rX6 (pm_up (rX0 (pm_up (pm_up (pm_up (pm_up (pm_up (pm_up mr (h) 0 (some (n))) (h) 4 (some (n + 1))) (h) 5 (some (n + 2))) (h) 6 (some (n + 3))) (h) 7 (some (n + 4))) (h) 8 (some (n + 5))) (n + 6) (n + 7)) (n + 2) 0 (some (n + 6))) (n + 12) (n + 13)) (n + 3) 0 (some (n + 12))) (n + 16) (n + 17)) (n + 4) 0 (some (n + 16))) (n + 21) (n + 22)) (n + 5) 0 (some (n + 21))) (n + 25) (n + 26)) (n + 2) 1 (some (n + 25))) (n + 31) (n + 32)) (n + 3) 1 (some (n + 31))) (n + 35) (n + 36)) := z_X10 z85 (by omega)
  simp only [Option.toList, List.nil_append]
  refine wp_aast (t := 2) (ci := 10) (pc := 102) dX9_init_102 (by simp) (by rw [hk20]; exact k_app (by rw [hk19]; exact k_app (by rw [hk18]; exact k_app (by rw [hk17]; exact k_app (by rw [hk16]; exact k_app (by rw [hk15]; exact k_app (by rw [hk14]; exact k_app (by rw [hk13]; exact k_app (by rw [hk12]; exact k_app (by rw [hk11]; exact k_app (by rw [hk10]; exact k_app (by rw [hk9]; exact k_app (by rw [hk8]; exact k_app (by rw [hk7]; exact k_app (by rw [hk6]; exact k_app hc4))))))))))))))) (by rw [hk20]; exact k_app hc35) (vp_dec (by decide)) ?_
  have z88 : Zz (n + 40) (pm_up mi h 3 (-1)) ml (pm_up (rX10 (pm_up (rX6 (pm_up (rX0 (pm_up (rX6 (pm_up (rX10 (pm_up (rX6 (pm_up (rX0 (pm_up (pm_up (pm_up (pm_up (pm_up (pm_up mr (h) 0 (some (n))) (h) 4 (some (n + 1))) (h) 5 (some (n + 2))) (h) 6 (some (n + 3))) (h) 7 (some (n + 4))) (h) 8 (some (n + 5))) (n + 6) (n + 7)) (n + 2) 0 (some (n + 6))) (n + 12) (n + 13)) (n + 3) 0 (some (n + 12))) (n + 16) (n + 17)) (n + 4) 0 (some (n + 16))) (n + 21) (n + 22)) (n + 5) 0 (some (n + 21))) (n + 25) (n + 26)) (n + 2) 1 (some (n + 25))) (n + 31) (n + 32)) (n + 3) 1 (some (n + 31))) (n + 35) (n + 36)) (n + 4) 1 (some (n + 35))) := z87.upR (by omega)
  refine wp_aload_n (pc := 103) dX9_init_103 rfl ?_
  refine wp_getR (a := n + 5) (pc := 104) dX9_init_104 fl_X9_41 rfl (by rw [hk20]; exact k_app (by rw [hk19]; exact k_app (by rw [hk18]; exact k_app (by rw [hk17]; exact k_app (by rw [hk16]; exact k_app (by rw [hk15]; exact k_app (by rw [hk14]; exact k_app (by rw [hk13]; exact k_app (by rw [hk12]; exact k_app (by rw [hk11]; exact k_app (by rw [hk10]; exact k_app (by rw [hk9]; exact k_app (by rw [hk8]; exact k_app (by rw [hk7]; exact k_app (by rw [hk6]; exact k_app (by rw [hk5]; exact k_app (by rw [hk4]; exact k_app (by rw [hk3]; exact k_app (by rw [hk2]; exact k_app (by rw [hk1]; exact k_app hh0)))))))))))))))))))) ((pm_up_ne _ _ (by omega)).trans ((congrFun (rX10_lt (by omega) (by omega)) _).trans ((pm_up_ne _ _ (by omega)).trans ((congrFun (rX6_lt (by omega) (by omega)) _).trans ((pm_up_ne _ _ (by omega)).trans ((congrFun (rX0_lt (by omega) (by omega)) _).trans ((pm_up_ne _ _ (by omega)).trans ((congrFun (rX6_lt (by omega) (by omega)) _).trans ((pm_up_ne _ _ (by omega)).trans ((congrFun (rX10_lt (by omega) (by omega)) _).trans ((pm_up_ne _ _ (by omega)).trans ((congrFun (rX6_lt (by omega) (by omega)) _).trans ((pm_up_ne _ _ (by omega)).trans ((congrFun (rX0_lt (by omega) (by omega)) _).trans (pm_up_s _ _ _ _))))))))))))))) ?_
  refine wp_iload_n (pc := 107) dX9_init_107 rfl ?_
  refine wp_new (pc := 108) (ci := 6) (C := RX6) (T := TX6) (mi' := (pm_up mi h 3 (-1))) (ml' := ml) (mr' := (pm_up (rX10 (pm_up (rX6 (pm_up (rX0 (pm_up (rX6 (pm_up (rX10 (pm_up (rX6 (pm_up (rX0 (pm_up (pm_up (pm_up (pm_up (pm_up (pm_up mr (h) 0 (some (n))) (h) 4 (some (n + 1))) (h) 5 (some (n + 2))) (h) 6 (some (n + 3))) (h) 7 (some (n + 4))) (h) 8 (some (n + 5))) (n + 6) (n + 7)) (n + 2) 0 (some (n + 6))) (n + 12) (n + 13)) (n + 3) 0 (some (n + 12))) (n + 16) (n + 17)) (n + 4) 0 (some (n + 16))) (n + 21) (n + 22)) (n + 5) 0 (some (n + 21))) (n + 25) (n + 26)) (n + 2) 1 (some (n + 25))) (n + 31) (n + 32)) (n + 3) 1 (some (n + 31))) (n + 35) (n + 36)) (n + 4) 1 (some (n + 35)))) dX9_init_108 rfl ii_X6 tyX6_ok ⟨tb_1 39 rfl rfl, tb_1 109 rfl rfl, tb_1 4 rfl rfl⟩ (Nat.le_of_ble_eq_true rfl) (Nat.le_of_ble_eq_true rfl) (fun ad => fs_0 ad (z88 _ (Nat.le_of_eq hn20.symm)) (by decide)) (fun _ _ => rfl) (fun _ _ => rfl) (fun _ _ => rfl) (fun k e => e ▸ (z88 _ (Nat.le_of_eq hn20.symm)).2.2) (fun _ _ => rfl) ?_
  rw [hn20]
  obtain ⟨kd21, hk21⟩ : ∃ k, k = kd20 ++ [(0, 6)] := ⟨_, rfl⟩
  rw [← hk21]
  have hn21 : kd21.length = n + 41 := by rw [hk21, List.length_append, hn20]; rfl
  have hc40 : kd21[n + 40]? = some (0, 6) := by rw [hk21]; exact k_new hn20
  have z92 : Zz (n + 41) (pm_up mi h 3 (-1)) ml (pm_up (rX10 (pm_up (rX6 (pm_up (rX0 (pm_up (rX6 (pm_up (rX10 (pm_up (rX6 (pm_up (rX0 (pm_up (pm_up (pm_up (pm_up (pm_up (pm_up mr (h) 0 (some (n))) (h) 4 (some (n + 1))) (h) 5 (some (n + 2))) (h) 6 (some (n + 3))) (h) 7 (some (n + 4))) (h) 8 (some (n + 5))) (n + 6) (n + 7)) (n + 2) 0 (some (n + 6))) (n + 12) (n + 13)) (n + 3) 0 (some (n + 12))) (n + 16) (n + 17)) (n + 4) 0 (some (n + 16))) (n + 21) (n + 22)) (n + 5) 0 (some (n + 21))) (n + 25) (n + 26)) (n + 2) 1 (some (n + 25))) (n + 31) (n + 32)) (n + 3) 1 (some (n + 31))) (n + 35) (n + 36)) (n + 4) 1 (some (n + 35))) := z88.mono (by omega)
  refine wp_dup (pc := 111) dX9_init_111 rfl ?_
  refine wp_callI (pc := 112) (As := []) (b := n + 40) (d' := d + 2) (mc' := 3) (ms' := 120) dX9_init_112 ml_X9_45 in_X6_init rfl rfl (Nat.le_of_ble_eq_true rfl) (Nat.le_of_ble_eq_true rfl) (by omega) ⟨Nat.le_of_ble_eq_true rfl, Nat.le_of_ble_eq_true rfl⟩ (n_X6 (d := d + 1) hc40 hn21 (by omega) z92) ?_
  rintro _ _ _ _ _ ⟨rfl, rfl, rfl, rfl, rfl⟩ _
  obtain ⟨kd22, hk22⟩ : ∃ k, k = kd21 ++ kX6 := ⟨_, rfl⟩
  rw [← hk22]
  have hn22 : kd22.length = n + 44 := by rw [hk22, List.length_append, hn21]; rfl
  have z94 : Zz (n + 44) (pm_up mi h 3 (-1)) ml (rX6 (pm_up (rX10 (pm_up (rX6 (pm_up (rX0 (pm_up (rX6 (pm_up (rX10 (pm_up (rX6 (pm_up (rX0 (pm_up (pm_up (pm_up (pm_up (pm_up (pm_up mr (h) 0 (some (n))) (h) 4 (some (n + 1))) (h) 5 (some (n + 2))) (h) 6 (some (n + 3))) (h) 7 (some (n + 4))) (h) 8 (some (n + 5))) (n + 6) (n + 7)) (n + 2) 0 (some (n + 6))) (n + 12) (n + 13)) (n + 3) 0 (some (n + 12))) (n + 16) (n + 17)) (n + 4) 0 (some (n + 16))) (n + 21) (n + 22)) (n + 5) 0 (some (n + 21))) (n + 25) (n + 26)) (n + 2) 1 (some (n + 25))) (n + 31) (n + 32)) (n + 3) 1 (some (n + 31))) (n + 35) (n + 36)) (n + 4) 1 (some (n + 35))) (n + 40) (n + 41)) := z_X6 z92 (by omega)
  simp only [Option.toList, List.nil_append]
  refine wp_aast (t := 1) (ci := 6) (pc := 115) dX9_init_115 (by simp) (by rw [hk22]; exact k_app (by rw [hk21]; exact k_app (by rw [hk20]; exact k_app (by rw [hk19]; exact k_app (by rw [hk18]; exact k_app (by rw [hk17]; exact k_app (by rw [hk16]; exact k_app (by rw [hk15]; exact k_app (by rw [hk14]; exact k_app (by rw [hk13]; exact k_app (by rw [hk12]; exact k_app (by rw [hk11]; exact k_app (by rw [hk10]; exact k_app (by rw [hk9]; exact k_app (by rw [hk8]; exact k_app (by rw [hk7]; exact k_app hc5)))))))))))))))) (by rw [hk22]; exact k_app hc40) (vp_dec (by decide)) ?_
  have z95 : Zz (n + 44) (pm_up mi h 3 (-1)) ml (pm_up (rX6 (pm_up (rX10 (pm_up (rX6 (pm_up (rX0 (pm_up (rX6 (pm_up (rX10 (pm_up (rX6 (pm_up (rX0 (pm_up (pm_up (pm_up (pm_up (pm_up (pm_up mr (h) 0 (some (n))) (h) 4 (some (n + 1))) (h) 5 (some (n + 2))) (h) 6 (some (n + 3))) (h) 7 (some (n + 4))) (h) 8 (some (n + 5))) (n + 6) (n + 7)) (n + 2) 0 (some (n + 6))) (n + 12) (n + 13)) (n + 3) 0 (some (n + 12))) (n + 16) (n + 17)) (n + 4) 0 (some (n + 16))) (n + 21) (n + 22)) (n + 5) 0 (some (n + 21))) (n + 25) (n + 26)) (n + 2) 1 (some (n + 25))) (n + 31) (n + 32)) (n + 3) 1 (some (n + 31))) (n + 35) (n + 36)) (n + 4) 1 (some (n + 35))) (n + 40) (n + 41)) (n + 5) 1 (some (n + 40))) := z94.upR (by omega)
  refine wp_iinc (v := 2) (pc := 116) dX9_init_116 rfl (by decide) rfl ?_
  refine wp_goto (tgt := 59) (pc := 119) dX9_init_119 (by decide) ?_
  refine wp_iload_n (pc := 59) dX9_init_59 rfl ?_
  refine wp_iconst (v := 2) (pc := 60) dX9_init_60 (by decide) ?_
  refine wp_icmp_ge (tgt := 122) (pc := 61) dX9_init_61 (by decide) (fun _ => ?_) (fun c => absurd (by decide) c)
  exact wp_vret (pc := 122) dX9_init_122 rfl ⟨rfl, by rw [hk22, hk21, hk20, hk19, hk18, hk17, hk16, hk15, hk14, hk13, hk12, hk11, hk10, hk9, hk8, hk7, hk6, hk5, hk4, hk3, hk2, hk1]; first | rfl | (simp only [List.append_assoc]; rfl), rfl, rfl, rfl⟩
theorem z_X9 {h n : Nat} {mi : pm_I} {ml : pm_L} {mr : pm_R} (z : Zz n mi ml mr) (hlt : h < n) : Zz (n + 44) (iX9 mi h n) ml (rX9 mr h n) := by
  have z := z.mono (Nat.le_add_right n 44)
  intro k hk
  obtain ⟨e1, e2, e3⟩ := z k hk
  refine ⟨?_, e2, ?_⟩
  · rw [iX9_ge (by omega) (by omega)]; exact e1
  · rw [rX9_ge (by omega) (by omega)]; exact e3
