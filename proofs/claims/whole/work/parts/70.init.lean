/-! constructors, by program (gen/mk70.py) -/
def Zz (n : Nat) (mi : pm_I) (ml : pm_L) (mr : pm_R) : Prop := ∀ k, n ≤ k → mi k = (fun _ => 0) ∧ ml k = (fun _ => 0) ∧ mr k = fun _ => none
def qN (kd' : pm_K) (mi' : pm_I) (ml' : pm_L) (mr' : pm_R) : pm_Q := fun r kd mi ml mr => none = r ∧ kd' = kd ∧ mi' = mi ∧ ml' = ml ∧ mr' = mr
theorem Zz.mono {n n' : Nat} {mi : pm_I} {ml : pm_L} {mr : pm_R} (z : Zz n mi ml mr) (h : n ≤ n') : Zz n' mi ml mr := fun k hk => z k (Nat.le_trans h hk)
theorem Zz.upR {n h j : Nat} {v : Option Nat} {mi : pm_I} {ml : pm_L} {mr : pm_R} (z : Zz n mi ml mr) (hh : h < n) : Zz n mi ml (pm_up mr h j v) := fun k hk => ⟨(z k hk).1, (z k hk).2.1, by rw [pm_up_row _ _ (by omega)]; exact (z k hk).2.2⟩
theorem Zz.upI {n h j : Nat} {v : Int32} {mi : pm_I} {ml : pm_L} {mr : pm_R} (z : Zz n mi ml mr) (hh : h < n) : Zz n (pm_up mi h j v) ml mr := fun k hk => ⟨by rw [pm_up_row _ _ (by omega)]; exact (z k hk).1, (z k hk).2.1, (z k hk).2.2⟩
theorem wp_cs {l : Launch} {M : pm_M} {d mc ms pc : Nat} {L : List (Option Value)} {S : List Value} {cs ss cs' ss' : Nat} {kd : pm_K} {mi : pm_I} {ml : pm_L} {mr : pm_R} {Q : pm_Q} (h1 : cs = cs') (h2 : ss = ss') (k : wp l M d mc ms pc L S cs' ss' kd mi ml mr Q) : wp l M d mc ms pc L S cs ss kd mi ml mr Q := by
  subst h1; subst h2; exact k
theorem wp_callN {l : Launch} {M M' : pm_M} {d mc ms pc i d' mc' ms' n : Nat} {L : List (Option Value)} {S As rest : List Value} {cs ss : Nat} {kd kd2 : pm_K} {mi mi2 : pm_I} {ml ml2 : pm_L} {mr mr2 : pm_R} {Q : pm_Q} (hd : decode M.2.1 pc = .ok (.invokespecial i, 3)) (hml : pm_ml M.1.cls i M' n) (hV : Cond.instanceMethod M'.1 ∈ pm_tbl ∧ M'.1.name = "<init>" ∧ M'.2.2.2 = none) {b : Nat} (hS9 : S = As.reverse ++ .ref b :: rest) (hn9 : As.length = n) (hw : pm_wd (.ref b :: As) ≤ M'.2.2.1) (hrest : pm_wd rest ≤ 8) (hdd : d' < d) (hcs : cs + mc' ≤ mc ∧ ss + ms' ≤ ms)
    (kc : wpc l M' d' mc' ms' (.ref b :: As) kd mi ml mr (qN kd2 mi2 ml2 mr2)) (k9 : wp l M d mc ms (pc + 3) L rest (cs + mc') (ss + ms') kd2 mi2 ml2 mr2 Q) : wp l M d mc ms pc L S cs ss kd mi ml mr Q :=
  wp_callI hd hml hV hS9 hn9 hw hrest hdd hcs kc (fun r kd' mi' ml' mr' ⟨e1, e2, e3, e4, e5⟩ _ => by subst e1; subst e2; subst e3; subst e4; subst e5; exact k9)
theorem k_app {kd l : pm_K} {h : Nat} {q : Nat × Nat} (hk : kd[h]? = some q) : (kd ++ l)[h]? = some q := by
  rw [List.getElem?_append_left (List.getElem?_eq_some_iff.mp hk).1]; exact hk
theorem k_at {kd kd' l : pm_K} {h : Nat} {q : Nat × Nat} (e : kd' = kd ++ l) (hk : kd[h]? = some q) : kd'[h]? = some q := by
  rw [e]; exact k_app hk
theorem k_new {kd : pm_K} {m : Nat} {q : Nat × Nat} (hn : kd.length = m) : (kd ++ [q])[m]? = some q := by
  subst hn
  rw [List.getElem?_append_right (Nat.le_refl _), Nat.sub_self]; rfl
def okFT : FieldType → Bool
  | .double => false
  | .float => false
  | _ => true
theorem okFT_all : ∀ ci, ci < 13 → ∀ j, j < pm_N ci → okFT (pm_ty ci j) = true := by decide +kernel
theorem fs_0 {mi : pm_I} {ml : pm_L} {mr : pm_R} {n : Nat} (ad : Nat → Nat) (z : mi n = (fun _ => 0) ∧ ml n = (fun _ => 0) ∧ mr n = fun _ => none) {ci : Nat} (hc : ci < 13) : (List.range (pm_N ci)).map (fun j => defaultValue (pm_ty ci j)) = pm_fs ad mi ml mr n ci := by
  unfold pm_fs
  refine List.map_congr_left fun j hj => ?_
  have hok := okFT_all ci hc j (List.mem_range.mp hj)
  generalize pm_ty ci j = t at hok
  unfold pm_fv
  rw [z.1, z.2.1, z.2.2]
  cases t <;> first | rfl | (exact absurd hok (by decide))
def rX0 (mr : pm_R) (h n : Nat) : pm_R := (pm_up (pm_up (pm_up (pm_up (pm_up mr (h) 6 (some (n))) (h) 7 (some (n + 1))) (h) 8 (some (n + 2))) (h) 9 (some (n + 3))) (h) 10 (some (n + 4)))
def iX0 (mi : pm_I) (h n : Nat) : pm_I := mi
def kX0 : pm_K := [(1, 6)] ++ ([(1, 6)] ++ ([(1, 6)] ++ ([(1, 6)] ++ ([(1, 4)]))))
theorem rX0_ge {h n a : Nat} {mr : pm_R} (hlt : h < n) (ha : n + 5 ≤ a) : rX0 mr h n a = mr a := by
  unfold rX0; rw [pm_up_row _ _ (by omega), pm_up_row _ _ (by omega), pm_up_row _ _ (by omega), pm_up_row _ _ (by omega), pm_up_row _ _ (by omega)]
theorem rX0_lt {h n a : Nat} {mr : pm_R} (hlt : h < n) (ha : a < h) : rX0 mr h n a = mr a := by
  unfold rX0; rw [pm_up_row _ _ (by omega), pm_up_row _ _ (by omega), pm_up_row _ _ (by omega), pm_up_row _ _ (by omega), pm_up_row _ _ (by omega)]
theorem iX0_ge {h n a : Nat} {mi : pm_I} (hlt : h < n) (ha : n + 5 ≤ a) : iX0 mi h n a = mi a := by
  unfold iX0; rfl
theorem iX0_lt {h n a : Nat} {mi : pm_I} (hlt : h < n) (ha : a < h) : iX0 mi h n a = mi a := by
  unfold iX0; rfl
theorem n_X0 {l : Launch} {d h n : Nat} {kd : pm_K} {mi : pm_I} {ml : pm_L} {mr : pm_R} (hh0 : kd[h]? = some (0, 0)) (hn0 : kd.length = n) (hlt : h < n) (z0 : Zz n mi ml mr) : wpc l M_X0_init (d + 1) 5 28 [.ref h] kd mi ml mr (qN (kd ++ kX0) mi ml (rX0 mr h n)) := by
  show wp l M_X0_init (d + 1) 5 28 0 [some (.ref h)] [] 0 0 kd mi ml mr _
  refine wp_aload_n (pc := 0) dX0_init_0 rfl ?_
  refine wp_objInit (pc := 1) dX0_init_1 ⟨tb_1 47 rfl rfl, tb_1 29 rfl rfl, tb_1 30 rfl rfl⟩ (Nat.succ_pos _) (Nat.le_of_ble_eq_true rfl) ?_
  refine wp_aload_n (pc := 4) dX0_init_4 rfl ?_
  refine wp_bipush (v := 6) (pc := 5) dX0_init_5 (by decide) ?_
  refine wp_newa (i := 0) (pc := 7) (t := 1) (N := 6) (mi' := mi) (ml' := ml) dX0_init_7 (by simp) (tb_1 108 rfl rfl) (by decide) rfl (by decide) (Nat.le_of_ble_eq_true rfl) (Nat.le_of_ble_eq_true rfl) (fun _ _ => rfl) (fun _ _ => rfl) (z0 _ (Nat.le_of_eq hn0.symm)).1 (z0 _ (Nat.le_of_eq hn0.symm)).2.1 ?_
  rw [hn0]
  obtain ⟨kd1, hk1⟩ : ∃ k, k = kd ++ [(1, 6)] := ⟨_, rfl⟩
  rw [← hk1]
  have hn1 : kd1.length = n + 1 := by rw [hk1, List.length_append, hn0]; rfl
  have hh0_1 := k_at hk1 hh0
  have hc0 : kd1[n]? = some (1, 6) := by rw [hk1]; exact k_new hn0
  have z5 : Zz (n + 1) mi ml mr := z0.mono (by omega)
  refine wp_cs (cs' := 1) (ss' := 6) rfl rfl ?_
  refine wp_putR (pc := 9) dX0_init_9 fl_X0_9 rfl ⟨rfl, (RX0, TX0, 11), rfl, rfl, tb_1 69 rfl rfl⟩ hh0_1 ?_
  obtain ⟨mr1, hm1⟩ : ∃ m, m = pm_up mr (h) 6 (some (n)) := ⟨_, rfl⟩
  rw [← hm1]
  have z6 : Zz (n + 1) mi ml mr1 := by rw [hm1]; exact z5.upR (by omega)
  refine wp_aload_n (pc := 12) dX0_init_12 rfl ?_
  refine wp_bipush (v := 6) (pc := 13) dX0_init_13 (by decide) ?_
  refine wp_newa (i := 0) (pc := 15) (t := 1) (N := 6) (mi' := mi) (ml' := ml) dX0_init_15 (by simp) (tb_1 108 rfl rfl) (by decide) rfl (by decide) (Nat.le_of_ble_eq_true rfl) (Nat.le_of_ble_eq_true rfl) (fun _ _ => rfl) (fun _ _ => rfl) (z6 _ (Nat.le_of_eq hn1.symm)).1 (z6 _ (Nat.le_of_eq hn1.symm)).2.1 ?_
  rw [hn1]
  obtain ⟨kd2, hk2⟩ : ∃ k, k = kd1 ++ [(1, 6)] := ⟨_, rfl⟩
  rw [← hk2]
  have hn2 : kd2.length = n + 2 := by rw [hk2, List.length_append, hn1]; rfl
  have hh0_2 := k_at hk2 hh0_1
  have hc1 : kd2[n + 1]? = some (1, 6) := by rw [hk2]; exact k_new hn1
  have z9 : Zz (n + 2) mi ml mr1 := z6.mono (by omega)
  refine wp_cs (cs' := 2) (ss' := 12) rfl rfl ?_
  refine wp_putR (pc := 17) dX0_init_17 fl_X0_15 rfl ⟨rfl, (RX0, TX0, 11), rfl, rfl, tb_1 70 rfl rfl⟩ hh0_2 ?_
  obtain ⟨mr2, hm2⟩ : ∃ m, m = pm_up mr1 (h) 7 (some (n + 1)) := ⟨_, rfl⟩
  rw [← hm2]
  have z10 : Zz (n + 2) mi ml mr2 := by rw [hm2]; exact z9.upR (by omega)
  refine wp_aload_n (pc := 20) dX0_init_20 rfl ?_
  refine wp_bipush (v := 6) (pc := 21) dX0_init_21 (by decide) ?_
  refine wp_newa (i := 0) (pc := 23) (t := 1) (N := 6) (mi' := mi) (ml' := ml) dX0_init_23 (by simp) (tb_1 108 rfl rfl) (by decide) rfl (by decide) (Nat.le_of_ble_eq_true rfl) (Nat.le_of_ble_eq_true rfl) (fun _ _ => rfl) (fun _ _ => rfl) (z10 _ (Nat.le_of_eq hn2.symm)).1 (z10 _ (Nat.le_of_eq hn2.symm)).2.1 ?_
  rw [hn2]
  obtain ⟨kd3, hk3⟩ : ∃ k, k = kd2 ++ [(1, 6)] := ⟨_, rfl⟩
  rw [← hk3]
  have hn3 : kd3.length = n + 3 := by rw [hk3, List.length_append, hn2]; rfl
  have hh0_3 := k_at hk3 hh0_2
  have hc2 : kd3[n + 2]? = some (1, 6) := by rw [hk3]; exact k_new hn2
  have z13 : Zz (n + 3) mi ml mr2 := z10.mono (by omega)
  refine wp_cs (cs' := 3) (ss' := 18) rfl rfl ?_
  refine wp_putR (pc := 25) dX0_init_25 fl_X0_18 rfl ⟨rfl, (RX0, TX0, 11), rfl, rfl, tb_1 74 rfl rfl⟩ hh0_3 ?_
  obtain ⟨mr3, hm3⟩ : ∃ m, m = pm_up mr2 (h) 8 (some (n + 2)) := ⟨_, rfl⟩
  rw [← hm3]
  have z14 : Zz (n + 3) mi ml mr3 := by rw [hm3]; exact z13.upR (by omega)
  refine wp_aload_n (pc := 28) dX0_init_28 rfl ?_
  refine wp_bipush (v := 6) (pc := 29) dX0_init_29 (by decide) ?_
  refine wp_newa (i := 0) (pc := 31) (t := 1) (N := 6) (mi' := mi) (ml' := ml) dX0_init_31 (by simp) (tb_1 108 rfl rfl) (by decide) rfl (by decide) (Nat.le_of_ble_eq_true rfl) (Nat.le_of_ble_eq_true rfl) (fun _ _ => rfl) (fun _ _ => rfl) (z14 _ (Nat.le_of_eq hn3.symm)).1 (z14 _ (Nat.le_of_eq hn3.symm)).2.1 ?_
  rw [hn3]
  obtain ⟨kd4, hk4⟩ : ∃ k, k = kd3 ++ [(1, 6)] := ⟨_, rfl⟩
  rw [← hk4]
  have hn4 : kd4.length = n + 4 := by rw [hk4, List.length_append, hn3]; rfl
  have hh0_4 := k_at hk4 hh0_3
  have hc3 : kd4[n + 3]? = some (1, 6) := by rw [hk4]; exact k_new hn3
  have z17 : Zz (n + 4) mi ml mr3 := z14.mono (by omega)
  refine wp_cs (cs' := 4) (ss' := 24) rfl rfl ?_
  refine wp_putR (pc := 33) dX0_init_33 fl_X0_21 rfl ⟨rfl, (RX0, TX0, 11), rfl, rfl, tb_1 76 rfl rfl⟩ hh0_4 ?_
  obtain ⟨mr4, hm4⟩ : ∃ m, m = pm_up mr3 (h) 9 (some (n + 3)) := ⟨_, rfl⟩
  rw [← hm4]
  have z18 : Zz (n + 4) mi ml mr4 := by rw [hm4]; exact z17.upR (by omega)
  refine wp_aload_n (pc := 36) dX0_init_36 rfl ?_
  refine wp_iconst (v := 4) (pc := 37) dX0_init_37 (by decide) ?_
  refine wp_newa (i := 0) (pc := 38) (t := 1) (N := 4) (mi' := mi) (ml' := ml) dX0_init_38 (by simp) (tb_1 108 rfl rfl) (by decide) rfl (by decide) (Nat.le_of_ble_eq_true rfl) (Nat.le_of_ble_eq_true rfl) (fun _ _ => rfl) (fun _ _ => rfl) (z18 _ (Nat.le_of_eq hn4.symm)).1 (z18 _ (Nat.le_of_eq hn4.symm)).2.1 ?_
  rw [hn4]
  obtain ⟨kd5, hk5⟩ : ∃ k, k = kd4 ++ [(1, 4)] := ⟨_, rfl⟩
  rw [← hk5]
  have hn5 : kd5.length = n + 5 := by rw [hk5, List.length_append, hn4]; rfl
  have hh0_5 := k_at hk5 hh0_4
  have hc4 : kd5[n + 4]? = some (1, 4) := by rw [hk5]; exact k_new hn4
  have z21 : Zz (n + 5) mi ml mr4 := z18.mono (by omega)
  refine wp_cs (cs' := 5) (ss' := 28) rfl rfl ?_
  refine wp_putR (pc := 40) dX0_init_40 fl_X0_24 rfl ⟨rfl, (RX0, TX0, 11), rfl, rfl, tb_1 81 rfl rfl⟩ hh0_5 ?_
  obtain ⟨mr5, hm5⟩ : ∃ m, m = pm_up mr4 (h) 10 (some (n + 4)) := ⟨_, rfl⟩
  rw [← hm5]
  have z22 : Zz (n + 5) mi ml mr5 := by rw [hm5]; exact z21.upR (by omega)
  exact wp_vret (pc := 43) dX0_init_43 rfl ⟨rfl, by rw [hk5, hk4, hk3, hk2, hk1]; simp only [List.append_assoc]; rfl, rfl, rfl, by rw [hm5, hm4, hm3, hm2, hm1]; rfl⟩
theorem z_X0 {h n : Nat} {mi : pm_I} {ml : pm_L} {mr : pm_R} (z : Zz n mi ml mr) (hlt : h < n) : Zz (n + 5) mi ml (rX0 mr h n) := by
  have z := z.mono (Nat.le_add_right n 5)
  intro k hk
  obtain ⟨e1, e2, e3⟩ := z k hk
  refine ⟨?_, e2, ?_⟩
  · exact e1
  · rw [rX0_ge (by omega) (by omega)]; exact e3
def rX6 (mr : pm_R) (h n : Nat) : pm_R := (pm_up (pm_up (pm_up mr (h) 0 (some (n))) (h) 1 (some (n + 1))) (h) 2 (some (n + 2)))
def iX6 (mi : pm_I) (h n : Nat) : pm_I := mi
def kX6 : pm_K := [(1, 40)] ++ ([(1, 40)] ++ ([(1, 40)]))
theorem rX6_ge {h n a : Nat} {mr : pm_R} (hlt : h < n) (ha : n + 3 ≤ a) : rX6 mr h n a = mr a := by
  unfold rX6; rw [pm_up_row _ _ (by omega), pm_up_row _ _ (by omega), pm_up_row _ _ (by omega)]
theorem rX6_lt {h n a : Nat} {mr : pm_R} (hlt : h < n) (ha : a < h) : rX6 mr h n a = mr a := by
  unfold rX6; rw [pm_up_row _ _ (by omega), pm_up_row _ _ (by omega), pm_up_row _ _ (by omega)]
theorem iX6_ge {h n a : Nat} {mi : pm_I} (hlt : h < n) (ha : n + 3 ≤ a) : iX6 mi h n a = mi a := by
  unfold iX6; rfl
theorem iX6_lt {h n a : Nat} {mi : pm_I} (hlt : h < n) (ha : a < h) : iX6 mi h n a = mi a := by
  unfold iX6; rfl
theorem n_X6 {l : Launch} {d h n : Nat} {kd : pm_K} {mi : pm_I} {ml : pm_L} {mr : pm_R} (hh0 : kd[h]? = some (0, 6)) (hn0 : kd.length = n) (hlt : h < n) (z0 : Zz n mi ml mr) : wpc l M_X6_init (d + 1) 3 120 [.ref h] kd mi ml mr (qN (kd ++ kX6) mi ml (rX6 mr h n)) := by
  show wp l M_X6_init (d + 1) 3 120 0 [some (.ref h)] [] 0 0 kd mi ml mr _
  refine wp_aload_n (pc := 0) dX6_init_0 rfl ?_
  refine wp_objInit (pc := 1) dX6_init_1 ⟨tb_1 113 rfl rfl, tb_1 29 rfl rfl, tb_1 30 rfl rfl⟩ (Nat.succ_pos _) (Nat.le_of_ble_eq_true rfl) ?_
  refine wp_aload_n (pc := 4) dX6_init_4 rfl ?_
  refine wp_bipush (v := 40) (pc := 5) dX6_init_5 (by decide) ?_
  refine wp_newa (i := 0) (pc := 7) (t := 1) (N := 40) (mi' := mi) (ml' := ml) dX6_init_7 (by simp) (tb_1 108 rfl rfl) (by decide) rfl (by decide) (Nat.le_of_ble_eq_true rfl) (Nat.le_of_ble_eq_true rfl) (fun _ _ => rfl) (fun _ _ => rfl) (z0 _ (Nat.le_of_eq hn0.symm)).1 (z0 _ (Nat.le_of_eq hn0.symm)).2.1 ?_
  rw [hn0]
  obtain ⟨kd1, hk1⟩ : ∃ k, k = kd ++ [(1, 40)] := ⟨_, rfl⟩
  rw [← hk1]
  have hn1 : kd1.length = n + 1 := by rw [hk1, List.length_append, hn0]; rfl
  have hh0_1 := k_at hk1 hh0
  have hc0 : kd1[n]? = some (1, 40) := by rw [hk1]; exact k_new hn0
  have z5 : Zz (n + 1) mi ml mr := z0.mono (by omega)
  refine wp_cs (cs' := 1) (ss' := 40) rfl rfl ?_
  refine wp_putR (pc := 9) dX6_init_9 fl_X6_9 rfl ⟨rfl, (RX6, TX6, 4), rfl, rfl, tb_1 114 rfl rfl⟩ hh0_1 ?_
  obtain ⟨mr1, hm1⟩ : ∃ m, m = pm_up mr (h) 0 (some (n)) := ⟨_, rfl⟩
  rw [← hm1]
  have z6 : Zz (n + 1) mi ml mr1 := by rw [hm1]; exact z5.upR (by omega)
  refine wp_aload_n (pc := 12) dX6_init_12 rfl ?_
  refine wp_bipush (v := 40) (pc := 13) dX6_init_13 (by decide) ?_
  refine wp_newa (i := 0) (pc := 15) (t := 1) (N := 40) (mi' := mi) (ml' := ml) dX6_init_15 (by simp) (tb_1 108 rfl rfl) (by decide) rfl (by decide) (Nat.le_of_ble_eq_true rfl) (Nat.le_of_ble_eq_true rfl) (fun _ _ => rfl) (fun _ _ => rfl) (z6 _ (Nat.le_of_eq hn1.symm)).1 (z6 _ (Nat.le_of_eq hn1.symm)).2.1 ?_
  rw [hn1]
  obtain ⟨kd2, hk2⟩ : ∃ k, k = kd1 ++ [(1, 40)] := ⟨_, rfl⟩
  rw [← hk2]
  have hn2 : kd2.length = n + 2 := by rw [hk2, List.length_append, hn1]; rfl
  have hh0_2 := k_at hk2 hh0_1
  have hc1 : kd2[n + 1]? = some (1, 40) := by rw [hk2]; exact k_new hn1
  have z9 : Zz (n + 2) mi ml mr1 := z6.mono (by omega)
  refine wp_cs (cs' := 2) (ss' := 80) rfl rfl ?_
  refine wp_putR (pc := 17) dX6_init_17 fl_X6_15 rfl ⟨rfl, (RX6, TX6, 4), rfl, rfl, tb_1 118 rfl rfl⟩ hh0_2 ?_
  obtain ⟨mr2, hm2⟩ : ∃ m, m = pm_up mr1 (h) 1 (some (n + 1)) := ⟨_, rfl⟩
  rw [← hm2]
  have z10 : Zz (n + 2) mi ml mr2 := by rw [hm2]; exact z9.upR (by omega)
  refine wp_aload_n (pc := 20) dX6_init_20 rfl ?_
  refine wp_bipush (v := 40) (pc := 21) dX6_init_21 (by decide) ?_
  refine wp_newa (i := 0) (pc := 23) (t := 1) (N := 40) (mi' := mi) (ml' := ml) dX6_init_23 (by simp) (tb_1 108 rfl rfl) (by decide) rfl (by decide) (Nat.le_of_ble_eq_true rfl) (Nat.le_of_ble_eq_true rfl) (fun _ _ => rfl) (fun _ _ => rfl) (z10 _ (Nat.le_of_eq hn2.symm)).1 (z10 _ (Nat.le_of_eq hn2.symm)).2.1 ?_
  rw [hn2]
  obtain ⟨kd3, hk3⟩ : ∃ k, k = kd2 ++ [(1, 40)] := ⟨_, rfl⟩
  rw [← hk3]
  have hn3 : kd3.length = n + 3 := by rw [hk3, List.length_append, hn2]; rfl
  have hh0_3 := k_at hk3 hh0_2
  have hc2 : kd3[n + 2]? = some (1, 40) := by rw [hk3]; exact k_new hn2
  have z13 : Zz (n + 3) mi ml mr2 := z10.mono (by omega)
  refine wp_cs (cs' := 3) (ss' := 120) rfl rfl ?_
  refine wp_putR (pc := 25) dX6_init_25 fl_X6_18 rfl ⟨rfl, (RX6, TX6, 4), rfl, rfl, tb_1 121 rfl rfl⟩ hh0_3 ?_
  obtain ⟨mr3, hm3⟩ : ∃ m, m = pm_up mr2 (h) 2 (some (n + 2)) := ⟨_, rfl⟩
  rw [← hm3]
  have z14 : Zz (n + 3) mi ml mr3 := by rw [hm3]; exact z13.upR (by omega)
  exact wp_vret (pc := 28) dX6_init_28 rfl ⟨rfl, by rw [hk3, hk2, hk1]; simp only [List.append_assoc]; rfl, rfl, rfl, by rw [hm3, hm2, hm1]; rfl⟩
theorem z_X6 {h n : Nat} {mi : pm_I} {ml : pm_L} {mr : pm_R} (z : Zz n mi ml mr) (hlt : h < n) : Zz (n + 3) mi ml (rX6 mr h n) := by
  have z := z.mono (Nat.le_add_right n 3)
  intro k hk
  obtain ⟨e1, e2, e3⟩ := z k hk
  refine ⟨?_, e2, ?_⟩
  · exact e1
  · rw [rX6_ge (by omega) (by omega)]; exact e3
def rX7 (mr : pm_R) (h n : Nat) : pm_R := (pm_up mr (h) 0 (some (n)))
def iX7 (mi : pm_I) (h n : Nat) : pm_I := mi
def kX7 : pm_K := [(2, 57)]
theorem rX7_ge {h n a : Nat} {mr : pm_R} (hlt : h < n) (ha : n + 1 ≤ a) : rX7 mr h n a = mr a := by
  unfold rX7; rw [pm_up_row _ _ (by omega)]
theorem rX7_lt {h n a : Nat} {mr : pm_R} (hlt : h < n) (ha : a < h) : rX7 mr h n a = mr a := by
  unfold rX7; rw [pm_up_row _ _ (by omega)]
theorem iX7_ge {h n a : Nat} {mi : pm_I} (hlt : h < n) (ha : n + 1 ≤ a) : iX7 mi h n a = mi a := by
  unfold iX7; rfl
theorem iX7_lt {h n a : Nat} {mi : pm_I} (hlt : h < n) (ha : a < h) : iX7 mi h n a = mi a := by
  unfold iX7; rfl
theorem n_X7 {l : Launch} {d h n : Nat} {kd : pm_K} {mi : pm_I} {ml : pm_L} {mr : pm_R} (hh0 : kd[h]? = some (0, 7)) (hn0 : kd.length = n) (hlt : h < n) (z0 : Zz n mi ml mr) : wpc l M_X7_init (d + 1) 1 57 [.ref h] kd mi ml mr (qN (kd ++ kX7) mi ml (rX7 mr h n)) := by
  show wp l M_X7_init (d + 1) 1 57 0 [some (.ref h)] [] 0 0 kd mi ml mr _
  refine wp_aload_n (pc := 0) dX7_init_0 rfl ?_
  refine wp_objInit (pc := 1) dX7_init_1 ⟨tb_2 10 rfl rfl, tb_1 29 rfl rfl, tb_1 30 rfl rfl⟩ (Nat.succ_pos _) (Nat.le_of_ble_eq_true rfl) ?_
  refine wp_aload_n (pc := 4) dX7_init_4 rfl ?_
  refine wp_bipush (v := 57) (pc := 5) dX7_init_5 (by decide) ?_
  refine wp_newa (i := 0) (pc := 7) (t := 2) (N := 57) (mi' := mi) (ml' := ml) dX7_init_7 (by simp) (tb_2 15 rfl rfl) (by decide) rfl (by decide) (Nat.le_of_ble_eq_true rfl) (Nat.le_of_ble_eq_true rfl) (fun _ _ => rfl) (fun _ _ => rfl) (z0 _ (Nat.le_of_eq hn0.symm)).1 (z0 _ (Nat.le_of_eq hn0.symm)).2.1 ?_
  rw [hn0]
  obtain ⟨kd1, hk1⟩ : ∃ k, k = kd ++ [(2, 57)] := ⟨_, rfl⟩
  rw [← hk1]
  have hn1 : kd1.length = n + 1 := by rw [hk1, List.length_append, hn0]; rfl
  have hh0_1 := k_at hk1 hh0
  have hc0 : kd1[n]? = some (2, 57) := by rw [hk1]; exact k_new hn0
  have z5 : Zz (n + 1) mi ml mr := z0.mono (by omega)
  refine wp_cs (cs' := 1) (ss' := 57) rfl rfl ?_
  refine wp_putR (pc := 9) dX7_init_9 fl_X7_11 rfl ⟨rfl, (RX7, TX7, 1), rfl, rfl, tb_2 11 rfl rfl⟩ hh0_1 ?_
  obtain ⟨mr1, hm1⟩ : ∃ m, m = pm_up mr (h) 0 (some (n)) := ⟨_, rfl⟩
  rw [← hm1]
  have z6 : Zz (n + 1) mi ml mr1 := by rw [hm1]; exact z5.upR (by omega)
  exact wp_vret (pc := 12) dX7_init_12 rfl ⟨rfl, by rw [hk1]; rfl, rfl, rfl, by rw [hm1]; rfl⟩
theorem z_X7 {h n : Nat} {mi : pm_I} {ml : pm_L} {mr : pm_R} (z : Zz n mi ml mr) (hlt : h < n) : Zz (n + 1) mi ml (rX7 mr h n) := by
  have z := z.mono (Nat.le_add_right n 1)
  intro k hk
  obtain ⟨e1, e2, e3⟩ := z k hk
  refine ⟨?_, e2, ?_⟩
  · exact e1
  · rw [rX7_ge (by omega) (by omega)]; exact e3
def rX10 (mr : pm_R) (h n : Nat) : pm_R := (pm_up (rX6 mr (n) (n + 1)) (h) 2 (some (n)))
def iX10 (mi : pm_I) (h n : Nat) : pm_I := mi
def kX10 : pm_K := [(0, 6)] ++ (kX6)
theorem rX10_ge {h n a : Nat} {mr : pm_R} (hlt : h < n) (ha : n + 4 ≤ a) : rX10 mr h n a = mr a := by
  unfold rX10; rw [pm_up_row _ _ (by omega), rX6_ge (by omega) (by omega)]
theorem rX10_lt {h n a : Nat} {mr : pm_R} (hlt : h < n) (ha : a < h) : rX10 mr h n a = mr a := by
  unfold rX10; rw [pm_up_row _ _ (by omega), rX6_lt (by omega) (by omega)]
theorem iX10_ge {h n a : Nat} {mi : pm_I} (hlt : h < n) (ha : n + 4 ≤ a) : iX10 mi h n a = mi a := by
  unfold iX10; rfl
theorem iX10_lt {h n a : Nat} {mi : pm_I} (hlt : h < n) (ha : a < h) : iX10 mi h n a = mi a := by
  unfold iX10; rfl
theorem n_X10 {l : Launch} {d h n : Nat} {kd : pm_K} {mi : pm_I} {ml : pm_L} {mr : pm_R} (hh0 : kd[h]? = some (0, 10)) (hn0 : kd.length = n) (hlt : h < n) (z0 : Zz n mi ml mr) : wpc l M_X10_init (d + 2) 4 124 [.ref h] kd mi ml mr (qN (kd ++ kX10) mi ml (rX10 mr h n)) := by
  show wp l M_X10_init (d + 2) 4 124 0 [some (.ref h)] [] 0 0 kd mi ml mr _
  refine wp_aload_n (pc := 0) dX10_init_0 rfl ?_
  refine wp_objInit (pc := 1) dX10_init_1 ⟨tb_1 144 rfl rfl, tb_1 29 rfl rfl, tb_1 30 rfl rfl⟩ (Nat.succ_pos _) (Nat.le_of_ble_eq_true rfl) ?_
  refine wp_aload_n (pc := 4) dX10_init_4 rfl ?_
  refine wp_new (pc := 5) (ci := 6) (C := RX6) (T := TX6) (mi' := mi) (ml' := ml) (mr' := mr) dX10_init_5 rfl ii_X6 tyX6_ok ⟨tb_1 145 rfl rfl, tb_1 109 rfl rfl, tb_1 4 rfl rfl⟩ (Nat.le_of_ble_eq_true rfl) (Nat.le_of_ble_eq_true rfl) (fun ad => fs_0 ad (z0 _ (Nat.le_of_eq hn0.symm)) (by decide)) (fun _ _ => rfl) (fun _ _ => rfl) (fun _ _ => rfl) (fun k e => e ▸ (z0 _ (Nat.le_of_eq hn0.symm)).2.2) (fun _ _ => rfl) ?_
  rw [hn0, show pm_N 6 = 4 from rfl]
  obtain ⟨kd1, hk1⟩ : ∃ k, k = kd ++ [(0, 6)] := ⟨_, rfl⟩
  rw [← hk1]
  have hn1 : kd1.length = n + 1 := by rw [hk1, List.length_append, hn0]; rfl
  have hh0_1 := k_at hk1 hh0
  have hc0 : kd1[n]? = some (0, 6) := by rw [hk1]; exact k_new hn0
  have z4 : Zz (n + 1) mi ml mr := z0.mono (by omega)
  refine wp_cs (cs' := 1) (ss' := 4) rfl rfl ?_
  refine wp_dup (pc := 8) dX10_init_8 rfl ?_
  refine wp_callN (pc := 9) (As := []) (b := n) (d' := d + 1) (mc' := 3) (ms' := 120) dX10_init_9 ml_X10_11 in_X6_init rfl rfl (Nat.le_of_ble_eq_true rfl) (Nat.le_of_ble_eq_true rfl) (by omega) ⟨Nat.le_of_ble_eq_true rfl, Nat.le_of_ble_eq_true rfl⟩ (n_X6 (d := d + 0) hc0 hn1 (by omega) z4) ?_
  obtain ⟨mr1, hm1⟩ : ∃ m, m = rX6 mr (n) (n + 1) := ⟨_, rfl⟩
  rw [← hm1]
  obtain ⟨kd2, hk2⟩ : ∃ k, k = kd1 ++ kX6 := ⟨_, rfl⟩
  rw [← hk2]
  have hn2 : kd2.length = n + 4 := by rw [hk2, List.length_append, hn1]; rfl
  have hh0_2 := k_at hk2 hh0_1
  have hc0_2 := k_at hk2 hc0
  have z6 : Zz (n + 4) mi ml mr1 := by rw [hm1]; exact z_X6 z4 (by omega)
  refine wp_cs (cs' := 4) (ss' := 124) rfl rfl ?_
  refine wp_putR (pc := 12) dX10_init_12 fl_X10_12 rfl ⟨rfl, (RX10, TX10, 3), rfl, rfl, tb_1 151 rfl rfl⟩ hh0_2 ?_
  obtain ⟨mr2, hm2⟩ : ∃ m, m = pm_up mr1 (h) 2 (some (n)) := ⟨_, rfl⟩
  rw [← hm2]
  have z7 : Zz (n + 4) mi ml mr2 := by rw [hm2]; exact z6.upR (by omega)
  exact wp_vret (pc := 15) dX10_init_15 rfl ⟨rfl, by rw [hk2, hk1]; simp only [List.append_assoc]; rfl, rfl, rfl, by rw [hm2, hm1]; rfl⟩
theorem z_X10 {h n : Nat} {mi : pm_I} {ml : pm_L} {mr : pm_R} (z : Zz n mi ml mr) (hlt : h < n) : Zz (n + 4) mi ml (rX10 mr h n) := by
  have z := z.mono (Nat.le_add_right n 4)
  intro k hk
  obtain ⟨e1, e2, e3⟩ := z k hk
  refine ⟨?_, e2, ?_⟩
  · exact e1
  · rw [rX10_ge (by omega) (by omega)]; exact e3
def rX5 (mr : pm_R) (h n : Nat) : pm_R := (pm_up (rX10 (pm_up (rX6 (pm_up (rX0 (pm_up mr (h) 0 (some (n))) (n + 1) (n + 2)) (h) 8 (some (n + 1))) (n + 7) (n + 8)) (h) 9 (some (n + 7))) (n + 11) (n + 12)) (h) 10 (some (n + 11)))
def iX5 (mi : pm_I) (h n : Nat) : pm_I := mi
def kX5 : pm_K := [(3, 600)] ++ ([(0, 0)] ++ (kX0 ++ ([(0, 6)] ++ (kX6 ++ ([(0, 10)] ++ (kX10))))))
theorem rX5_ge {h n a : Nat} {mr : pm_R} (hlt : h < n) (ha : n + 16 ≤ a) : rX5 mr h n a = mr a := by
  unfold rX5; rw [pm_up_row _ _ (by omega), rX10_ge (by omega) (by omega), pm_up_row _ _ (by omega), rX6_ge (by omega) (by omega), pm_up_row _ _ (by omega), rX0_ge (by omega) (by omega), pm_up_row _ _ (by omega)]
theorem rX5_lt {h n a : Nat} {mr : pm_R} (hlt : h < n) (ha : a < h) : rX5 mr h n a = mr a := by
  unfold rX5; rw [pm_up_row _ _ (by omega), rX10_lt (by omega) (by omega), pm_up_row _ _ (by omega), rX6_lt (by omega) (by omega), pm_up_row _ _ (by omega), rX0_lt (by omega) (by omega), pm_up_row _ _ (by omega)]
theorem iX5_ge {h n a : Nat} {mi : pm_I} (hlt : h < n) (ha : n + 16 ≤ a) : iX5 mi h n a = mi a := by
  unfold iX5; rfl
theorem iX5_lt {h n a : Nat} {mi : pm_I} (hlt : h < n) (ha : a < h) : iX5 mi h n a = mi a := by
  unfold iX5; rfl
theorem n_X5 {l : Launch} {d h n : Nat} {kd : pm_K} {mi : pm_I} {ml : pm_L} {mr : pm_R} (hh0 : kd[h]? = some (0, 5)) (hn0 : kd.length = n) (hlt : h < n) (z0 : Zz n mi ml mr) : wpc l M_X5_init (d + 3) 16 890 [.ref h] kd mi ml mr (qN (kd ++ kX5) mi ml (rX5 mr h n)) := by
  show wp l M_X5_init (d + 3) 16 890 0 [some (.ref h)] [] 0 0 kd mi ml mr _
  refine wp_aload_n (pc := 0) dX5_init_0 rfl ?_
  refine wp_objInit (pc := 1) dX5_init_1 ⟨tb_1 198 rfl rfl, tb_1 29 rfl rfl, tb_1 30 rfl rfl⟩ (Nat.succ_pos _) (Nat.le_of_ble_eq_true rfl) ?_
  refine wp_aload_n (pc := 4) dX5_init_4 rfl ?_
  refine wp_sipush (v := 600) (pc := 5) dX5_init_5 (by decide) ?_
  refine wp_newa (i := 0) (pc := 8) (t := 3) (N := 600) (mi' := mi) (ml' := ml) dX5_init_8 (by simp) (tb_1 107 rfl rfl) (by decide) rfl (by decide) (Nat.le_of_ble_eq_true rfl) (Nat.le_of_ble_eq_true rfl) (fun _ _ => rfl) (fun _ _ => rfl) (z0 _ (Nat.le_of_eq hn0.symm)).1 (z0 _ (Nat.le_of_eq hn0.symm)).2.1 ?_
  rw [hn0]
  obtain ⟨kd1, hk1⟩ : ∃ k, k = kd ++ [(3, 600)] := ⟨_, rfl⟩
  rw [← hk1]
  have hn1 : kd1.length = n + 1 := by rw [hk1, List.length_append, hn0]; rfl
  have hh0_1 := k_at hk1 hh0
  have hc0 : kd1[n]? = some (3, 600) := by rw [hk1]; exact k_new hn0
  have z5 : Zz (n + 1) mi ml mr := z0.mono (by omega)
  refine wp_cs (cs' := 1) (ss' := 600) rfl rfl ?_
  refine wp_putR (pc := 10) dX5_init_10 fl_X5_9 rfl ⟨rfl, (RX5, TX5, 11), rfl, rfl, tb_1 205 rfl rfl⟩ hh0_1 ?_
  obtain ⟨mr1, hm1⟩ : ∃ m, m = pm_up mr (h) 0 (some (n)) := ⟨_, rfl⟩
  rw [← hm1]
  have z6 : Zz (n + 1) mi ml mr1 := by rw [hm1]; exact z5.upR (by omega)
  refine wp_aload_n (pc := 13) dX5_init_13 rfl ?_
  refine wp_new (pc := 14) (ci := 0) (C := RX0) (T := TX0) (mi' := mi) (ml' := ml) (mr' := mr1) dX5_init_14 rfl ii_X0 tyX0_ok ⟨tb_1 199 rfl rfl, tb_1 43 rfl rfl, tb_1 3 rfl rfl⟩ (Nat.le_of_ble_eq_true rfl) (Nat.le_of_ble_eq_true rfl) (fun ad => fs_0 ad (z6 _ (Nat.le_of_eq hn1.symm)) (by decide)) (fun _ _ => rfl) (fun _ _ => rfl) (fun _ _ => rfl) (fun k e => e ▸ (z6 _ (Nat.le_of_eq hn1.symm)).2.2) (fun _ _ => rfl) ?_
  rw [hn1, show pm_N 0 = 11 from rfl]
  obtain ⟨kd2, hk2⟩ : ∃ k, k = kd1 ++ [(0, 0)] := ⟨_, rfl⟩
  rw [← hk2]
  have hn2 : kd2.length = n + 2 := by rw [hk2, List.length_append, hn1]; rfl
  have hh0_2 := k_at hk2 hh0_1
  have hc1 : kd2[n + 1]? = some (0, 0) := by rw [hk2]; exact k_new hn1
  have z8 : Zz (n + 2) mi ml mr1 := z6.mono (by omega)
  refine wp_cs (cs' := 2) (ss' := 611) rfl rfl ?_
  refine wp_dup (pc := 17) dX5_init_17 rfl ?_
  refine wp_callN (pc := 18) (As := []) (b := n + 1) (d' := d + 2) (mc' := 5) (ms' := 28) dX5_init_18 ml_X5_17 in_X0_init rfl rfl (Nat.le_of_ble_eq_true rfl) (Nat.le_of_ble_eq_true rfl) (by omega) ⟨Nat.le_of_ble_eq_true rfl, Nat.le_of_ble_eq_true rfl⟩ (n_X0 (d := d + 1) hc1 hn2 (by omega) z8) ?_
  obtain ⟨mr2, hm2⟩ : ∃ m, m = rX0 mr1 (n + 1) (n + 2) := ⟨_, rfl⟩
  rw [← hm2]
  obtain ⟨kd3, hk3⟩ : ∃ k, k = kd2 ++ kX0 := ⟨_, rfl⟩
  rw [← hk3]
  have hn3 : kd3.length = n + 7 := by rw [hk3, List.length_append, hn2]; rfl
  have hh0_3 := k_at hk3 hh0_2
  have hc1_3 := k_at hk3 hc1
  have z10 : Zz (n + 7) mi ml mr2 := by rw [hm2]; exact z_X0 z8 (by omega)
  refine wp_cs (cs' := 7) (ss' := 639) rfl rfl ?_
  refine wp_putR (pc := 21) dX5_init_21 fl_X5_18 rfl ⟨rfl, (RX5, TX5, 11), rfl, rfl, tb_1 215 rfl rfl⟩ hh0_3 ?_
  obtain ⟨mr3, hm3⟩ : ∃ m, m = pm_up mr2 (h) 8 (some (n + 1)) := ⟨_, rfl⟩
  rw [← hm3]
  have z11 : Zz (n + 7) mi ml mr3 := by rw [hm3]; exact z10.upR (by omega)
  refine wp_aload_n (pc := 24) dX5_init_24 rfl ?_
  refine wp_new (pc := 25) (ci := 6) (C := RX6) (T := TX6) (mi' := mi) (ml' := ml) (mr' := mr3) dX5_init_25 rfl ii_X6 tyX6_ok ⟨tb_1 201 rfl rfl, tb_1 109 rfl rfl, tb_1 4 rfl rfl⟩ (Nat.le_of_ble_eq_true rfl) (Nat.le_of_ble_eq_true rfl) (fun ad => fs_0 ad (z11 _ (Nat.le_of_eq hn3.symm)) (by decide)) (fun _ _ => rfl) (fun _ _ => rfl) (fun _ _ => rfl) (fun k e => e ▸ (z11 _ (Nat.le_of_eq hn3.symm)).2.2) (fun _ _ => rfl) ?_
  rw [hn3, show pm_N 6 = 4 from rfl]
  obtain ⟨kd4, hk4⟩ : ∃ k, k = kd3 ++ [(0, 6)] := ⟨_, rfl⟩
  rw [← hk4]
  have hn4 : kd4.length = n + 8 := by rw [hk4, List.length_append, hn3]; rfl
  have hh0_4 := k_at hk4 hh0_3
  have hc7 : kd4[n + 7]? = some (0, 6) := by rw [hk4]; exact k_new hn3
  have z13 : Zz (n + 8) mi ml mr3 := z11.mono (by omega)
  refine wp_cs (cs' := 8) (ss' := 643) rfl rfl ?_
  refine wp_dup (pc := 28) dX5_init_28 rfl ?_
  refine wp_callN (pc := 29) (As := []) (b := n + 7) (d' := d + 2) (mc' := 3) (ms' := 120) dX5_init_29 ml_X5_24 in_X6_init rfl rfl (Nat.le_of_ble_eq_true rfl) (Nat.le_of_ble_eq_true rfl) (by omega) ⟨Nat.le_of_ble_eq_true rfl, Nat.le_of_ble_eq_true rfl⟩ (n_X6 (d := d + 1) hc7 hn4 (by omega) z13) ?_
  obtain ⟨mr4, hm4⟩ : ∃ m, m = rX6 mr3 (n + 7) (n + 8) := ⟨_, rfl⟩
  rw [← hm4]
  obtain ⟨kd5, hk5⟩ : ∃ k, k = kd4 ++ kX6 := ⟨_, rfl⟩
  rw [← hk5]
  have hn5 : kd5.length = n + 11 := by rw [hk5, List.length_append, hn4]; rfl
  have hh0_5 := k_at hk5 hh0_4
  have hc7_5 := k_at hk5 hc7
  have z15 : Zz (n + 11) mi ml mr4 := by rw [hm4]; exact z_X6 z13 (by omega)
  refine wp_cs (cs' := 11) (ss' := 763) rfl rfl ?_
  refine wp_putR (pc := 32) dX5_init_32 fl_X5_25 rfl ⟨rfl, (RX5, TX5, 11), rfl, rfl, tb_1 217 rfl rfl⟩ hh0_5 ?_
  obtain ⟨mr5, hm5⟩ : ∃ m, m = pm_up mr4 (h) 9 (some (n + 7)) := ⟨_, rfl⟩
  rw [← hm5]
  have z16 : Zz (n + 11) mi ml mr5 := by rw [hm5]; exact z15.upR (by omega)
  refine wp_aload_n (pc := 35) dX5_init_35 rfl ?_
  refine wp_new (pc := 36) (ci := 10) (C := RX10) (T := TX10) (mi' := mi) (ml' := ml) (mr' := mr5) dX5_init_36 rfl ii_X10 tyX10_ok ⟨tb_1 203 rfl rfl, tb_1 140 rfl rfl, tb_1 5 rfl rfl⟩ (Nat.le_of_ble_eq_true rfl) (Nat.le_of_ble_eq_true rfl) (fun ad => fs_0 ad (z16 _ (Nat.le_of_eq hn5.symm)) (by decide)) (fun _ _ => rfl) (fun _ _ => rfl) (fun _ _ => rfl) (fun k e => e ▸ (z16 _ (Nat.le_of_eq hn5.symm)).2.2) (fun _ _ => rfl) ?_
  rw [hn5, show pm_N 10 = 3 from rfl]
  obtain ⟨kd6, hk6⟩ : ∃ k, k = kd5 ++ [(0, 10)] := ⟨_, rfl⟩
  rw [← hk6]
  have hn6 : kd6.length = n + 12 := by rw [hk6, List.length_append, hn5]; rfl
  have hh0_6 := k_at hk6 hh0_5
  have hc11 : kd6[n + 11]? = some (0, 10) := by rw [hk6]; exact k_new hn5
  have z18 : Zz (n + 12) mi ml mr5 := z16.mono (by omega)
  refine wp_cs (cs' := 12) (ss' := 766) rfl rfl ?_
  refine wp_dup (pc := 39) dX5_init_39 rfl ?_
  refine wp_callN (pc := 40) (As := []) (b := n + 11) (d' := d + 2) (mc' := 4) (ms' := 124) dX5_init_40 ml_X5_31 in_X10_init rfl rfl (Nat.le_of_ble_eq_true rfl) (Nat.le_of_ble_eq_true rfl) (by omega) ⟨Nat.le_of_ble_eq_true rfl, Nat.le_of_ble_eq_true rfl⟩ (n_X10 (d := d + 0) hc11 hn6 (by omega) z18) ?_
  obtain ⟨mr6, hm6⟩ : ∃ m, m = rX10 mr5 (n + 11) (n + 12) := ⟨_, rfl⟩
  rw [← hm6]
  obtain ⟨kd7, hk7⟩ : ∃ k, k = kd6 ++ kX10 := ⟨_, rfl⟩
  rw [← hk7]
  have hn7 : kd7.length = n + 16 := by rw [hk7, List.length_append, hn6]; rfl
  have hh0_7 := k_at hk7 hh0_6
  have hc11_7 := k_at hk7 hc11
  have z20 : Zz (n + 16) mi ml mr6 := by rw [hm6]; exact z_X10 z18 (by omega)
  refine wp_cs (cs' := 16) (ss' := 890) rfl rfl ?_
  refine wp_putR (pc := 43) dX5_init_43 fl_X5_32 rfl ⟨rfl, (RX5, TX5, 11), rfl, rfl, tb_1 219 rfl rfl⟩ hh0_7 ?_
  obtain ⟨mr7, hm7⟩ : ∃ m, m = pm_up mr6 (h) 10 (some (n + 11)) := ⟨_, rfl⟩
  rw [← hm7]
  have z21 : Zz (n + 16) mi ml mr7 := by rw [hm7]; exact z20.upR (by omega)
  exact wp_vret (pc := 46) dX5_init_46 rfl ⟨rfl, by rw [hk7, hk6, hk5, hk4, hk3, hk2, hk1]; simp only [List.append_assoc]; rfl, rfl, rfl, by rw [hm7, hm6, hm5, hm4, hm3, hm2, hm1]; rfl⟩
theorem z_X5 {h n : Nat} {mi : pm_I} {ml : pm_L} {mr : pm_R} (z : Zz n mi ml mr) (hlt : h < n) : Zz (n + 16) mi ml (rX5 mr h n) := by
  have z := z.mono (Nat.le_add_right n 16)
  intro k hk
  obtain ⟨e1, e2, e3⟩ := z k hk
  refine ⟨?_, e2, ?_⟩
  · exact e1
  · rw [rX5_ge (by omega) (by omega)]; exact e3
def rX1 (mr : pm_R) (h n : Nat) : pm_R := (pm_up (pm_up (pm_up (pm_up (rX7 mr (n) (n + 1)) (h) 0 (some (n))) (h) 1 (some (n + 2))) (h) 2 (some (n + 3))) (h) 3 (some (n + 4)))
def iX1 (mi : pm_I) (h n : Nat) : pm_I := mi
def kX1 : pm_K := [(0, 7)] ++ (kX7 ++ ([(2, 6)] ++ ([(1, 64)] ++ ([(2, 64)]))))
theorem rX1_ge {h n a : Nat} {mr : pm_R} (hlt : h < n) (ha : n + 5 ≤ a) : rX1 mr h n a = mr a := by
  unfold rX1; rw [pm_up_row _ _ (by omega), pm_up_row _ _ (by omega), pm_up_row _ _ (by omega), pm_up_row _ _ (by omega), rX7_ge (by omega) (by omega)]
theorem rX1_lt {h n a : Nat} {mr : pm_R} (hlt : h < n) (ha : a < h) : rX1 mr h n a = mr a := by
  unfold rX1; rw [pm_up_row _ _ (by omega), pm_up_row _ _ (by omega), pm_up_row _ _ (by omega), pm_up_row _ _ (by omega), rX7_lt (by omega) (by omega)]
theorem iX1_ge {h n a : Nat} {mi : pm_I} (hlt : h < n) (ha : n + 5 ≤ a) : iX1 mi h n a = mi a := by
  unfold iX1; rfl
theorem iX1_lt {h n a : Nat} {mi : pm_I} (hlt : h < n) (ha : a < h) : iX1 mi h n a = mi a := by
  unfold iX1; rfl
theorem n_X1 {l : Launch} {d h n : Nat} {kd : pm_K} {mi : pm_I} {ml : pm_L} {mr : pm_R} (hh0 : kd[h]? = some (0, 1)) (hn0 : kd.length = n) (hlt : h < n) (z0 : Zz n mi ml mr) : wpc l M_X1_init (d + 2) 5 192 [.ref h] kd mi ml mr (qN (kd ++ kX1) mi ml (rX1 mr h n)) := by
  show wp l M_X1_init (d + 2) 5 192 0 [some (.ref h)] [] 0 0 kd mi ml mr _
  refine wp_aload_n (pc := 0) dX1_init_0 rfl ?_
  refine wp_objInit (pc := 1) dX1_init_1 ⟨tb_2 21 rfl rfl, tb_1 29 rfl rfl, tb_1 30 rfl rfl⟩ (Nat.succ_pos _) (Nat.le_of_ble_eq_true rfl) ?_
  refine wp_aload_n (pc := 4) dX1_init_4 rfl ?_
  refine wp_new (pc := 5) (ci := 7) (C := RX7) (T := TX7) (mi' := mi) (ml' := ml) (mr' := mr) dX1_init_5 rfl ii_X7 tyX7_ok ⟨tb_2 22 rfl rfl, tb_2 6 rfl rfl, tb_1 7 rfl rfl⟩ (Nat.le_of_ble_eq_true rfl) (Nat.le_of_ble_eq_true rfl) (fun ad => fs_0 ad (z0 _ (Nat.le_of_eq hn0.symm)) (by decide)) (fun _ _ => rfl) (fun _ _ => rfl) (fun _ _ => rfl) (fun k e => e ▸ (z0 _ (Nat.le_of_eq hn0.symm)).2.2) (fun _ _ => rfl) ?_
  rw [hn0, show pm_N 7 = 1 from rfl]
  obtain ⟨kd1, hk1⟩ : ∃ k, k = kd ++ [(0, 7)] := ⟨_, rfl⟩
  rw [← hk1]
  have hn1 : kd1.length = n + 1 := by rw [hk1, List.length_append, hn0]; rfl
  have hh0_1 := k_at hk1 hh0
  have hc0 : kd1[n]? = some (0, 7) := by rw [hk1]; exact k_new hn0
  have z4 : Zz (n + 1) mi ml mr := z0.mono (by omega)
  refine wp_cs (cs' := 1) (ss' := 1) rfl rfl ?_
  refine wp_dup (pc := 8) dX1_init_8 rfl ?_
  refine wp_callN (pc := 9) (As := []) (b := n) (d' := d + 1) (mc' := 1) (ms' := 57) dX1_init_9 ml_X1_11 in_X7_init rfl rfl (Nat.le_of_ble_eq_true rfl) (Nat.le_of_ble_eq_true rfl) (by omega) ⟨Nat.le_of_ble_eq_true rfl, Nat.le_of_ble_eq_true rfl⟩ (n_X7 (d := d + 0) hc0 hn1 (by omega) z4) ?_
  obtain ⟨mr1, hm1⟩ : ∃ m, m = rX7 mr (n) (n + 1) := ⟨_, rfl⟩
  rw [← hm1]
  obtain ⟨kd2, hk2⟩ : ∃ k, k = kd1 ++ kX7 := ⟨_, rfl⟩
  rw [← hk2]
  have hn2 : kd2.length = n + 2 := by rw [hk2, List.length_append, hn1]; rfl
  have hh0_2 := k_at hk2 hh0_1
  have hc0_2 := k_at hk2 hc0
  have z6 : Zz (n + 2) mi ml mr1 := by rw [hm1]; exact z_X7 z4 (by omega)
  refine wp_cs (cs' := 2) (ss' := 58) rfl rfl ?_
  refine wp_putR (pc := 12) dX1_init_12 fl_X1_12 rfl ⟨rfl, (RX1, TX1, 7), rfl, rfl, tb_2 24 rfl rfl⟩ hh0_2 ?_
  obtain ⟨mr2, hm2⟩ : ∃ m, m = pm_up mr1 (h) 0 (some (n)) := ⟨_, rfl⟩
  rw [← hm2]
  have z7 : Zz (n + 2) mi ml mr2 := by rw [hm2]; exact z6.upR (by omega)
  refine wp_aload_n (pc := 15) dX1_init_15 rfl ?_
  refine wp_bipush (v := 6) (pc := 16) dX1_init_16 (by decide) ?_
  refine wp_newa (i := 0) (pc := 18) (t := 2) (N := 6) (mi' := mi) (ml' := ml) dX1_init_18 (by simp) (tb_2 15 rfl rfl) (by decide) rfl (by decide) (Nat.le_of_ble_eq_true rfl) (Nat.le_of_ble_eq_true rfl) (fun _ _ => rfl) (fun _ _ => rfl) (z7 _ (Nat.le_of_eq hn2.symm)).1 (z7 _ (Nat.le_of_eq hn2.symm)).2.1 ?_
  rw [hn2]
  obtain ⟨kd3, hk3⟩ : ∃ k, k = kd2 ++ [(2, 6)] := ⟨_, rfl⟩
  rw [← hk3]
  have hn3 : kd3.length = n + 3 := by rw [hk3, List.length_append, hn2]; rfl
  have hh0_3 := k_at hk3 hh0_2
  have hc2 : kd3[n + 2]? = some (2, 6) := by rw [hk3]; exact k_new hn2
  have z10 : Zz (n + 3) mi ml mr2 := z7.mono (by omega)
  refine wp_cs (cs' := 3) (ss' := 64) rfl rfl ?_
  refine wp_putR (pc := 20) dX1_init_20 fl_X1_18 rfl ⟨rfl, (RX1, TX1, 7), rfl, rfl, tb_2 25 rfl rfl⟩ hh0_3 ?_
  obtain ⟨mr3, hm3⟩ : ∃ m, m = pm_up mr2 (h) 1 (some (n + 2)) := ⟨_, rfl⟩
  rw [← hm3]
  have z11 : Zz (n + 3) mi ml mr3 := by rw [hm3]; exact z10.upR (by omega)
  refine wp_aload_n (pc := 23) dX1_init_23 rfl ?_
  refine wp_bipush (v := 64) (pc := 24) dX1_init_24 (by decide) ?_
  refine wp_newa (i := 0) (pc := 26) (t := 1) (N := 64) (mi' := mi) (ml' := ml) dX1_init_26 (by simp) (tb_1 108 rfl rfl) (by decide) rfl (by decide) (Nat.le_of_ble_eq_true rfl) (Nat.le_of_ble_eq_true rfl) (fun _ _ => rfl) (fun _ _ => rfl) (z11 _ (Nat.le_of_eq hn3.symm)).1 (z11 _ (Nat.le_of_eq hn3.symm)).2.1 ?_
  rw [hn3]
  obtain ⟨kd4, hk4⟩ : ∃ k, k = kd3 ++ [(1, 64)] := ⟨_, rfl⟩
  rw [← hk4]
  have hn4 : kd4.length = n + 4 := by rw [hk4, List.length_append, hn3]; rfl
  have hh0_4 := k_at hk4 hh0_3
  have hc3 : kd4[n + 3]? = some (1, 64) := by rw [hk4]; exact k_new hn3
  have z14 : Zz (n + 4) mi ml mr3 := z11.mono (by omega)
  refine wp_cs (cs' := 4) (ss' := 128) rfl rfl ?_
  refine wp_putR (pc := 28) dX1_init_28 fl_X1_22 rfl ⟨rfl, (RX1, TX1, 7), rfl, rfl, tb_2 26 rfl rfl⟩ hh0_4 ?_
  obtain ⟨mr4, hm4⟩ : ∃ m, m = pm_up mr3 (h) 2 (some (n + 3)) := ⟨_, rfl⟩
  rw [← hm4]
  have z15 : Zz (n + 4) mi ml mr4 := by rw [hm4]; exact z14.upR (by omega)
  refine wp_aload_n (pc := 31) dX1_init_31 rfl ?_
  refine wp_bipush (v := 64) (pc := 32) dX1_init_32 (by decide) ?_
  refine wp_newa (i := 0) (pc := 34) (t := 2) (N := 64) (mi' := mi) (ml' := ml) dX1_init_34 (by simp) (tb_2 15 rfl rfl) (by decide) rfl (by decide) (Nat.le_of_ble_eq_true rfl) (Nat.le_of_ble_eq_true rfl) (fun _ _ => rfl) (fun _ _ => rfl) (z15 _ (Nat.le_of_eq hn4.symm)).1 (z15 _ (Nat.le_of_eq hn4.symm)).2.1 ?_
  rw [hn4]
  obtain ⟨kd5, hk5⟩ : ∃ k, k = kd4 ++ [(2, 64)] := ⟨_, rfl⟩
  rw [← hk5]
  have hn5 : kd5.length = n + 5 := by rw [hk5, List.length_append, hn4]; rfl
  have hh0_5 := k_at hk5 hh0_4
  have hc4 : kd5[n + 4]? = some (2, 64) := by rw [hk5]; exact k_new hn4
  have z18 : Zz (n + 5) mi ml mr4 := z15.mono (by omega)
  refine wp_cs (cs' := 5) (ss' := 192) rfl rfl ?_
  refine wp_putR (pc := 36) dX1_init_36 fl_X1_26 rfl ⟨rfl, (RX1, TX1, 7), rfl, rfl, tb_2 27 rfl rfl⟩ hh0_5 ?_
  obtain ⟨mr5, hm5⟩ : ∃ m, m = pm_up mr4 (h) 3 (some (n + 4)) := ⟨_, rfl⟩
  rw [← hm5]
  have z19 : Zz (n + 5) mi ml mr5 := by rw [hm5]; exact z18.upR (by omega)
  exact wp_vret (pc := 39) dX1_init_39 rfl ⟨rfl, by rw [hk5, hk4, hk3, hk2, hk1]; simp only [List.append_assoc]; rfl, rfl, rfl, by rw [hm5, hm4, hm3, hm2, hm1]; rfl⟩
theorem z_X1 {h n : Nat} {mi : pm_I} {ml : pm_L} {mr : pm_R} (z : Zz n mi ml mr) (hlt : h < n) : Zz (n + 5) mi ml (rX1 mr h n) := by
  have z := z.mono (Nat.le_add_right n 5)
  intro k hk
  obtain ⟨e1, e2, e3⟩ := z k hk
  refine ⟨?_, e2, ?_⟩
  · exact e1
  · rw [rX1_ge (by omega) (by omega)]; exact e3
def rX3 (mr : pm_R) (h n : Nat) : pm_R := (pm_up (pm_up (pm_up (pm_up (pm_up (rX7 mr (n) (n + 1)) (h) 0 (some (n))) (h) 1 (some (n + 2))) (h) 2 (some (n + 3))) (h) 3 (some (n + 4))) (h) 4 (some (n + 5)))
def iX3 (mi : pm_I) (h n : Nat) : pm_I := mi
def kX3 : pm_K := [(0, 7)] ++ (kX7 ++ ([(1, 6)] ++ ([(1, 6)] ++ ([(1, 6)] ++ ([(1, 6)])))))
theorem rX3_ge {h n a : Nat} {mr : pm_R} (hlt : h < n) (ha : n + 6 ≤ a) : rX3 mr h n a = mr a := by
  unfold rX3; rw [pm_up_row _ _ (by omega), pm_up_row _ _ (by omega), pm_up_row _ _ (by omega), pm_up_row _ _ (by omega), pm_up_row _ _ (by omega), rX7_ge (by omega) (by omega)]
theorem rX3_lt {h n a : Nat} {mr : pm_R} (hlt : h < n) (ha : a < h) : rX3 mr h n a = mr a := by
  unfold rX3; rw [pm_up_row _ _ (by omega), pm_up_row _ _ (by omega), pm_up_row _ _ (by omega), pm_up_row _ _ (by omega), pm_up_row _ _ (by omega), rX7_lt (by omega) (by omega)]
theorem iX3_ge {h n a : Nat} {mi : pm_I} (hlt : h < n) (ha : n + 6 ≤ a) : iX3 mi h n a = mi a := by
  unfold iX3; rfl
theorem iX3_lt {h n a : Nat} {mi : pm_I} (hlt : h < n) (ha : a < h) : iX3 mi h n a = mi a := by
  unfold iX3; rfl
theorem n_X3 {l : Launch} {d h n : Nat} {kd : pm_K} {mi : pm_I} {ml : pm_L} {mr : pm_R} (hh0 : kd[h]? = some (0, 3)) (hn0 : kd.length = n) (hlt : h < n) (z0 : Zz n mi ml mr) : wpc l M_X3_init (d + 2) 6 82 [.ref h] kd mi ml mr (qN (kd ++ kX3) mi ml (rX3 mr h n)) := by
  show wp l M_X3_init (d + 2) 6 82 0 [some (.ref h)] [] 0 0 kd mi ml mr _
  refine wp_aload_n (pc := 0) dX3_init_0 rfl ?_
  refine wp_objInit (pc := 1) dX3_init_1 ⟨tb_2 51 rfl rfl, tb_1 29 rfl rfl, tb_1 30 rfl rfl⟩ (Nat.succ_pos _) (Nat.le_of_ble_eq_true rfl) ?_
  refine wp_aload_n (pc := 4) dX3_init_4 rfl ?_
  refine wp_new (pc := 5) (ci := 7) (C := RX7) (T := TX7) (mi' := mi) (ml' := ml) (mr' := mr) dX3_init_5 rfl ii_X7 tyX7_ok ⟨tb_2 52 rfl rfl, tb_2 6 rfl rfl, tb_1 7 rfl rfl⟩ (Nat.le_of_ble_eq_true rfl) (Nat.le_of_ble_eq_true rfl) (fun ad => fs_0 ad (z0 _ (Nat.le_of_eq hn0.symm)) (by decide)) (fun _ _ => rfl) (fun _ _ => rfl) (fun _ _ => rfl) (fun k e => e ▸ (z0 _ (Nat.le_of_eq hn0.symm)).2.2) (fun _ _ => rfl) ?_
  rw [hn0, show pm_N 7 = 1 from rfl]
  obtain ⟨kd1, hk1⟩ : ∃ k, k = kd ++ [(0, 7)] := ⟨_, rfl⟩
  rw [← hk1]
  have hn1 : kd1.length = n + 1 := by rw [hk1, List.length_append, hn0]; rfl
  have hh0_1 := k_at hk1 hh0
  have hc0 : kd1[n]? = some (0, 7) := by rw [hk1]; exact k_new hn0
  have z4 : Zz (n + 1) mi ml mr := z0.mono (by omega)
  refine wp_cs (cs' := 1) (ss' := 1) rfl rfl ?_
  refine wp_dup (pc := 8) dX3_init_8 rfl ?_
  refine wp_callN (pc := 9) (As := []) (b := n) (d' := d + 1) (mc' := 1) (ms' := 57) dX3_init_9 ml_X3_11 in_X7_init rfl rfl (Nat.le_of_ble_eq_true rfl) (Nat.le_of_ble_eq_true rfl) (by omega) ⟨Nat.le_of_ble_eq_true rfl, Nat.le_of_ble_eq_true rfl⟩ (n_X7 (d := d + 0) hc0 hn1 (by omega) z4) ?_
  obtain ⟨mr1, hm1⟩ : ∃ m, m = rX7 mr (n) (n + 1) := ⟨_, rfl⟩
  rw [← hm1]
  obtain ⟨kd2, hk2⟩ : ∃ k, k = kd1 ++ kX7 := ⟨_, rfl⟩
  rw [← hk2]
  have hn2 : kd2.length = n + 2 := by rw [hk2, List.length_append, hn1]; rfl
  have hh0_2 := k_at hk2 hh0_1
  have hc0_2 := k_at hk2 hc0
  have z6 : Zz (n + 2) mi ml mr1 := by rw [hm1]; exact z_X7 z4 (by omega)
  refine wp_cs (cs' := 2) (ss' := 58) rfl rfl ?_
  refine wp_putR (pc := 12) dX3_init_12 fl_X3_12 rfl ⟨rfl, (RX3, TX3, 8), rfl, rfl, tb_2 54 rfl rfl⟩ hh0_2 ?_
  obtain ⟨mr2, hm2⟩ : ∃ m, m = pm_up mr1 (h) 0 (some (n)) := ⟨_, rfl⟩
  rw [← hm2]
  have z7 : Zz (n + 2) mi ml mr2 := by rw [hm2]; exact z6.upR (by omega)
  refine wp_aload_n (pc := 15) dX3_init_15 rfl ?_
  refine wp_bipush (v := 6) (pc := 16) dX3_init_16 (by decide) ?_
  refine wp_newa (i := 0) (pc := 18) (t := 1) (N := 6) (mi' := mi) (ml' := ml) dX3_init_18 (by simp) (tb_1 108 rfl rfl) (by decide) rfl (by decide) (Nat.le_of_ble_eq_true rfl) (Nat.le_of_ble_eq_true rfl) (fun _ _ => rfl) (fun _ _ => rfl) (z7 _ (Nat.le_of_eq hn2.symm)).1 (z7 _ (Nat.le_of_eq hn2.symm)).2.1 ?_
  rw [hn2]
  obtain ⟨kd3, hk3⟩ : ∃ k, k = kd2 ++ [(1, 6)] := ⟨_, rfl⟩
  rw [← hk3]
  have hn3 : kd3.length = n + 3 := by rw [hk3, List.length_append, hn2]; rfl
  have hh0_3 := k_at hk3 hh0_2
  have hc2 : kd3[n + 2]? = some (1, 6) := by rw [hk3]; exact k_new hn2
  have z10 : Zz (n + 3) mi ml mr2 := z7.mono (by omega)
  refine wp_cs (cs' := 3) (ss' := 64) rfl rfl ?_
  refine wp_putR (pc := 20) dX3_init_20 fl_X3_18 rfl ⟨rfl, (RX3, TX3, 8), rfl, rfl, tb_2 55 rfl rfl⟩ hh0_3 ?_
  obtain ⟨mr3, hm3⟩ : ∃ m, m = pm_up mr2 (h) 1 (some (n + 2)) := ⟨_, rfl⟩
  rw [← hm3]
  have z11 : Zz (n + 3) mi ml mr3 := by rw [hm3]; exact z10.upR (by omega)
  refine wp_aload_n (pc := 23) dX3_init_23 rfl ?_
  refine wp_bipush (v := 6) (pc := 24) dX3_init_24 (by decide) ?_
  refine wp_newa (i := 0) (pc := 26) (t := 1) (N := 6) (mi' := mi) (ml' := ml) dX3_init_26 (by simp) (tb_1 108 rfl rfl) (by decide) rfl (by decide) (Nat.le_of_ble_eq_true rfl) (Nat.le_of_ble_eq_true rfl) (fun _ _ => rfl) (fun _ _ => rfl) (z11 _ (Nat.le_of_eq hn3.symm)).1 (z11 _ (Nat.le_of_eq hn3.symm)).2.1 ?_
  rw [hn3]
  obtain ⟨kd4, hk4⟩ : ∃ k, k = kd3 ++ [(1, 6)] := ⟨_, rfl⟩
  rw [← hk4]
  have hn4 : kd4.length = n + 4 := by rw [hk4, List.length_append, hn3]; rfl
  have hh0_4 := k_at hk4 hh0_3
  have hc3 : kd4[n + 3]? = some (1, 6) := by rw [hk4]; exact k_new hn3
  have z14 : Zz (n + 4) mi ml mr3 := z11.mono (by omega)
  refine wp_cs (cs' := 4) (ss' := 70) rfl rfl ?_
  refine wp_putR (pc := 28) dX3_init_28 fl_X3_22 rfl ⟨rfl, (RX3, TX3, 8), rfl, rfl, tb_2 56 rfl rfl⟩ hh0_4 ?_
  obtain ⟨mr4, hm4⟩ : ∃ m, m = pm_up mr3 (h) 2 (some (n + 3)) := ⟨_, rfl⟩
  rw [← hm4]
  have z15 : Zz (n + 4) mi ml mr4 := by rw [hm4]; exact z14.upR (by omega)
  refine wp_aload_n (pc := 31) dX3_init_31 rfl ?_
  refine wp_bipush (v := 6) (pc := 32) dX3_init_32 (by decide) ?_
  refine wp_newa (i := 0) (pc := 34) (t := 1) (N := 6) (mi' := mi) (ml' := ml) dX3_init_34 (by simp) (tb_1 108 rfl rfl) (by decide) rfl (by decide) (Nat.le_of_ble_eq_true rfl) (Nat.le_of_ble_eq_true rfl) (fun _ _ => rfl) (fun _ _ => rfl) (z15 _ (Nat.le_of_eq hn4.symm)).1 (z15 _ (Nat.le_of_eq hn4.symm)).2.1 ?_
  rw [hn4]
  obtain ⟨kd5, hk5⟩ : ∃ k, k = kd4 ++ [(1, 6)] := ⟨_, rfl⟩
  rw [← hk5]
  have hn5 : kd5.length = n + 5 := by rw [hk5, List.length_append, hn4]; rfl
  have hh0_5 := k_at hk5 hh0_4
  have hc4 : kd5[n + 4]? = some (1, 6) := by rw [hk5]; exact k_new hn4
  have z18 : Zz (n + 5) mi ml mr4 := z15.mono (by omega)
  refine wp_cs (cs' := 5) (ss' := 76) rfl rfl ?_
  refine wp_putR (pc := 36) dX3_init_36 fl_X3_25 rfl ⟨rfl, (RX3, TX3, 8), rfl, rfl, tb_2 57 rfl rfl⟩ hh0_5 ?_
  obtain ⟨mr5, hm5⟩ : ∃ m, m = pm_up mr4 (h) 3 (some (n + 4)) := ⟨_, rfl⟩
  rw [← hm5]
  have z19 : Zz (n + 5) mi ml mr5 := by rw [hm5]; exact z18.upR (by omega)
  refine wp_aload_n (pc := 39) dX3_init_39 rfl ?_
  refine wp_bipush (v := 6) (pc := 40) dX3_init_40 (by decide) ?_
  refine wp_newa (i := 0) (pc := 42) (t := 1) (N := 6) (mi' := mi) (ml' := ml) dX3_init_42 (by simp) (tb_1 108 rfl rfl) (by decide) rfl (by decide) (Nat.le_of_ble_eq_true rfl) (Nat.le_of_ble_eq_true rfl) (fun _ _ => rfl) (fun _ _ => rfl) (z19 _ (Nat.le_of_eq hn5.symm)).1 (z19 _ (Nat.le_of_eq hn5.symm)).2.1 ?_
  rw [hn5]
  obtain ⟨kd6, hk6⟩ : ∃ k, k = kd5 ++ [(1, 6)] := ⟨_, rfl⟩
  rw [← hk6]
  have hn6 : kd6.length = n + 6 := by rw [hk6, List.length_append, hn5]; rfl
  have hh0_6 := k_at hk6 hh0_5
  have hc5 : kd6[n + 5]? = some (1, 6) := by rw [hk6]; exact k_new hn5
  have z22 : Zz (n + 6) mi ml mr5 := z19.mono (by omega)
  refine wp_cs (cs' := 6) (ss' := 82) rfl rfl ?_
  refine wp_putR (pc := 44) dX3_init_44 fl_X3_28 rfl ⟨rfl, (RX3, TX3, 8), rfl, rfl, tb_2 58 rfl rfl⟩ hh0_6 ?_
  obtain ⟨mr6, hm6⟩ : ∃ m, m = pm_up mr5 (h) 4 (some (n + 5)) := ⟨_, rfl⟩
  rw [← hm6]
  have z23 : Zz (n + 6) mi ml mr6 := by rw [hm6]; exact z22.upR (by omega)
  exact wp_vret (pc := 47) dX3_init_47 rfl ⟨rfl, by rw [hk6, hk5, hk4, hk3, hk2, hk1]; simp only [List.append_assoc]; rfl, rfl, rfl, by rw [hm6, hm5, hm4, hm3, hm2, hm1]; rfl⟩
theorem z_X3 {h n : Nat} {mi : pm_I} {ml : pm_L} {mr : pm_R} (z : Zz n mi ml mr) (hlt : h < n) : Zz (n + 6) mi ml (rX3 mr h n) := by
  have z := z.mono (Nat.le_add_right n 6)
  intro k hk
  obtain ⟨e1, e2, e3⟩ := z k hk
  refine ⟨?_, e2, ?_⟩
  · exact e1
  · rw [rX3_ge (by omega) (by omega)]; exact e3
def rX8 (mr : pm_R) (h n : Nat) : pm_R := (pm_up (pm_up (pm_up (pm_up (pm_up (pm_up mr (h) 0 (some (n))) (h) 1 (some (n + 1))) (h) 2 (some (n + 2))) (h) 5 (some (n + 3))) (h) 6 (some (n + 4))) (h) 7 (some (n + 5)))
def iX8 (mi : pm_I) (h n : Nat) : pm_I := mi
def kX8 : pm_K := [(1, 128)] ++ ([(1, 128)] ++ ([(2, 4)] ++ ([(1, 7)] ++ ([(1, 49)] ++ ([(1, 384)])))))
theorem rX8_ge {h n a : Nat} {mr : pm_R} (hlt : h < n) (ha : n + 6 ≤ a) : rX8 mr h n a = mr a := by
  unfold rX8; rw [pm_up_row _ _ (by omega), pm_up_row _ _ (by omega), pm_up_row _ _ (by omega), pm_up_row _ _ (by omega), pm_up_row _ _ (by omega), pm_up_row _ _ (by omega)]
theorem rX8_lt {h n a : Nat} {mr : pm_R} (hlt : h < n) (ha : a < h) : rX8 mr h n a = mr a := by
  unfold rX8; rw [pm_up_row _ _ (by omega), pm_up_row _ _ (by omega), pm_up_row _ _ (by omega), pm_up_row _ _ (by omega), pm_up_row _ _ (by omega), pm_up_row _ _ (by omega)]
theorem iX8_ge {h n a : Nat} {mi : pm_I} (hlt : h < n) (ha : n + 6 ≤ a) : iX8 mi h n a = mi a := by
  unfold iX8; rfl
theorem iX8_lt {h n a : Nat} {mi : pm_I} (hlt : h < n) (ha : a < h) : iX8 mi h n a = mi a := by
  unfold iX8; rfl
theorem n_X8 {l : Launch} {d h n : Nat} {kd : pm_K} {mi : pm_I} {ml : pm_L} {mr : pm_R} (hh0 : kd[h]? = some (0, 8)) (hn0 : kd.length = n) (hlt : h < n) (z0 : Zz n mi ml mr) : wpc l M_X8_init (d + 1) 6 700 [.ref h] kd mi ml mr (qN (kd ++ kX8) mi ml (rX8 mr h n)) := by
  show wp l M_X8_init (d + 1) 6 700 0 [some (.ref h)] [] 0 0 kd mi ml mr _
  refine wp_aload_n (pc := 0) dX8_init_0 rfl ?_
  refine wp_objInit (pc := 1) dX8_init_1 ⟨tb_2 84 rfl rfl, tb_1 29 rfl rfl, tb_1 30 rfl rfl⟩ (Nat.succ_pos _) (Nat.le_of_ble_eq_true rfl) ?_
  refine wp_aload_n (pc := 4) dX8_init_4 rfl ?_
  refine wp_sipush (v := 128) (pc := 5) dX8_init_5 (by decide) ?_
  refine wp_newa (i := 0) (pc := 8) (t := 1) (N := 128) (mi' := mi) (ml' := ml) dX8_init_8 (by simp) (tb_1 108 rfl rfl) (by decide) rfl (by decide) (Nat.le_of_ble_eq_true rfl) (Nat.le_of_ble_eq_true rfl) (fun _ _ => rfl) (fun _ _ => rfl) (z0 _ (Nat.le_of_eq hn0.symm)).1 (z0 _ (Nat.le_of_eq hn0.symm)).2.1 ?_
  rw [hn0]
  obtain ⟨kd1, hk1⟩ : ∃ k, k = kd ++ [(1, 128)] := ⟨_, rfl⟩
  rw [← hk1]
  have hn1 : kd1.length = n + 1 := by rw [hk1, List.length_append, hn0]; rfl
  have hh0_1 := k_at hk1 hh0
  have hc0 : kd1[n]? = some (1, 128) := by rw [hk1]; exact k_new hn0
  have z5 : Zz (n + 1) mi ml mr := z0.mono (by omega)
  refine wp_cs (cs' := 1) (ss' := 128) rfl rfl ?_
  refine wp_putR (pc := 10) dX8_init_10 fl_X8_9 rfl ⟨rfl, (RX8, TX8, 8), rfl, rfl, tb_2 85 rfl rfl⟩ hh0_1 ?_
  obtain ⟨mr1, hm1⟩ : ∃ m, m = pm_up mr (h) 0 (some (n)) := ⟨_, rfl⟩
  rw [← hm1]
  have z6 : Zz (n + 1) mi ml mr1 := by rw [hm1]; exact z5.upR (by omega)
  refine wp_aload_n (pc := 13) dX8_init_13 rfl ?_
  refine wp_sipush (v := 128) (pc := 14) dX8_init_14 (by decide) ?_
  refine wp_newa (i := 0) (pc := 17) (t := 1) (N := 128) (mi' := mi) (ml' := ml) dX8_init_17 (by simp) (tb_1 108 rfl rfl) (by decide) rfl (by decide) (Nat.le_of_ble_eq_true rfl) (Nat.le_of_ble_eq_true rfl) (fun _ _ => rfl) (fun _ _ => rfl) (z6 _ (Nat.le_of_eq hn1.symm)).1 (z6 _ (Nat.le_of_eq hn1.symm)).2.1 ?_
  rw [hn1]
  obtain ⟨kd2, hk2⟩ : ∃ k, k = kd1 ++ [(1, 128)] := ⟨_, rfl⟩
  rw [← hk2]
  have hn2 : kd2.length = n + 2 := by rw [hk2, List.length_append, hn1]; rfl
  have hh0_2 := k_at hk2 hh0_1
  have hc1 : kd2[n + 1]? = some (1, 128) := by rw [hk2]; exact k_new hn1
  have z9 : Zz (n + 2) mi ml mr1 := z6.mono (by omega)
  refine wp_cs (cs' := 2) (ss' := 256) rfl rfl ?_
  refine wp_putR (pc := 19) dX8_init_19 fl_X8_15 rfl ⟨rfl, (RX8, TX8, 8), rfl, rfl, tb_2 86 rfl rfl⟩ hh0_2 ?_
  obtain ⟨mr2, hm2⟩ : ∃ m, m = pm_up mr1 (h) 1 (some (n + 1)) := ⟨_, rfl⟩
  rw [← hm2]
  have z10 : Zz (n + 2) mi ml mr2 := by rw [hm2]; exact z9.upR (by omega)
  refine wp_aload_n (pc := 22) dX8_init_22 rfl ?_
  refine wp_iconst (v := 4) (pc := 23) dX8_init_23 (by decide) ?_
  refine wp_newa (i := 0) (pc := 24) (t := 2) (N := 4) (mi' := mi) (ml' := ml) dX8_init_24 (by simp) (tb_2 15 rfl rfl) (by decide) rfl (by decide) (Nat.le_of_ble_eq_true rfl) (Nat.le_of_ble_eq_true rfl) (fun _ _ => rfl) (fun _ _ => rfl) (z10 _ (Nat.le_of_eq hn2.symm)).1 (z10 _ (Nat.le_of_eq hn2.symm)).2.1 ?_
  rw [hn2]
  obtain ⟨kd3, hk3⟩ : ∃ k, k = kd2 ++ [(2, 4)] := ⟨_, rfl⟩
  rw [← hk3]
  have hn3 : kd3.length = n + 3 := by rw [hk3, List.length_append, hn2]; rfl
  have hh0_3 := k_at hk3 hh0_2
  have hc2 : kd3[n + 2]? = some (2, 4) := by rw [hk3]; exact k_new hn2
  have z13 : Zz (n + 3) mi ml mr2 := z10.mono (by omega)
  refine wp_cs (cs' := 3) (ss' := 260) rfl rfl ?_
  refine wp_putR (pc := 26) dX8_init_26 fl_X8_18 rfl ⟨rfl, (RX8, TX8, 8), rfl, rfl, tb_2 87 rfl rfl⟩ hh0_3 ?_
  obtain ⟨mr3, hm3⟩ : ∃ m, m = pm_up mr2 (h) 2 (some (n + 2)) := ⟨_, rfl⟩
  rw [← hm3]
  have z14 : Zz (n + 3) mi ml mr3 := by rw [hm3]; exact z13.upR (by omega)
  refine wp_aload_n (pc := 29) dX8_init_29 rfl ?_
  refine wp_bipush (v := 7) (pc := 30) dX8_init_30 (by decide) ?_
  refine wp_newa (i := 0) (pc := 32) (t := 1) (N := 7) (mi' := mi) (ml' := ml) dX8_init_32 (by simp) (tb_1 108 rfl rfl) (by decide) rfl (by decide) (Nat.le_of_ble_eq_true rfl) (Nat.le_of_ble_eq_true rfl) (fun _ _ => rfl) (fun _ _ => rfl) (z14 _ (Nat.le_of_eq hn3.symm)).1 (z14 _ (Nat.le_of_eq hn3.symm)).2.1 ?_
  rw [hn3]
  obtain ⟨kd4, hk4⟩ : ∃ k, k = kd3 ++ [(1, 7)] := ⟨_, rfl⟩
  rw [← hk4]
  have hn4 : kd4.length = n + 4 := by rw [hk4, List.length_append, hn3]; rfl
  have hh0_4 := k_at hk4 hh0_3
  have hc3 : kd4[n + 3]? = some (1, 7) := by rw [hk4]; exact k_new hn3
  have z17 : Zz (n + 4) mi ml mr3 := z14.mono (by omega)
  refine wp_cs (cs' := 4) (ss' := 267) rfl rfl ?_
  refine wp_putR (pc := 34) dX8_init_34 fl_X8_22 rfl ⟨rfl, (RX8, TX8, 8), rfl, rfl, tb_2 90 rfl rfl⟩ hh0_4 ?_
  obtain ⟨mr4, hm4⟩ : ∃ m, m = pm_up mr3 (h) 5 (some (n + 3)) := ⟨_, rfl⟩
  rw [← hm4]
  have z18 : Zz (n + 4) mi ml mr4 := by rw [hm4]; exact z17.upR (by omega)
  refine wp_aload_n (pc := 37) dX8_init_37 rfl ?_
  refine wp_bipush (v := 49) (pc := 38) dX8_init_38 (by decide) ?_
  refine wp_newa (i := 0) (pc := 40) (t := 1) (N := 49) (mi' := mi) (ml' := ml) dX8_init_40 (by simp) (tb_1 108 rfl rfl) (by decide) rfl (by decide) (Nat.le_of_ble_eq_true rfl) (Nat.le_of_ble_eq_true rfl) (fun _ _ => rfl) (fun _ _ => rfl) (z18 _ (Nat.le_of_eq hn4.symm)).1 (z18 _ (Nat.le_of_eq hn4.symm)).2.1 ?_
  rw [hn4]
  obtain ⟨kd5, hk5⟩ : ∃ k, k = kd4 ++ [(1, 49)] := ⟨_, rfl⟩
  rw [← hk5]
  have hn5 : kd5.length = n + 5 := by rw [hk5, List.length_append, hn4]; rfl
  have hh0_5 := k_at hk5 hh0_4
  have hc4 : kd5[n + 4]? = some (1, 49) := by rw [hk5]; exact k_new hn4
  have z21 : Zz (n + 5) mi ml mr4 := z18.mono (by omega)
  refine wp_cs (cs' := 5) (ss' := 316) rfl rfl ?_
  refine wp_putR (pc := 42) dX8_init_42 fl_X8_25 rfl ⟨rfl, (RX8, TX8, 8), rfl, rfl, tb_2 91 rfl rfl⟩ hh0_5 ?_
  obtain ⟨mr5, hm5⟩ : ∃ m, m = pm_up mr4 (h) 6 (some (n + 4)) := ⟨_, rfl⟩
  rw [← hm5]
  have z22 : Zz (n + 5) mi ml mr5 := by rw [hm5]; exact z21.upR (by omega)
  refine wp_aload_n (pc := 45) dX8_init_45 rfl ?_
  refine wp_sipush (v := 384) (pc := 46) dX8_init_46 (by decide) ?_
  refine wp_newa (i := 0) (pc := 49) (t := 1) (N := 384) (mi' := mi) (ml' := ml) dX8_init_49 (by simp) (tb_1 108 rfl rfl) (by decide) rfl (by decide) (Nat.le_of_ble_eq_true rfl) (Nat.le_of_ble_eq_true rfl) (fun _ _ => rfl) (fun _ _ => rfl) (z22 _ (Nat.le_of_eq hn5.symm)).1 (z22 _ (Nat.le_of_eq hn5.symm)).2.1 ?_
  rw [hn5]
  obtain ⟨kd6, hk6⟩ : ∃ k, k = kd5 ++ [(1, 384)] := ⟨_, rfl⟩
  rw [← hk6]
  have hn6 : kd6.length = n + 6 := by rw [hk6, List.length_append, hn5]; rfl
  have hh0_6 := k_at hk6 hh0_5
  have hc5 : kd6[n + 5]? = some (1, 384) := by rw [hk6]; exact k_new hn5
  have z25 : Zz (n + 6) mi ml mr5 := z22.mono (by omega)
  refine wp_cs (cs' := 6) (ss' := 700) rfl rfl ?_
  refine wp_putR (pc := 51) dX8_init_51 fl_X8_28 rfl ⟨rfl, (RX8, TX8, 8), rfl, rfl, tb_2 92 rfl rfl⟩ hh0_6 ?_
  obtain ⟨mr6, hm6⟩ : ∃ m, m = pm_up mr5 (h) 7 (some (n + 5)) := ⟨_, rfl⟩
  rw [← hm6]
  have z26 : Zz (n + 6) mi ml mr6 := by rw [hm6]; exact z25.upR (by omega)
  exact wp_vret (pc := 54) dX8_init_54 rfl ⟨rfl, by rw [hk6, hk5, hk4, hk3, hk2, hk1]; simp only [List.append_assoc]; rfl, rfl, rfl, by rw [hm6, hm5, hm4, hm3, hm2, hm1]; rfl⟩
theorem z_X8 {h n : Nat} {mi : pm_I} {ml : pm_L} {mr : pm_R} (z : Zz n mi ml mr) (hlt : h < n) : Zz (n + 6) mi ml (rX8 mr h n) := by
  have z := z.mono (Nat.le_add_right n 6)
  intro k hk
  obtain ⟨e1, e2, e3⟩ := z k hk
  refine ⟨?_, e2, ?_⟩
  · exact e1
  · rw [rX8_ge (by omega) (by omega)]; exact e3
def rX2 (mr : pm_R) (h n : Nat) : pm_R := (pm_up (pm_up (pm_up (pm_up (pm_up (pm_up mr (h) 0 (some (n))) (h) 1 (some (n + 1))) (h) 2 (some (n + 2))) (h) 3 (some (n + 3))) (h) 4 (some (n + 4))) (h) 5 (some (n + 5)))
def iX2 (mi : pm_I) (h n : Nat) : pm_I := mi
def kX2 : pm_K := [(1, 4096)] ++ ([(1, 4096)] ++ ([(1, 4096)] ++ ([(1, 256)] ++ ([(2, 64)] ++ ([(2, 64)])))))
theorem rX2_ge {h n a : Nat} {mr : pm_R} (hlt : h < n) (ha : n + 6 ≤ a) : rX2 mr h n a = mr a := by
  unfold rX2; rw [pm_up_row _ _ (by omega), pm_up_row _ _ (by omega), pm_up_row _ _ (by omega), pm_up_row _ _ (by omega), pm_up_row _ _ (by omega), pm_up_row _ _ (by omega)]
theorem rX2_lt {h n a : Nat} {mr : pm_R} (hlt : h < n) (ha : a < h) : rX2 mr h n a = mr a := by
  unfold rX2; rw [pm_up_row _ _ (by omega), pm_up_row _ _ (by omega), pm_up_row _ _ (by omega), pm_up_row _ _ (by omega), pm_up_row _ _ (by omega), pm_up_row _ _ (by omega)]
theorem iX2_ge {h n a : Nat} {mi : pm_I} (hlt : h < n) (ha : n + 6 ≤ a) : iX2 mi h n a = mi a := by
  unfold iX2; rfl
theorem iX2_lt {h n a : Nat} {mi : pm_I} (hlt : h < n) (ha : a < h) : iX2 mi h n a = mi a := by
  unfold iX2; rfl
theorem n_X2 {l : Launch} {d h n : Nat} {kd : pm_K} {mi : pm_I} {ml : pm_L} {mr : pm_R} (hh0 : kd[h]? = some (0, 2)) (hn0 : kd.length = n) (hlt : h < n) (z0 : Zz n mi ml mr) : wpc l M_X2_init (d + 1) 6 12672 [.ref h] kd mi ml mr (qN (kd ++ kX2) mi ml (rX2 mr h n)) := by
  show wp l M_X2_init (d + 1) 6 12672 0 [some (.ref h)] [] 0 0 kd mi ml mr _
  refine wp_aload_n (pc := 0) dX2_init_0 rfl ?_
  refine wp_objInit (pc := 1) dX2_init_1 ⟨tb_2 115 rfl rfl, tb_1 29 rfl rfl, tb_1 30 rfl rfl⟩ (Nat.succ_pos _) (Nat.le_of_ble_eq_true rfl) ?_
  refine wp_aload_n (pc := 4) dX2_init_4 rfl ?_
  refine wp_sipush (v := 4096) (pc := 5) dX2_init_5 (by decide) ?_
  refine wp_newa (i := 0) (pc := 8) (t := 1) (N := 4096) (mi' := mi) (ml' := ml) dX2_init_8 (by simp) (tb_1 108 rfl rfl) (by decide) rfl (by decide) (Nat.le_of_ble_eq_true rfl) (Nat.le_of_ble_eq_true rfl) (fun _ _ => rfl) (fun _ _ => rfl) (z0 _ (Nat.le_of_eq hn0.symm)).1 (z0 _ (Nat.le_of_eq hn0.symm)).2.1 ?_
  rw [hn0]
  obtain ⟨kd1, hk1⟩ : ∃ k, k = kd ++ [(1, 4096)] := ⟨_, rfl⟩
  rw [← hk1]
  have hn1 : kd1.length = n + 1 := by rw [hk1, List.length_append, hn0]; rfl
  have hh0_1 := k_at hk1 hh0
  have hc0 : kd1[n]? = some (1, 4096) := by rw [hk1]; exact k_new hn0
  have z5 : Zz (n + 1) mi ml mr := z0.mono (by omega)
  refine wp_cs (cs' := 1) (ss' := 4096) rfl rfl ?_
  refine wp_putR (pc := 10) dX2_init_10 fl_X2_9 rfl ⟨rfl, (RX2, TX2, 6), rfl, rfl, tb_2 116 rfl rfl⟩ hh0_1 ?_
  obtain ⟨mr1, hm1⟩ : ∃ m, m = pm_up mr (h) 0 (some (n)) := ⟨_, rfl⟩
  rw [← hm1]
  have z6 : Zz (n + 1) mi ml mr1 := by rw [hm1]; exact z5.upR (by omega)
  refine wp_aload_n (pc := 13) dX2_init_13 rfl ?_
  refine wp_sipush (v := 4096) (pc := 14) dX2_init_14 (by decide) ?_
  refine wp_newa (i := 0) (pc := 17) (t := 1) (N := 4096) (mi' := mi) (ml' := ml) dX2_init_17 (by simp) (tb_1 108 rfl rfl) (by decide) rfl (by decide) (Nat.le_of_ble_eq_true rfl) (Nat.le_of_ble_eq_true rfl) (fun _ _ => rfl) (fun _ _ => rfl) (z6 _ (Nat.le_of_eq hn1.symm)).1 (z6 _ (Nat.le_of_eq hn1.symm)).2.1 ?_
  rw [hn1]
  obtain ⟨kd2, hk2⟩ : ∃ k, k = kd1 ++ [(1, 4096)] := ⟨_, rfl⟩
  rw [← hk2]
  have hn2 : kd2.length = n + 2 := by rw [hk2, List.length_append, hn1]; rfl
  have hh0_2 := k_at hk2 hh0_1
  have hc1 : kd2[n + 1]? = some (1, 4096) := by rw [hk2]; exact k_new hn1
  have z9 : Zz (n + 2) mi ml mr1 := z6.mono (by omega)
  refine wp_cs (cs' := 2) (ss' := 8192) rfl rfl ?_
  refine wp_putR (pc := 19) dX2_init_19 fl_X2_15 rfl ⟨rfl, (RX2, TX2, 6), rfl, rfl, tb_2 117 rfl rfl⟩ hh0_2 ?_
  obtain ⟨mr2, hm2⟩ : ∃ m, m = pm_up mr1 (h) 1 (some (n + 1)) := ⟨_, rfl⟩
  rw [← hm2]
  have z10 : Zz (n + 2) mi ml mr2 := by rw [hm2]; exact z9.upR (by omega)
  refine wp_aload_n (pc := 22) dX2_init_22 rfl ?_
  refine wp_sipush (v := 4096) (pc := 23) dX2_init_23 (by decide) ?_
  refine wp_newa (i := 0) (pc := 26) (t := 1) (N := 4096) (mi' := mi) (ml' := ml) dX2_init_26 (by simp) (tb_1 108 rfl rfl) (by decide) rfl (by decide) (Nat.le_of_ble_eq_true rfl) (Nat.le_of_ble_eq_true rfl) (fun _ _ => rfl) (fun _ _ => rfl) (z10 _ (Nat.le_of_eq hn2.symm)).1 (z10 _ (Nat.le_of_eq hn2.symm)).2.1 ?_
  rw [hn2]
  obtain ⟨kd3, hk3⟩ : ∃ k, k = kd2 ++ [(1, 4096)] := ⟨_, rfl⟩
  rw [← hk3]
  have hn3 : kd3.length = n + 3 := by rw [hk3, List.length_append, hn2]; rfl
  have hh0_3 := k_at hk3 hh0_2
  have hc2 : kd3[n + 2]? = some (1, 4096) := by rw [hk3]; exact k_new hn2
  have z13 : Zz (n + 3) mi ml mr2 := z10.mono (by omega)
  refine wp_cs (cs' := 3) (ss' := 12288) rfl rfl ?_
  refine wp_putR (pc := 28) dX2_init_28 fl_X2_18 rfl ⟨rfl, (RX2, TX2, 6), rfl, rfl, tb_2 118 rfl rfl⟩ hh0_3 ?_
  obtain ⟨mr3, hm3⟩ : ∃ m, m = pm_up mr2 (h) 2 (some (n + 2)) := ⟨_, rfl⟩
  rw [← hm3]
  have z14 : Zz (n + 3) mi ml mr3 := by rw [hm3]; exact z13.upR (by omega)
  refine wp_aload_n (pc := 31) dX2_init_31 rfl ?_
  refine wp_sipush (v := 256) (pc := 32) dX2_init_32 (by decide) ?_
  refine wp_newa (i := 0) (pc := 35) (t := 1) (N := 256) (mi' := mi) (ml' := ml) dX2_init_35 (by simp) (tb_1 108 rfl rfl) (by decide) rfl (by decide) (Nat.le_of_ble_eq_true rfl) (Nat.le_of_ble_eq_true rfl) (fun _ _ => rfl) (fun _ _ => rfl) (z14 _ (Nat.le_of_eq hn3.symm)).1 (z14 _ (Nat.le_of_eq hn3.symm)).2.1 ?_
  rw [hn3]
  obtain ⟨kd4, hk4⟩ : ∃ k, k = kd3 ++ [(1, 256)] := ⟨_, rfl⟩
  rw [← hk4]
  have hn4 : kd4.length = n + 4 := by rw [hk4, List.length_append, hn3]; rfl
  have hh0_4 := k_at hk4 hh0_3
  have hc3 : kd4[n + 3]? = some (1, 256) := by rw [hk4]; exact k_new hn3
  have z17 : Zz (n + 4) mi ml mr3 := z14.mono (by omega)
  refine wp_cs (cs' := 4) (ss' := 12544) rfl rfl ?_
  refine wp_putR (pc := 37) dX2_init_37 fl_X2_21 rfl ⟨rfl, (RX2, TX2, 6), rfl, rfl, tb_2 119 rfl rfl⟩ hh0_4 ?_
  obtain ⟨mr4, hm4⟩ : ∃ m, m = pm_up mr3 (h) 3 (some (n + 3)) := ⟨_, rfl⟩
  rw [← hm4]
  have z18 : Zz (n + 4) mi ml mr4 := by rw [hm4]; exact z17.upR (by omega)
  refine wp_aload_n (pc := 40) dX2_init_40 rfl ?_
  refine wp_bipush (v := 64) (pc := 41) dX2_init_41 (by decide) ?_
  refine wp_newa (i := 0) (pc := 43) (t := 2) (N := 64) (mi' := mi) (ml' := ml) dX2_init_43 (by simp) (tb_2 15 rfl rfl) (by decide) rfl (by decide) (Nat.le_of_ble_eq_true rfl) (Nat.le_of_ble_eq_true rfl) (fun _ _ => rfl) (fun _ _ => rfl) (z18 _ (Nat.le_of_eq hn4.symm)).1 (z18 _ (Nat.le_of_eq hn4.symm)).2.1 ?_
  rw [hn4]
  obtain ⟨kd5, hk5⟩ : ∃ k, k = kd4 ++ [(2, 64)] := ⟨_, rfl⟩
  rw [← hk5]
  have hn5 : kd5.length = n + 5 := by rw [hk5, List.length_append, hn4]; rfl
  have hh0_5 := k_at hk5 hh0_4
  have hc4 : kd5[n + 4]? = some (2, 64) := by rw [hk5]; exact k_new hn4
  have z21 : Zz (n + 5) mi ml mr4 := z18.mono (by omega)
  refine wp_cs (cs' := 5) (ss' := 12608) rfl rfl ?_
  refine wp_putR (pc := 45) dX2_init_45 fl_X2_24 rfl ⟨rfl, (RX2, TX2, 6), rfl, rfl, tb_2 120 rfl rfl⟩ hh0_5 ?_
  obtain ⟨mr5, hm5⟩ : ∃ m, m = pm_up mr4 (h) 4 (some (n + 4)) := ⟨_, rfl⟩
  rw [← hm5]
  have z22 : Zz (n + 5) mi ml mr5 := by rw [hm5]; exact z21.upR (by omega)
  refine wp_aload_n (pc := 48) dX2_init_48 rfl ?_
  refine wp_bipush (v := 64) (pc := 49) dX2_init_49 (by decide) ?_
  refine wp_newa (i := 0) (pc := 51) (t := 2) (N := 64) (mi' := mi) (ml' := ml) dX2_init_51 (by simp) (tb_2 15 rfl rfl) (by decide) rfl (by decide) (Nat.le_of_ble_eq_true rfl) (Nat.le_of_ble_eq_true rfl) (fun _ _ => rfl) (fun _ _ => rfl) (z22 _ (Nat.le_of_eq hn5.symm)).1 (z22 _ (Nat.le_of_eq hn5.symm)).2.1 ?_
  rw [hn5]
  obtain ⟨kd6, hk6⟩ : ∃ k, k = kd5 ++ [(2, 64)] := ⟨_, rfl⟩
  rw [← hk6]
  have hn6 : kd6.length = n + 6 := by rw [hk6, List.length_append, hn5]; rfl
  have hh0_6 := k_at hk6 hh0_5
  have hc5 : kd6[n + 5]? = some (2, 64) := by rw [hk6]; exact k_new hn5
  have z25 : Zz (n + 6) mi ml mr5 := z22.mono (by omega)
  refine wp_cs (cs' := 6) (ss' := 12672) rfl rfl ?_
  refine wp_putR (pc := 53) dX2_init_53 fl_X2_28 rfl ⟨rfl, (RX2, TX2, 6), rfl, rfl, tb_2 121 rfl rfl⟩ hh0_6 ?_
  obtain ⟨mr6, hm6⟩ : ∃ m, m = pm_up mr5 (h) 5 (some (n + 5)) := ⟨_, rfl⟩
  rw [← hm6]
  have z26 : Zz (n + 6) mi ml mr6 := by rw [hm6]; exact z25.upR (by omega)
  exact wp_vret (pc := 56) dX2_init_56 rfl ⟨rfl, by rw [hk6, hk5, hk4, hk3, hk2, hk1]; simp only [List.append_assoc]; rfl, rfl, rfl, by rw [hm6, hm5, hm4, hm3, hm2, hm1]; rfl⟩
theorem z_X2 {h n : Nat} {mi : pm_I} {ml : pm_L} {mr : pm_R} (z : Zz n mi ml mr) (hlt : h < n) : Zz (n + 6) mi ml (rX2 mr h n) := by
  have z := z.mono (Nat.le_add_right n 6)
  intro k hk
  obtain ⟨e1, e2, e3⟩ := z k hk
  refine ⟨?_, e2, ?_⟩
  · exact e1
  · rw [rX2_ge (by omega) (by omega)]; exact e3
