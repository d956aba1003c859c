/-! block lemmas, by program (gen/mkw.py) -/
def c_X4_codeAfter_48 (l : Launch) (d : Nat) (kd : pm_K) (mr : pm_R) (h : Nat) (x1 : Int32) (x2 : Int32) (x3 : Int32) (x4 : Int32) (s0 : Int32) (mi : pm_I) (ml : pm_L) (K : Int32 → pm_I → pm_L → Prop) : Prop := wp l M_X4_codeAfter d 0 0 48 [some (.ref h), some (.int x1), some (.int x2), some (.int x3), some (.int x4), none, none] [.int s0] 0 0 kd mi ml mr (qI kd mr K)
def c_X4_codeAfter_5 (l : Launch) (d : Nat) (kd : pm_K) (mr : pm_R) (h : Nat) (x1 : Int32) (x2 : Int32) (x3 : Int32) (x4 : Int32) (mi : pm_I) (ml : pm_L) (K : Int32 → pm_I → pm_L → Prop) : Prop := wp l M_X4_codeAfter d 0 0 5 [some (.ref h), some (.int x1), some (.int x2), some (.int x3), some (.int x4), none, none] [] 0 0 kd mi ml mr (qI kd mr K)
theorem w_X4_codeAfter_5 {l : Launch} {d : Nat} {kd : pm_K} {mr : pm_R} {h : Nat} {x1 : Int32} {x2 : Int32} {x3 : Int32} {x4 : Int32} {mi : pm_I} {ml : pm_L} {K : Int32 → pm_I → pm_L → Prop} (th : TX4s kd mr h)
    (F : ((x4 < 0 → K x3 mi ml) ∧ (¬ x4 < 0 → vp_in ((x1 * 4) + x4) 228 ∧ ((¬ x4 = x2 → c_X4_codeAfter_48 l (d + 1) kd mr h x1 x2 x3 x4 (if 0 < ((mi (h + 1) (Int32.toNatClampNeg ((x1 * 4) + x4))) - 1) then ((mi (h + 1) (Int32.toNatClampNeg ((x1 * 4) + x4))) - 1) else 0) mi ml K) ∧ (x4 = x2 → c_X4_codeAfter_48 l (d + 1) kd mr h x1 x2 x3 x4 (if ((mi (h + 1) (Int32.toNatClampNeg ((x1 * 4) + x4))) + 1) < 4 then ((mi (h + 1) (Int32.toNatClampNeg ((x1 * 4) + x4))) + 1) else 4) mi ml K))))) :
    c_X4_codeAfter_5 l (d + 1) kd mr h x1 x2 x3 x4 mi ml K := by
  show wp l M_X4_codeAfter (d + 1) 0 0 5 [some (.ref h), some (.int x1), some (.int x2), some (.int x3), some (.int x4), none, none] [] 0 0 kd mi ml mr _
  refine wp_iload (pc := 5) dX4_codeAfter_5 rfl ?_
  refine wp_if_lt (tgt := 63) (pc := 7) dX4_codeAfter_7 (by decide) (fun c1 => ?_) (fun c1 => ?_)
  · have F := F.1 c1
    refine wp_iload_n (pc := 63) dX4_codeAfter_63 rfl ?_
    exact r_I (pc := 64) dX4_codeAfter_64 rfl F
  · have F := F.2 c1
    refine wp_aload_n (pc := 10) dX4_codeAfter_10 rfl ?_
    refine wp_getR (pc := 11) dX4_codeAfter_11 fl_X4_11 rfl (TX4s_k th) (TX4s_r0 th) ?_
    refine wp_iload_n (pc := 14) dX4_codeAfter_14 rfl ?_
    refine wp_iconst (v := 4) (pc := 15) dX4_codeAfter_15 (by decide) ?_
    refine wp_imul (pc := 16) dX4_codeAfter_16 ?_
    refine wp_iload (pc := 17) dX4_codeAfter_17 rfl ?_
    refine wp_iadd (pc := 19) dX4_codeAfter_19 ?_
    refine wp_iald (pc := 20) dX4_codeAfter_20 (TX4s_a0 th) F.1 ?_
    have F := F.2
    refine wp_istore (pc := 21) dX4_codeAfter_21 (Nat.le_of_ble_eq_true rfl) rfl ?_
    show wp l M_X4_codeAfter (d + 1) 0 0 _ [some (.ref h), some (.int x1), some (.int x2), some (.int x3), some (.int x4), some (.int (mi (h + 1) (Int32.toNatClampNeg ((x1 * 4) + x4)))), none] _ 0 0 kd _ _ mr _
    refine wp_iload (pc := 23) dX4_codeAfter_23 rfl ?_
    refine wp_iload_n (pc := 25) dX4_codeAfter_25 rfl ?_
    refine wp_icmp_ne (tgt := 40) (pc := 26) dX4_codeAfter_26 (by decide) (fun c2 => ?_) (fun c2 => ?_)
    · have F := F.1 c2
      refine wp_iconst (v := 0) (pc := 40) dX4_codeAfter_40 (by decide) ?_
      refine wp_iload (pc := 41) dX4_codeAfter_41 rfl ?_
      refine wp_iconst (v := 1) (pc := 43) dX4_codeAfter_43 (by decide) ?_
      refine wp_isub (pc := 44) dX4_codeAfter_44 ?_
      refine wp_max (pc := 45) dX4_codeAfter_45 ⟨tb_2 151 rfl rfl, tb_2 152 rfl rfl, tb_1 14 rfl rfl, tb_2 153 rfl rfl⟩ (Nat.succ_pos d) (Nat.le_of_ble_eq_true rfl) ⟨Nat.le_refl 0, Nat.le_refl 0⟩ ?_
      exact wp_less (L' := [some (.ref h), some (.int x1), some (.int x2), some (.int x3), some (.int x4), none, none]) ⟨rfl, ⟨rfl, ⟨rfl, ⟨rfl, ⟨rfl, trivial⟩⟩⟩⟩⟩ F
    · have F := F.2 c2
      refine wp_iconst (v := 4) (pc := 29) dX4_codeAfter_29 (by decide) ?_
      refine wp_iload (pc := 30) dX4_codeAfter_30 rfl ?_
      refine wp_iconst (v := 1) (pc := 32) dX4_codeAfter_32 (by decide) ?_
      refine wp_iadd (pc := 33) dX4_codeAfter_33 ?_
      refine wp_min (pc := 34) dX4_codeAfter_34 ⟨tb_2 148 rfl rfl, tb_2 149 rfl rfl, tb_1 14 rfl rfl, tb_2 150 rfl rfl⟩ (Nat.succ_pos d) (Nat.le_of_ble_eq_true rfl) ⟨Nat.le_refl 0, Nat.le_refl 0⟩ ?_
      refine wp_goto (tgt := 48) (pc := 37) dX4_codeAfter_37 (by decide) ?_
      exact wp_less (L' := [some (.ref h), some (.int x1), some (.int x2), some (.int x3), some (.int x4), none, none]) ⟨rfl, ⟨rfl, ⟨rfl, ⟨rfl, ⟨rfl, trivial⟩⟩⟩⟩⟩ F
theorem w_X4_codeAfter_48 {l : Launch} {d : Nat} {kd : pm_K} {mr : pm_R} {h : Nat} {x1 : Int32} {x2 : Int32} {x3 : Int32} {x4 : Int32} {s0 : Int32} {mi : pm_I} {ml : pm_L} {K : Int32 → pm_I → pm_L → Prop} (th : TX4s kd mr h)
    (F : c_X4_codeAfter_5 l (d + 1) kd mr h x1 x2 ((5 * x3) + s0) (x4 + (-1)) mi ml K) :
    c_X4_codeAfter_48 l (d + 1) kd mr h x1 x2 x3 x4 s0 mi ml K := by
  show wp l M_X4_codeAfter (d + 1) 0 0 48 [some (.ref h), some (.int x1), some (.int x2), some (.int x3), some (.int x4), none, none] [.int s0] 0 0 kd mi ml mr _
  refine wp_istore (pc := 48) dX4_codeAfter_48 (Nat.le_of_ble_eq_true rfl) rfl ?_
  show wp l M_X4_codeAfter (d + 1) 0 0 _ [some (.ref h), some (.int x1), some (.int x2), some (.int x3), some (.int x4), none, some (.int s0)] _ 0 0 kd _ _ mr _
  refine wp_iconst (v := 5) (pc := 50) dX4_codeAfter_50 (by decide) ?_
  refine wp_iload_n (pc := 51) dX4_codeAfter_51 rfl ?_
  refine wp_imul (pc := 52) dX4_codeAfter_52 ?_
  refine wp_iload (pc := 53) dX4_codeAfter_53 rfl ?_
  refine wp_iadd (pc := 55) dX4_codeAfter_55 ?_
  refine wp_istore_n (pc := 56) dX4_codeAfter_56 (Nat.le_of_ble_eq_true rfl) rfl ?_
  show wp l M_X4_codeAfter (d + 1) 0 0 _ [some (.ref h), some (.int x1), some (.int x2), some (.int ((5 * x3) + s0)), some (.int x4), none, some (.int s0)] _ 0 0 kd _ _ mr _
  refine wp_iinc (v := (x4 + (-1))) (pc := 57) dX4_codeAfter_57 rfl rfl rfl ?_
  show wp l M_X4_codeAfter (d + 1) 0 0 _ [some (.ref h), some (.int x1), some (.int x2), some (.int ((5 * x3) + s0)), some (.int (x4 + (-1))), none, some (.int s0)] _ 0 0 kd _ _ mr _
  refine wp_goto (tgt := 5) (pc := 60) dX4_codeAfter_60 (by decide) ?_
  exact wp_less (L' := [some (.ref h), some (.int x1), some (.int x2), some (.int ((5 * x3) + s0)), some (.int (x4 + (-1))), none, none]) ⟨rfl, ⟨rfl, ⟨rfl, ⟨rfl, ⟨rfl, trivial⟩⟩⟩⟩⟩ F
/-- codeAfter(II)I -/
theorem w_X4_codeAfter {l : Launch} {d : Nat} {kd : pm_K} {mr : pm_R} {h : Nat} {x1 : Int32} {x2 : Int32} {mi : pm_I} {ml : pm_L} {K : Int32 → pm_I → pm_L → Prop} (th : TX4s kd mr h)
    (F : c_X4_codeAfter_5 l (d + 1) kd mr h x1 x2 0 3 mi ml K) :
    wI l M_X4_codeAfter (d + 1) [.ref h, .int x1, .int x2] kd mr mi ml K := by
  show wp l M_X4_codeAfter (d + 1) 0 0 0 [some (.ref h), some (.int x1), some (.int x2), none, none, none, none] [] 0 0 kd mi ml mr _
  refine wp_iconst (v := 0) (pc := 0) dX4_codeAfter_0 (by decide) ?_
  refine wp_istore_n (pc := 1) dX4_codeAfter_1 (Nat.le_of_ble_eq_true rfl) rfl ?_
  show wp l M_X4_codeAfter (d + 1) 0 0 _ [some (.ref h), some (.int x1), some (.int x2), some (.int 0), none, none, none] _ 0 0 kd _ _ mr _
  refine wp_iconst (v := 3) (pc := 2) dX4_codeAfter_2 (by decide) ?_
  refine wp_istore (pc := 3) dX4_codeAfter_3 (Nat.le_of_ble_eq_true rfl) rfl ?_
  show wp l M_X4_codeAfter (d + 1) 0 0 _ [some (.ref h), some (.int x1), some (.int x2), some (.int 0), some (.int 3), none, none] _ 0 0 kd _ _ mr _
  exact wp_less (L' := [some (.ref h), some (.int x1), some (.int x2), some (.int 0), some (.int 3), none, none]) ⟨rfl, ⟨rfl, ⟨rfl, ⟨rfl, ⟨rfl, trivial⟩⟩⟩⟩⟩ F
def c_X4_addWay_4 (l : Launch) (d : Nat) (kd : pm_K) (mr : pm_R) (h : Nat) (x2 : Int32) (x3 : Int32) (mi : pm_I) (ml : pm_L) (K : pm_I → pm_L → Prop) : Prop := wp l M_X4_addWay d 0 0 4 [some (.ref h), none, some (.int x2), some (.int x3)] [] 0 0 kd mi ml mr (qV kd mr K)
theorem w_X4_addWay_4 {l : Launch} {d : Nat} {kd : pm_K} {mr : pm_R} {h : Nat} {x2 : Int32} {x3 : Int32} {mi : pm_I} {ml : pm_L} {K : pm_I → pm_L → Prop} (th : TX4s kd mr h)
    (F : ((4 ≤ x3 → K (pm_up mi h 3 ((mi h 3) + 1)) ml) ∧ (¬ 4 ≤ x3 → vp_in (((mi h 3) * 4) + x3) 228 ∧ c_X4_addWay_4 l d kd mr h (x2 / 5) (x3 + 1) (pm_up mi (h + 1) (Int32.toNatClampNeg (((mi h 3) * 4) + x3)) (x2 - x2 / 5 * 5)) ml K))) :
    c_X4_addWay_4 l d kd mr h x2 x3 mi ml K := by
  show wp l M_X4_addWay d 0 0 4 [some (.ref h), none, some (.int x2), some (.int x3)] [] 0 0 kd mi ml mr _
  refine wp_iload_n (pc := 4) dX4_addWay_4 rfl ?_
  refine wp_iconst (v := 4) (pc := 5) dX4_addWay_5 (by decide) ?_
  refine wp_icmp_ge (tgt := 35) (pc := 6) dX4_addWay_6 (by decide) (fun c1 => ?_) (fun c1 => ?_)
  · have F := F.1 c1
    refine wp_aload_n (pc := 35) dX4_addWay_35 rfl ?_
    refine wp_dup (pc := 36) dX4_addWay_36 rfl ?_
    refine wp_getI (pc := 37) dX4_addWay_37 fl_X4_27 rfl (TX4s_k th) ?_
    refine wp_iconst (v := 1) (pc := 40) dX4_addWay_40 (by decide) ?_
    refine wp_iadd (pc := 41) dX4_addWay_41 ?_
    refine wp_putI (pc := 42) dX4_addWay_42 fl_X4_27 rfl rfl (TX4s_k th) ?_
    exact r_V (pc := 45) dX4_addWay_45 rfl F
  · have F := F.2 c1
    refine wp_aload_n (pc := 9) dX4_addWay_9 rfl ?_
    refine wp_getR (pc := 10) dX4_addWay_10 fl_X4_11 rfl (TX4s_k th) (TX4s_r0 th) ?_
    refine wp_aload_n (pc := 13) dX4_addWay_13 rfl ?_
    refine wp_getI (pc := 14) dX4_addWay_14 fl_X4_27 rfl (TX4s_k th) ?_
    refine wp_iconst (v := 4) (pc := 17) dX4_addWay_17 (by decide) ?_
    refine wp_imul (pc := 18) dX4_addWay_18 ?_
    refine wp_iload_n (pc := 19) dX4_addWay_19 rfl ?_
    refine wp_iadd (pc := 20) dX4_addWay_20 ?_
    refine wp_iload_n (pc := 21) dX4_addWay_21 rfl ?_
    refine wp_iconst (v := 5) (pc := 22) dX4_addWay_22 (by decide) ?_
    refine wp_irem (pc := 23) dX4_addWay_23 (by decide) ?_
    refine wp_iast (pc := 24) dX4_addWay_24 (TX4s_a0 th) F.1 ?_
    have F := F.2
    refine wp_iload_n (pc := 25) dX4_addWay_25 rfl ?_
    refine wp_iconst (v := 5) (pc := 26) dX4_addWay_26 (by decide) ?_
    refine wp_idiv (pc := 27) dX4_addWay_27 (by decide) ?_
    refine wp_istore_n (pc := 28) dX4_addWay_28 (Nat.le_of_ble_eq_true rfl) rfl ?_
    show wp l M_X4_addWay d 0 0 _ [some (.ref h), none, some (.int (x2 / 5)), some (.int x3)] _ 0 0 kd _ _ mr _
    refine wp_iinc (v := (x3 + 1)) (pc := 29) dX4_addWay_29 rfl rfl rfl ?_
    show wp l M_X4_addWay d 0 0 _ [some (.ref h), none, some (.int (x2 / 5)), some (.int (x3 + 1))] _ 0 0 kd _ _ mr _
    refine wp_goto (tgt := 4) (pc := 32) dX4_addWay_32 (by decide) ?_
    exact wp_less (L' := [some (.ref h), none, some (.int (x2 / 5)), some (.int (x3 + 1))]) ⟨rfl, ⟨rfl, ⟨rfl, trivial⟩⟩⟩ F
/-- addWay(I)V -/
theorem w_X4_addWay {l : Launch} {d : Nat} {kd : pm_K} {mr : pm_R} {h : Nat} {x1 : Int32} {mi : pm_I} {ml : pm_L} {K : pm_I → pm_L → Prop} (th : TX4s kd mr h)
    (F : c_X4_addWay_4 l d kd mr h x1 0 mi ml K) :
    wV l M_X4_addWay d [.ref h, .int x1] kd mr mi ml K := by
  show wp l M_X4_addWay d 0 0 0 [some (.ref h), some (.int x1), none, none] [] 0 0 kd mi ml mr _
  refine wp_iload_n (pc := 0) dX4_addWay_0 rfl ?_
  refine wp_istore_n (pc := 1) dX4_addWay_1 (Nat.le_of_ble_eq_true rfl) rfl ?_
  show wp l M_X4_addWay d 0 0 _ [some (.ref h), some (.int x1), some (.int x1), none] _ 0 0 kd _ _ mr _
  refine wp_iconst (v := 0) (pc := 2) dX4_addWay_2 (by decide) ?_
  refine wp_istore_n (pc := 3) dX4_addWay_3 (Nat.le_of_ble_eq_true rfl) rfl ?_
  show wp l M_X4_addWay d 0 0 _ [some (.ref h), some (.int x1), some (.int x1), some (.int 0)] _ 0 0 kd _ _ mr _
  exact wp_less (L' := [some (.ref h), none, some (.int x1), some (.int 0)]) ⟨rfl, ⟨rfl, ⟨rfl, trivial⟩⟩⟩ F
def c_X2_layWays_40 (l : Launch) (d : Nat) (kd : pm_K) (mr : pm_R) (h : Nat) (x1 : Int64) (x3 : Int64) (x5 : Int32) (x6 : Int32) (s0 : Int32) (mi : pm_I) (ml : pm_L) (K : pm_I → pm_L → Prop) : Prop := wp l M_X2_layWays d 0 0 40 [some (.ref h), some (.long x1), none, some (.long x3), none, some (.int x5), some (.int x6), none] [.int s0] 0 0 kd mi ml mr (qV kd mr K)
def c_X2_layWays_13 (l : Launch) (d : Nat) (kd : pm_K) (mr : pm_R) (h : Nat) (x1 : Int64) (x3 : Int64) (x5 : Int32) (x6 : Int32) (mi : pm_I) (ml : pm_L) (K : pm_I → pm_L → Prop) : Prop := wp l M_X2_layWays d 0 0 13 [some (.ref h), some (.long x1), none, some (.long x3), none, some (.int x5), some (.int x6), none] [] 0 0 kd mi ml mr (qV kd mr K)
def c_X2_layWays_3 (l : Launch) (d : Nat) (kd : pm_K) (mr : pm_R) (h : Nat) (x1 : Int64) (x3 : Int64) (x5 : Int32) (mi : pm_I) (ml : pm_L) (K : pm_I → pm_L → Prop) : Prop := wp l M_X2_layWays d 0 0 3 [some (.ref h), some (.long x1), none, some (.long x3), none, some (.int x5), none, none] [] 0 0 kd mi ml mr (qV kd mr K)
theorem w_X2_layWays_3 {l : Launch} {d : Nat} {kd : pm_K} {mr : pm_R} {h : Nat} {x1 : Int64} {x3 : Int64} {x5 : Int32} {mi : pm_I} {ml : pm_L} {K : pm_I → pm_L → Prop} (th : TX2s kd mr h)
    (F : ((64 ≤ x5 → K mi ml) ∧ (¬ 64 ≤ x5 → c_X2_layWays_13 l (d + 1) kd mr h x1 x3 x5 0 mi ml K))) :
    c_X2_layWays_3 l (d + 1) kd mr h x1 x3 x5 mi ml K := by
  show wp l M_X2_layWays (d + 1) 0 0 3 [some (.ref h), some (.long x1), none, some (.long x3), none, some (.int x5), none, none] [] 0 0 kd mi ml mr _
  refine wp_iload (pc := 3) dX2_layWays_3 rfl ?_
  refine wp_bipush (v := 64) (pc := 5) dX2_layWays_5 (by decide) ?_
  refine wp_icmp_ge (tgt := 79) (pc := 7) dX2_layWays_7 (by decide) (fun c1 => ?_) (fun c1 => ?_)
  · have F := F.1 c1
    exact r_V (pc := 79) dX2_layWays_79 rfl F
  · have F := F.2 c1
    refine wp_iconst (v := 0) (pc := 10) dX2_layWays_10 (by decide) ?_
    refine wp_istore (pc := 11) dX2_layWays_11 (Nat.le_of_ble_eq_true rfl) rfl ?_
    show wp l M_X2_layWays (d + 1) 0 0 _ [some (.ref h), some (.long x1), none, some (.long x3), none, some (.int x5), some (.int 0), none] _ 0 0 kd _ _ mr _
    exact wp_less (L' := [some (.ref h), some (.long x1), none, some (.long x3), none, some (.int x5), some (.int 0), none]) ⟨rfl, ⟨rfl, ⟨rfl, ⟨rfl, ⟨rfl, trivial⟩⟩⟩⟩⟩ F
theorem w_X2_layWays_13 {l : Launch} {d : Nat} {kd : pm_K} {mr : pm_R} {h : Nat} {x1 : Int64} {x3 : Int64} {x5 : Int32} {x6 : Int32} {mi : pm_I} {ml : pm_L} {K : pm_I → pm_L → Prop} (th : TX2s kd mr h)
    (F : ((4 ≤ x6 → c_X2_layWays_3 l (d + 1) kd mr h x1 x3 (x5 + 1) mi ml K) ∧ (¬ 4 ≤ x6 → wB l M_X11_has d [.long x3, .int x5] kd mr mi ml (fun r3 mi4 ml5 => ((r3 = false → c_X2_layWays_40 l (d + 1) kd mr h x1 x3 x5 x6 (-1) mi4 ml5 K) ∧ (r3 = true → wI l M_X11_nextSpot d [.int x5, .int x6, .long x1] kd mr mi4 ml5 (fun r7 mi8 ml9 => c_X2_layWays_40 l (d + 1) kd mr h x1 x3 x5 x6 r7 mi8 ml9 K))))))) :
    c_X2_layWays_13 l (d + 1) kd mr h x1 x3 x5 x6 mi ml K := by
  show wp l M_X2_layWays (d + 1) 0 0 13 [some (.ref h), some (.long x1), none, some (.long x3), none, some (.int x5), some (.int x6), none] [] 0 0 kd mi ml mr _
  refine wp_iload (pc := 13) dX2_layWays_13 rfl ?_
  refine wp_iconst (v := 4) (pc := 15) dX2_layWays_15 (by decide) ?_
  refine wp_icmp_ge (tgt := 73) (pc := 16) dX2_layWays_16 (by decide) (fun c2 => ?_) (fun c2 => ?_)
  · have F := F.1 c2
    refine wp_iinc (v := (x5 + 1)) (pc := 73) dX2_layWays_73 rfl rfl rfl ?_
    show wp l M_X2_layWays (d + 1) 0 0 _ [some (.ref h), some (.long x1), none, some (.long x3), none, some (.int (x5 + 1)), some (.int x6), none] _ 0 0 kd _ _ mr _
    refine wp_goto (tgt := 3) (pc := 76) dX2_layWays_76 (by decide) ?_
    exact wp_less (L' := [some (.ref h), some (.long x1), none, some (.long x3), none, some (.int (x5 + 1)), none, none]) ⟨rfl, ⟨rfl, ⟨rfl, ⟨rfl, trivial⟩⟩⟩⟩ F
  · have F := F.2 c2
    refine wp_lload_n (pc := 19) dX2_layWays_19 rfl ?_
    refine wp_iload (pc := 20) dX2_layWays_20 rfl ?_
    refine csB [.long x3, .int x5] [] (pc := 22) dX2_layWays_22 ml_X2_31 st_X11_has rfl rfl (Nat.le_of_ble_eq_true rfl) (Nat.le_of_ble_eq_true rfl) (wB.mono (fun r3 mi4 ml5 F => ?_) F)
    refine b_eq (tgt := 39) (pc := 25) dX2_layWays_25 (by decide) (fun c6 => ?_) (fun c6 => ?_)
    · have F := F.1 c6
      refine wp_iconst (v := -1) (pc := 39) dX2_layWays_39 (by decide) ?_
      exact wp_less (L' := [some (.ref h), some (.long x1), none, some (.long x3), none, some (.int x5), some (.int x6), none]) ⟨rfl, ⟨rfl, ⟨rfl, ⟨rfl, ⟨rfl, trivial⟩⟩⟩⟩⟩ F
    · have F := F.2 c6
      refine wp_iload (pc := 28) dX2_layWays_28 rfl ?_
      refine wp_iload (pc := 30) dX2_layWays_30 rfl ?_
      refine wp_lload_n (pc := 32) dX2_layWays_32 rfl ?_
      refine csI [.int x5, .int x6, .long x1] [] (pc := 33) dX2_layWays_33 ml_X2_35 st_X11_nextSpot rfl rfl (Nat.le_of_ble_eq_true rfl) (Nat.le_of_ble_eq_true rfl) (wI.mono (fun r7 mi8 ml9 F => ?_) F)
      refine wp_goto (tgt := 40) (pc := 36) dX2_layWays_36 (by decide) ?_
      exact wp_less (L' := [some (.ref h), some (.long x1), none, some (.long x3), none, some (.int x5), some (.int x6), none]) ⟨rfl, ⟨rfl, ⟨rfl, ⟨rfl, ⟨rfl, trivial⟩⟩⟩⟩⟩ F
theorem w_X2_layWays_40 {l : Launch} {d : Nat} {kd : pm_K} {mr : pm_R} {h : Nat} {x1 : Int64} {x3 : Int64} {x5 : Int32} {x6 : Int32} {s0 : Int32} {mi : pm_I} {ml : pm_L} {K : pm_I → pm_L → Prop} (th : TX2s kd mr h)
    (F : vp_in ((x5 * 4) + x6) 256 ∧ c_X2_layWays_13 l (d + 1) kd mr h x1 x3 x5 (x6 + 1) (pm_up mi (h + 4) (Int32.toNatClampNeg ((x5 * 4) + x6)) (if s0 = (-1) then x5 else s0)) ml K) :
    c_X2_layWays_40 l (d + 1) kd mr h x1 x3 x5 x6 s0 mi ml K := by
  show wp l M_X2_layWays (d + 1) 0 0 40 [some (.ref h), some (.long x1), none, some (.long x3), none, some (.int x5), some (.int x6), none] [.int s0] 0 0 kd mi ml mr _
  refine wp_istore (pc := 40) dX2_layWays_40 (Nat.le_of_ble_eq_true rfl) rfl ?_
  show wp l M_X2_layWays (d + 1) 0 0 _ [some (.ref h), some (.long x1), none, some (.long x3), none, some (.int x5), some (.int x6), some (.int s0)] _ 0 0 kd _ _ mr _
  refine wp_aload_n (pc := 42) dX2_layWays_42 rfl ?_
  refine wp_getR (pc := 43) dX2_layWays_43 fl_X2_21 rfl (TX2s_k th) (TX2s_r3 th) ?_
  refine wp_iload (pc := 46) dX2_layWays_46 rfl ?_
  refine wp_iconst (v := 4) (pc := 48) dX2_layWays_48 (by decide) ?_
  refine wp_imul (pc := 49) dX2_layWays_49 ?_
  refine wp_iload (pc := 50) dX2_layWays_50 rfl ?_
  refine wp_iadd (pc := 52) dX2_layWays_52 ?_
  refine wp_iload (pc := 53) dX2_layWays_53 rfl ?_
  refine wp_iconst (v := -1) (pc := 55) dX2_layWays_55 (by decide) ?_
  suffices J10 : ∀ v11 : Int32, v11 = (if s0 = (-1) then x5 else s0) → wp l M_X2_layWays (d + 1) 0 0 66 [some (.ref h), some (.long x1), none, some (.long x3), none, some (.int x5), some (.int x6), some (.int s0)] [.int v11, .int ((x5 * 4) + x6), .ref (h + 4)] 0 0 kd mi ml mr _ by
      refine wp_icmp_ne (tgt := 64) (pc := 56) dX2_layWays_56 (by decide) (fun c12 => ?_) (fun c12 => ?_)
      · refine wp_iload (pc := 64) dX2_layWays_64 rfl ?_
        exact J10 _ (by simp only [c12, if_true, if_false, decide_true, decide_false, Bool.not_true, Bool.not_false, Bool.true_and, Bool.false_and, Bool.true_or, Bool.false_or, b2i_t, b2i_f, ite_true, ite_false, not_true_eq_false, not_false_eq_true, reduceCtorEq, decide_eq_true_eq])
      · refine wp_iload (pc := 59) dX2_layWays_59 rfl ?_
        refine wp_goto (tgt := 66) (pc := 61) dX2_layWays_61 (by decide) ?_
        exact J10 _ (by simp only [eq_true c12, if_true, if_false, decide_true, decide_false, Bool.not_true, Bool.not_false, Bool.true_and, Bool.false_and, Bool.true_or, Bool.false_or, b2i_t, b2i_f, ite_true, ite_false, not_true_eq_false, not_false_eq_true, reduceCtorEq, decide_eq_true_eq])
  intro v11 ev11
  subst ev11
  refine wp_iast (pc := 66) dX2_layWays_66 (TX2s_a3 th) F.1 ?_
  have F := F.2
  refine wp_iinc (v := (x6 + 1)) (pc := 67) dX2_layWays_67 rfl rfl rfl ?_
  show wp l M_X2_layWays (d + 1) 0 0 _ [some (.ref h), some (.long x1), none, some (.long x3), none, some (.int x5), some (.int (x6 + 1)), some (.int s0)] _ 0 0 kd _ _ mr _
  refine wp_goto (tgt := 13) (pc := 70) dX2_layWays_70 (by decide) ?_
  exact wp_less (L' := [some (.ref h), some (.long x1), none, some (.long x3), none, some (.int x5), some (.int (x6 + 1)), none]) ⟨rfl, ⟨rfl, ⟨rfl, ⟨rfl, ⟨rfl, trivial⟩⟩⟩⟩⟩ F
/-- layWays(JJ)V -/
theorem w_X2_layWays {l : Launch} {d : Nat} {kd : pm_K} {mr : pm_R} {h : Nat} {x1 : Int64} {x3 : Int64} {mi : pm_I} {ml : pm_L} {K : pm_I → pm_L → Prop} (th : TX2s kd mr h)
    (F : c_X2_layWays_3 l (d + 1) kd mr h x1 x3 0 mi ml K) :
    wV l M_X2_layWays (d + 1) [.ref h, .long x1, .long x3] kd mr mi ml K := by
  show wp l M_X2_layWays (d + 1) 0 0 0 [some (.ref h), some (.long x1), none, some (.long x3), none, none, none, none] [] 0 0 kd mi ml mr _
  refine wp_iconst (v := 0) (pc := 0) dX2_layWays_0 (by decide) ?_
  refine wp_istore (pc := 1) dX2_layWays_1 (Nat.le_of_ble_eq_true rfl) rfl ?_
  show wp l M_X2_layWays (d + 1) 0 0 _ [some (.ref h), some (.long x1), none, some (.long x3), none, some (.int 0), none, none] _ 0 0 kd _ _ mr _
  exact wp_less (L' := [some (.ref h), some (.long x1), none, some (.long x3), none, some (.int 0), none, none]) ⟨rfl, ⟨rfl, ⟨rfl, ⟨rfl, trivial⟩⟩⟩⟩ F
def c_X2_fewestMarches_229 (l : Launch) (d : Nat) (kd : pm_K) (mr : pm_R) (h : Nat) (x3 : Int32) (x4 : Int32) (x5 : Int32) (x6 : Int32) (x7 : Int32) (x8 : Int32) (x9 : Int32) (x10 : Int32) (mi : pm_I) (ml : pm_L) (K : Int32 → pm_I → pm_L → Prop) : Prop := wp l M_X2_fewestMarches d 0 0 229 [some (.ref h), none, none, some (.int x3), some (.int x4), some (.int x5), some (.int x6), some (.int x7), some (.int x8), some (.int x9), some (.int x10), none] [] 0 0 kd mi ml mr (qI kd mr K)
def c_X2_fewestMarches_216 (l : Launch) (d : Nat) (kd : pm_K) (mr : pm_R) (h : Nat) (x3 : Int32) (x4 : Int32) (x5 : Int32) (x6 : Int32) (x7 : Int32) (x8 : Int32) (x9 : Int32) (x10 : Int32) (x11 : Int32) (s0 : Int32) (s1 : Int32) (mi : pm_I) (ml : pm_L) (K : Int32 → pm_I → pm_L → Prop) : Prop := wp l M_X2_fewestMarches d 0 0 216 [some (.ref h), none, none, some (.int x3), some (.int x4), some (.int x5), some (.int x6), some (.int x7), some (.int x8), some (.int x9), some (.int x10), some (.int x11)] [.int s0, .int s1, .ref (h + 3)] 0 0 kd mi ml mr (qI kd mr K)
def c_X2_fewestMarches_118 (l : Launch) (d : Nat) (kd : pm_K) (mr : pm_R) (h : Nat) (x3 : Int32) (x4 : Int32) (x5 : Int32) (x6 : Int32) (x7 : Int32) (x8 : Int32) (x9 : Int32) (x10 : Int32) (mi : pm_I) (ml : pm_L) (K : Int32 → pm_I → pm_L → Prop) : Prop := wp l M_X2_fewestMarches d 0 0 118 [some (.ref h), none, none, some (.int x3), some (.int x4), some (.int x5), some (.int x6), some (.int x7), some (.int x8), some (.int x9), some (.int x10), none] [] 0 0 kd mi ml mr (qI kd mr K)
def c_X2_fewestMarches_46 (l : Launch) (d : Nat) (kd : pm_K) (mr : pm_R) (h : Nat) (x3 : Int32) (x4 : Int32) (x5 : Int32) (x6 : Int32) (mi : pm_I) (ml : pm_L) (K : Int32 → pm_I → pm_L → Prop) : Prop := wp l M_X2_fewestMarches d 0 0 46 [some (.ref h), none, none, some (.int x3), some (.int x4), some (.int x5), some (.int x6), none, none, none, none, none] [] 0 0 kd mi ml mr (qI kd mr K)
theorem w_X2_fewestMarches_46 {l : Launch} {d : Nat} {kd : pm_K} {mr : pm_R} {h : Nat} {x3 : Int32} {x4 : Int32} {x5 : Int32} {x6 : Int32} {mi : pm_I} {ml : pm_L} {K : Int32 → pm_I → pm_L → Prop} (th : TX2s kd mr h)
    (F : ((x5 ≤ x6 → K (-1) mi ml) ∧ (¬ x5 ≤ x6 → ((4096 ≤ x6 → K (-1) mi ml) ∧ (¬ 4096 ≤ x6 → vp_in x6 4096 ∧ ((¬ ((mi (h + 1) (Int32.toNatClampNeg x6)) / 64) = ((mi (h + 1) (Int32.toNatClampNeg x6)) - (mi (h + 1) (Int32.toNatClampNeg x6)) / 64 * 64) → c_X2_fewestMarches_118 l (d + 1) kd mr h x3 x4 x5 x6 (mi (h + 1) (Int32.toNatClampNeg x6)) ((mi (h + 1) (Int32.toNatClampNeg x6)) / 64) ((mi (h + 1) (Int32.toNatClampNeg x6)) - (mi (h + 1) (Int32.toNatClampNeg x6)) / 64 * 64) 0 mi ml K) ∧ (((mi (h + 1) (Int32.toNatClampNeg x6)) / 64) = ((mi (h + 1) (Int32.toNatClampNeg x6)) - (mi (h + 1) (Int32.toNatClampNeg x6)) / 64 * 64) → ((x3 = 0 → vp_in (mi (h + 1) (Int32.toNatClampNeg x6)) 4096 ∧ K (mi (h + 2) (Int32.toNatClampNeg (mi (h + 1) (Int32.toNatClampNeg x6)))) mi ml) ∧ (¬ x3 = 0 → vp_in (mi (h + 1) (Int32.toNatClampNeg x6)) 4096 ∧ K (mi (h + 3) (Int32.toNatClampNeg (mi (h + 1) (Int32.toNatClampNeg x6)))) mi ml))))))))) :
    c_X2_fewestMarches_46 l (d + 1) kd mr h x3 x4 x5 x6 mi ml K := by
  show wp l M_X2_fewestMarches (d + 1) 0 0 46 [some (.ref h), none, none, some (.int x3), some (.int x4), some (.int x5), some (.int x6), none, none, none, none, none] [] 0 0 kd mi ml mr _
  refine wp_iload (pc := 46) dX2_fewestMarches_46 rfl ?_
  refine wp_iload (pc := 48) dX2_fewestMarches_48 rfl ?_
  refine wp_icmp_ge (tgt := 241) (pc := 50) dX2_fewestMarches_50 (by decide) (fun c4 => ?_) (fun c4 => ?_)
  · have F := F.1 c4
    refine wp_iconst (v := -1) (pc := 241) dX2_fewestMarches_241 (by decide) ?_
    exact r_I (pc := 242) dX2_fewestMarches_242 rfl F
  · have F := F.2 c4
    refine wp_iload (pc := 53) dX2_fewestMarches_53 rfl ?_
    refine wp_aload_n (pc := 55) dX2_fewestMarches_55 rfl ?_
    refine wp_getR (pc := 56) dX2_fewestMarches_56 fl_X2_9 rfl (TX2s_k th) (TX2s_r0 th) ?_
    refine wp_alen (v := 4096) (pc := 59) dX2_fewestMarches_59 (by decide) (TX2s_a0 th) rfl ?_
    refine wp_icmp_ge (tgt := 241) (pc := 60) dX2_fewestMarches_60 (by decide) (fun c5 => ?_) (fun c5 => ?_)
    · have F := F.1 c5
      refine wp_iconst (v := -1) (pc := 241) dX2_fewestMarches_241 (by decide) ?_
      exact r_I (pc := 242) dX2_fewestMarches_242 rfl F
    · have F := F.2 c5
      refine wp_aload_n (pc := 63) dX2_fewestMarches_63 rfl ?_
      refine wp_getR (pc := 64) dX2_fewestMarches_64 fl_X2_9 rfl (TX2s_k th) (TX2s_r0 th) ?_
      refine wp_iload (pc := 67) dX2_fewestMarches_67 rfl ?_
      refine wp_iald (pc := 69) dX2_fewestMarches_69 (TX2s_a0 th) F.1 ?_
      have F := F.2
      refine wp_istore (pc := 70) dX2_fewestMarches_70 (Nat.le_of_ble_eq_true rfl) rfl ?_
      show wp l M_X2_fewestMarches (d + 1) 0 0 _ [some (.ref h), none, none, some (.int x3), some (.int x4), some (.int x5), some (.int x6), some (.int (mi (h + 1) (Int32.toNatClampNeg x6))), none, none, none, none] _ 0 0 kd _ _ mr _
      refine wp_iload (pc := 72) dX2_fewestMarches_72 rfl ?_
      refine wp_bipush (v := 64) (pc := 74) dX2_fewestMarches_74 (by decide) ?_
      refine wp_idiv (pc := 76) dX2_fewestMarches_76 (by decide) ?_
      refine wp_istore (pc := 77) dX2_fewestMarches_77 (Nat.le_of_ble_eq_true rfl) rfl ?_
      show wp l M_X2_fewestMarches (d + 1) 0 0 _ [some (.ref h), none, none, some (.int x3), some (.int x4), some (.int x5), some (.int x6), some (.int (mi (h + 1) (Int32.toNatClampNeg x6))), some (.int ((mi (h + 1) (Int32.toNatClampNeg x6)) / 64)), none, none, none] _ 0 0 kd _ _ mr _
      refine wp_iload (pc := 79) dX2_fewestMarches_79 rfl ?_
      refine wp_bipush (v := 64) (pc := 81) dX2_fewestMarches_81 (by decide) ?_
      refine wp_irem (pc := 83) dX2_fewestMarches_83 (by decide) ?_
      refine wp_istore (pc := 84) dX2_fewestMarches_84 (Nat.le_of_ble_eq_true rfl) rfl ?_
      show wp l M_X2_fewestMarches (d + 1) 0 0 _ [some (.ref h), none, none, some (.int x3), some (.int x4), some (.int x5), some (.int x6), some (.int (mi (h + 1) (Int32.toNatClampNeg x6))), some (.int ((mi (h + 1) (Int32.toNatClampNeg x6)) / 64)), some (.int ((mi (h + 1) (Int32.toNatClampNeg x6)) - (mi (h + 1) (Int32.toNatClampNeg x6)) / 64 * 64)), none, none] _ 0 0 kd _ _ mr _
      refine wp_iload (pc := 86) dX2_fewestMarches_86 rfl ?_
      refine wp_iload (pc := 88) dX2_fewestMarches_88 rfl ?_
      refine wp_icmp_ne (tgt := 115) (pc := 90) dX2_fewestMarches_90 (by decide) (fun c6 => ?_) (fun c6 => ?_)
      · have F := F.1 c6
        refine wp_iconst (v := 0) (pc := 115) dX2_fewestMarches_115 (by decide) ?_
        refine wp_istore (pc := 116) dX2_fewestMarches_116 (Nat.le_of_ble_eq_true rfl) rfl ?_
        show wp l M_X2_fewestMarches (d + 1) 0 0 _ [some (.ref h), none, none, some (.int x3), some (.int x4), some (.int x5), some (.int x6), some (.int (mi (h + 1) (Int32.toNatClampNeg x6))), some (.int ((mi (h + 1) (Int32.toNatClampNeg x6)) / 64)), some (.int ((mi (h + 1) (Int32.toNatClampNeg x6)) - (mi (h + 1) (Int32.toNatClampNeg x6)) / 64 * 64)), some (.int 0), none] _ 0 0 kd _ _ mr _
        exact wp_less (L' := [some (.ref h), none, none, some (.int x3), some (.int x4), some (.int x5), some (.int x6), some (.int (mi (h + 1) (Int32.toNatClampNeg x6))), some (.int ((mi (h + 1) (Int32.toNatClampNeg x6)) / 64)), some (.int ((mi (h + 1) (Int32.toNatClampNeg x6)) - (mi (h + 1) (Int32.toNatClampNeg x6)) / 64 * 64)), some (.int 0), none]) ⟨rfl, ⟨rfl, ⟨rfl, ⟨rfl, ⟨rfl, ⟨rfl, ⟨rfl, ⟨rfl, ⟨rfl, trivial⟩⟩⟩⟩⟩⟩⟩⟩⟩ F
      · have F := F.2 c6
        refine wp_iload_n (pc := 93) dX2_fewestMarches_93 rfl ?_
        refine wp_if_eq (tgt := 107) (pc := 94) dX2_fewestMarches_94 (by decide) (fun c7 => ?_) (fun c7 => ?_)
        · have F := F.1 c7
          refine wp_aload_n (pc := 107) dX2_fewestMarches_107 rfl ?_
          refine wp_getR (pc := 108) dX2_fewestMarches_108 fl_X2_15 rfl (TX2s_k th) (TX2s_r1 th) ?_
          refine wp_iload (pc := 111) dX2_fewestMarches_111 rfl ?_
          refine wp_iald (pc := 113) dX2_fewestMarches_113 (TX2s_a1 th) F.1 ?_
          have F := F.2
          exact r_I (pc := 114) dX2_fewestMarches_114 rfl F
        · have F := F.2 c7
          refine wp_aload_n (pc := 97) dX2_fewestMarches_97 rfl ?_
          refine wp_getR (pc := 98) dX2_fewestMarches_98 fl_X2_18 rfl (TX2s_k th) (TX2s_r2 th) ?_
          refine wp_iload (pc := 101) dX2_fewestMarches_101 rfl ?_
          refine wp_iald (pc := 103) dX2_fewestMarches_103 (TX2s_a2 th) F.1 ?_
          have F := F.2
          refine wp_goto (tgt := 114) (pc := 104) dX2_fewestMarches_104 (by decide) ?_
          exact r_I (pc := 114) dX2_fewestMarches_114 rfl F
theorem w_X2_fewestMarches_118 {l : Launch} {d : Nat} {kd : pm_K} {mr : pm_R} {h : Nat} {x3 : Int32} {x4 : Int32} {x5 : Int32} {x6 : Int32} {x7 : Int32} {x8 : Int32} {x9 : Int32} {x10 : Int32} {mi : pm_I} {ml : pm_L} {K : Int32 → pm_I → pm_L → Prop} (th : TX2s kd mr h)
    (F : ((4 ≤ x10 → c_X2_fewestMarches_46 l (d + 1) kd mr h x3 x4 x5 (x6 + 1) mi ml K) ∧ (¬ 4 ≤ x10 → vp_in ((x8 * 4) + x10) 256 ∧ vp_in ((x9 * 4) + x10) 256 ∧ vp_in (((mi (h + 4) (Int32.toNatClampNeg ((x8 * 4) + x10))) * 64) + (mi (h + 4) (Int32.toNatClampNeg ((x9 * 4) + x10)))) 4096 ∧ ((¬ (mi (h + 2) (Int32.toNatClampNeg (((mi (h + 4) (Int32.toNatClampNeg ((x8 * 4) + x10))) * 64) + (mi (h + 4) (Int32.toNatClampNeg ((x9 * 4) + x10)))))) = (-1) → c_X2_fewestMarches_229 l (d + 1) kd mr h x3 x4 x5 x6 x7 x8 x9 x10 mi ml K) ∧ ((mi (h + 2) (Int32.toNatClampNeg (((mi (h + 4) (Int32.toNatClampNeg ((x8 * 4) + x10))) * 64) + (mi (h + 4) (Int32.toNatClampNeg ((x9 * 4) + x10)))))) = (-1) → ((4096 ≤ x5 → c_X2_fewestMarches_229 l (d + 1) kd mr h x3 x4 x5 x6 x7 x8 x9 x10 mi ml K) ∧ (¬ 4096 ≤ x5 → vp_in x7 4096 ∧ vp_in (((mi (h + 4) (Int32.toNatClampNeg ((x8 * 4) + x10))) * 64) + (mi (h + 4) (Int32.toNatClampNeg ((x9 * 4) + x10)))) 4096 ∧ ((¬ x7 = x4 → vp_in x7 4096 ∧ c_X2_fewestMarches_216 l (d + 1) kd mr h x3 x4 x5 x6 x7 x8 x9 x10 (((mi (h + 4) (Int32.toNatClampNeg ((x8 * 4) + x10))) * 64) + (mi (h + 4) (Int32.toNatClampNeg ((x9 * 4) + x10)))) (mi (h + 3) (Int32.toNatClampNeg x7)) (((mi (h + 4) (Int32.toNatClampNeg ((x8 * 4) + x10))) * 64) + (mi (h + 4) (Int32.toNatClampNeg ((x9 * 4) + x10)))) (pm_up mi (h + 2) (Int32.toNatClampNeg (((mi (h + 4) (Int32.toNatClampNeg ((x8 * 4) + x10))) * 64) + (mi (h + 4) (Int32.toNatClampNeg ((x9 * 4) + x10))))) ((mi (h + 2) (Int32.toNatClampNeg x7)) + 1)) ml K) ∧ (x7 = x4 → c_X2_fewestMarches_216 l (d + 1) kd mr h x3 x4 x5 x6 x7 x8 x9 x10 (((mi (h + 4) (Int32.toNatClampNeg ((x8 * 4) + x10))) * 64) + (mi (h + 4) (Int32.toNatClampNeg ((x9 * 4) + x10)))) x10 (((mi (h + 4) (Int32.toNatClampNeg ((x8 * 4) + x10))) * 64) + (mi (h + 4) (Int32.toNatClampNeg ((x9 * 4) + x10)))) (pm_up mi (h + 2) (Int32.toNatClampNeg (((mi (h + 4) (Int32.toNatClampNeg ((x8 * 4) + x10))) * 64) + (mi (h + 4) (Int32.toNatClampNeg ((x9 * 4) + x10))))) ((mi (h + 2) (Int32.toNatClampNeg x7)) + 1)) ml K))))))))) :
    c_X2_fewestMarches_118 l (d + 1) kd mr h x3 x4 x5 x6 x7 x8 x9 x10 mi ml K := by
  show wp l M_X2_fewestMarches (d + 1) 0 0 118 [some (.ref h), none, none, some (.int x3), some (.int x4), some (.int x5), some (.int x6), some (.int x7), some (.int x8), some (.int x9), some (.int x10), none] [] 0 0 kd mi ml mr _
  refine wp_iload (pc := 118) dX2_fewestMarches_118 rfl ?_
  refine wp_iconst (v := 4) (pc := 120) dX2_fewestMarches_120 (by decide) ?_
  refine wp_icmp_ge (tgt := 235) (pc := 121) dX2_fewestMarches_121 (by decide) (fun c8 => ?_) (fun c8 => ?_)
  · have F := F.1 c8
    refine wp_iinc (v := (x6 + 1)) (pc := 235) dX2_fewestMarches_235 rfl rfl rfl ?_
    show wp l M_X2_fewestMarches (d + 1) 0 0 _ [some (.ref h), none, none, some (.int x3), some (.int x4), some (.int x5), some (.int (x6 + 1)), some (.int x7), some (.int x8), some (.int x9), some (.int x10), none] _ 0 0 kd _ _ mr _
    refine wp_goto (tgt := 46) (pc := 238) dX2_fewestMarches_238 (by decide) ?_
    exact wp_less (L' := [some (.ref h), none, none, some (.int x3), some (.int x4), some (.int x5), some (.int (x6 + 1)), none, none, none, none, none]) ⟨rfl, ⟨rfl, ⟨rfl, ⟨rfl, ⟨rfl, trivial⟩⟩⟩⟩⟩ F
  · have F := F.2 c8
    refine wp_aload_n (pc := 124) dX2_fewestMarches_124 rfl ?_
    refine wp_getR (pc := 125) dX2_fewestMarches_125 fl_X2_21 rfl (TX2s_k th) (TX2s_r3 th) ?_
    refine wp_iload (pc := 128) dX2_fewestMarches_128 rfl ?_
    refine wp_iconst (v := 4) (pc := 130) dX2_fewestMarches_130 (by decide) ?_
    refine wp_imul (pc := 131) dX2_fewestMarches_131 ?_
    refine wp_iload (pc := 132) dX2_fewestMarches_132 rfl ?_
    refine wp_iadd (pc := 134) dX2_fewestMarches_134 ?_
    refine wp_iald (pc := 135) dX2_fewestMarches_135 (TX2s_a3 th) F.1 ?_
    have F := F.2
    refine wp_bipush (v := 64) (pc := 136) dX2_fewestMarches_136 (by decide) ?_
    refine wp_imul (pc := 138) dX2_fewestMarches_138 ?_
    refine wp_aload_n (pc := 139) dX2_fewestMarches_139 rfl ?_
    refine wp_getR (pc := 140) dX2_fewestMarches_140 fl_X2_21 rfl (TX2s_k th) (TX2s_r3 th) ?_
    refine wp_iload (pc := 143) dX2_fewestMarches_143 rfl ?_
    refine wp_iconst (v := 4) (pc := 145) dX2_fewestMarches_145 (by decide) ?_
    refine wp_imul (pc := 146) dX2_fewestMarches_146 ?_
    refine wp_iload (pc := 147) dX2_fewestMarches_147 rfl ?_
    refine wp_iadd (pc := 149) dX2_fewestMarches_149 ?_
    refine wp_iald (pc := 150) dX2_fewestMarches_150 (TX2s_a3 th) F.1 ?_
    have F := F.2
    refine wp_iadd (pc := 151) dX2_fewestMarches_151 ?_
    refine wp_istore (pc := 152) dX2_fewestMarches_152 (Nat.le_of_ble_eq_true rfl) rfl ?_
    show wp l M_X2_fewestMarches (d + 1) 0 0 _ [some (.ref h), none, none, some (.int x3), some (.int x4), some (.int x5), some (.int x6), some (.int x7), some (.int x8), some (.int x9), some (.int x10), some (.int (((mi (h + 4) (Int32.toNatClampNeg ((x8 * 4) + x10))) * 64) + (mi (h + 4) (Int32.toNatClampNeg ((x9 * 4) + x10)))))] _ 0 0 kd _ _ mr _
    refine wp_aload_n (pc := 154) dX2_fewestMarches_154 rfl ?_
    refine wp_getR (pc := 155) dX2_fewestMarches_155 fl_X2_15 rfl (TX2s_k th) (TX2s_r1 th) ?_
    refine wp_iload (pc := 158) dX2_fewestMarches_158 rfl ?_
    refine wp_iald (pc := 160) dX2_fewestMarches_160 (TX2s_a1 th) F.1 ?_
    have F := F.2
    refine wp_iconst (v := -1) (pc := 161) dX2_fewestMarches_161 (by decide) ?_
    refine wp_icmp_ne (tgt := 229) (pc := 162) dX2_fewestMarches_162 (by decide) (fun c9 => ?_) (fun c9 => ?_)
    · have F := F.1 c9
      exact wp_less (L' := [some (.ref h), none, none, some (.int x3), some (.int x4), some (.int x5), some (.int x6), some (.int x7), some (.int x8), some (.int x9), some (.int x10), none]) ⟨rfl, ⟨rfl, ⟨rfl, ⟨rfl, ⟨rfl, ⟨rfl, ⟨rfl, ⟨rfl, ⟨rfl, trivial⟩⟩⟩⟩⟩⟩⟩⟩⟩ F
    · have F := F.2 c9
      refine wp_iload (pc := 165) dX2_fewestMarches_165 rfl ?_
      refine wp_aload_n (pc := 167) dX2_fewestMarches_167 rfl ?_
      refine wp_getR (pc := 168) dX2_fewestMarches_168 fl_X2_9 rfl (TX2s_k th) (TX2s_r0 th) ?_
      refine wp_alen (v := 4096) (pc := 171) dX2_fewestMarches_171 (by decide) (TX2s_a0 th) rfl ?_
      refine wp_icmp_ge (tgt := 229) (pc := 172) dX2_fewestMarches_172 (by decide) (fun c10 => ?_) (fun c10 => ?_)
      · have F := F.1 c10
        exact wp_less (L' := [some (.ref h), none, none, some (.int x3), some (.int x4), some (.int x5), some (.int x6), some (.int x7), some (.int x8), some (.int x9), some (.int x10), none]) ⟨rfl, ⟨rfl, ⟨rfl, ⟨rfl, ⟨rfl, ⟨rfl, ⟨rfl, ⟨rfl, ⟨rfl, trivial⟩⟩⟩⟩⟩⟩⟩⟩⟩ F
      · have F := F.2 c10
        refine wp_aload_n (pc := 175) dX2_fewestMarches_175 rfl ?_
        refine wp_getR (pc := 176) dX2_fewestMarches_176 fl_X2_15 rfl (TX2s_k th) (TX2s_r1 th) ?_
        refine wp_iload (pc := 179) dX2_fewestMarches_179 rfl ?_
        refine wp_aload_n (pc := 181) dX2_fewestMarches_181 rfl ?_
        refine wp_getR (pc := 182) dX2_fewestMarches_182 fl_X2_15 rfl (TX2s_k th) (TX2s_r1 th) ?_
        refine wp_iload (pc := 185) dX2_fewestMarches_185 rfl ?_
        refine wp_iald (pc := 187) dX2_fewestMarches_187 (TX2s_a1 th) F.1 ?_
        have F := F.2
        refine wp_iconst (v := 1) (pc := 188) dX2_fewestMarches_188 (by decide) ?_
        refine wp_iadd (pc := 189) dX2_fewestMarches_189 ?_
        refine wp_iast (pc := 190) dX2_fewestMarches_190 (TX2s_a1 th) F.1 ?_
        have F := F.2
        refine wp_aload_n (pc := 191) dX2_fewestMarches_191 rfl ?_
        refine wp_getR (pc := 192) dX2_fewestMarches_192 fl_X2_18 rfl (TX2s_k th) (TX2s_r2 th) ?_
        refine wp_iload (pc := 195) dX2_fewestMarches_195 rfl ?_
        refine wp_iload (pc := 197) dX2_fewestMarches_197 rfl ?_
        refine wp_iload (pc := 199) dX2_fewestMarches_199 rfl ?_
        refine wp_icmp_ne (tgt := 209) (pc := 201) dX2_fewestMarches_201 (by decide) (fun c11 => ?_) (fun c11 => ?_)
        · have F := F.1 c11
          refine wp_aload_n (pc := 209) dX2_fewestMarches_209 rfl ?_
          refine wp_getR (pc := 210) dX2_fewestMarches_210 fl_X2_18 rfl (TX2s_k th) (TX2s_r2 th) ?_
          refine wp_iload (pc := 213) dX2_fewestMarches_213 rfl ?_
          refine wp_iald (pc := 215) dX2_fewestMarches_215 (TX2s_a2 th) F.1 ?_
          have F := F.2
          refine t_I (show ((pm_up mi (h + 2) (Int32.toNatClampNeg (((mi (h + 4) (Int32.toNatClampNeg ((x8 * 4) + x10))) * 64) + (mi (h + 4) (Int32.toNatClampNeg ((x9 * 4) + x10))))) ((mi (h + 2) (Int32.toNatClampNeg x7)) + 1)) (h + 3) (Int32.toNatClampNeg x7)) = (mi (h + 3) (Int32.toNatClampNeg x7)) from pm_up_k _ _ (by omega)) ?_
          exact wp_less (L' := [some (.ref h), none, none, some (.int x3), some (.int x4), some (.int x5), some (.int x6), some (.int x7), some (.int x8), some (.int x9), some (.int x10), some (.int (((mi (h + 4) (Int32.toNatClampNeg ((x8 * 4) + x10))) * 64) + (mi (h + 4) (Int32.toNatClampNeg ((x9 * 4) + x10)))))]) ⟨rfl, ⟨rfl, ⟨rfl, ⟨rfl, ⟨rfl, ⟨rfl, ⟨rfl, ⟨rfl, ⟨rfl, ⟨rfl, trivial⟩⟩⟩⟩⟩⟩⟩⟩⟩⟩ F
        · have F := F.2 c11
          refine wp_iload (pc := 204) dX2_fewestMarches_204 rfl ?_
          refine wp_goto (tgt := 216) (pc := 206) dX2_fewestMarches_206 (by decide) ?_
          exact wp_less (L' := [some (.ref h), none, none, some (.int x3), some (.int x4), some (.int x5), some (.int x6), some (.int x7), some (.int x8), some (.int x9), some (.int x10), some (.int (((mi (h + 4) (Int32.toNatClampNeg ((x8 * 4) + x10))) * 64) + (mi (h + 4) (Int32.toNatClampNeg ((x9 * 4) + x10)))))]) ⟨rfl, ⟨rfl, ⟨rfl, ⟨rfl, ⟨rfl, ⟨rfl, ⟨rfl, ⟨rfl, ⟨rfl, ⟨rfl, trivial⟩⟩⟩⟩⟩⟩⟩⟩⟩⟩ F
theorem w_X2_fewestMarches_216 {l : Launch} {d : Nat} {kd : pm_K} {mr : pm_R} {h : Nat} {x3 : Int32} {x4 : Int32} {x5 : Int32} {x6 : Int32} {x7 : Int32} {x8 : Int32} {x9 : Int32} {x10 : Int32} {x11 : Int32} {s0 : Int32} {s1 : Int32} {mi : pm_I} {ml : pm_L} {K : Int32 → pm_I → pm_L → Prop} (th : TX2s kd mr h)
    (F : vp_in s1 4096 ∧ vp_in x5 4096 ∧ c_X2_fewestMarches_229 l (d + 1) kd mr h x3 x4 (x5 + 1) x6 x7 x8 x9 x10 (pm_up (pm_up mi (h + 3) (Int32.toNatClampNeg s1) s0) (h + 1) (Int32.toNatClampNeg x5) x11) ml K) :
    c_X2_fewestMarches_216 l (d + 1) kd mr h x3 x4 x5 x6 x7 x8 x9 x10 x11 s0 s1 mi ml K := by
  show wp l M_X2_fewestMarches (d + 1) 0 0 216 [some (.ref h), none, none, some (.int x3), some (.int x4), some (.int x5), some (.int x6), some (.int x7), some (.int x8), some (.int x9), some (.int x10), some (.int x11)] [.int s0, .int s1, .ref (h + 3)] 0 0 kd mi ml mr _
  refine wp_iast (pc := 216) dX2_fewestMarches_216 (TX2s_a2 th) F.1 ?_
  have F := F.2
  refine wp_aload_n (pc := 217) dX2_fewestMarches_217 rfl ?_
  refine wp_getR (pc := 218) dX2_fewestMarches_218 fl_X2_9 rfl (TX2s_k th) (TX2s_r0 th) ?_
  refine wp_iload (pc := 221) dX2_fewestMarches_221 rfl ?_
  refine wp_iload (pc := 223) dX2_fewestMarches_223 rfl ?_
  refine wp_iast (pc := 225) dX2_fewestMarches_225 (TX2s_a0 th) F.1 ?_
  have F := F.2
  refine wp_iinc (v := (x5 + 1)) (pc := 226) dX2_fewestMarches_226 rfl rfl rfl ?_
  show wp l M_X2_fewestMarches (d + 1) 0 0 _ [some (.ref h), none, none, some (.int x3), some (.int x4), some (.int (x5 + 1)), some (.int x6), some (.int x7), some (.int x8), some (.int x9), some (.int x10), some (.int x11)] _ 0 0 kd _ _ mr _
  exact wp_less (L' := [some (.ref h), none, none, some (.int x3), some (.int x4), some (.int (x5 + 1)), some (.int x6), some (.int x7), some (.int x8), some (.int x9), some (.int x10), none]) ⟨rfl, ⟨rfl, ⟨rfl, ⟨rfl, ⟨rfl, ⟨rfl, ⟨rfl, ⟨rfl, ⟨rfl, trivial⟩⟩⟩⟩⟩⟩⟩⟩⟩ F
theorem w_X2_fewestMarches_229 {l : Launch} {d : Nat} {kd : pm_K} {mr : pm_R} {h : Nat} {x3 : Int32} {x4 : Int32} {x5 : Int32} {x6 : Int32} {x7 : Int32} {x8 : Int32} {x9 : Int32} {x10 : Int32} {mi : pm_I} {ml : pm_L} {K : Int32 → pm_I → pm_L → Prop} (th : TX2s kd mr h)
    (F : c_X2_fewestMarches_118 l (d + 1) kd mr h x3 x4 x5 x6 x7 x8 x9 (x10 + 1) mi ml K) :
    c_X2_fewestMarches_229 l (d + 1) kd mr h x3 x4 x5 x6 x7 x8 x9 x10 mi ml K := by
  show wp l M_X2_fewestMarches (d + 1) 0 0 229 [some (.ref h), none, none, some (.int x3), some (.int x4), some (.int x5), some (.int x6), some (.int x7), some (.int x8), some (.int x9), some (.int x10), none] [] 0 0 kd mi ml mr _
  refine wp_iinc (v := (x10 + 1)) (pc := 229) dX2_fewestMarches_229 rfl rfl rfl ?_
  show wp l M_X2_fewestMarches (d + 1) 0 0 _ [some (.ref h), none, none, some (.int x3), some (.int x4), some (.int x5), some (.int x6), some (.int x7), some (.int x8), some (.int x9), some (.int (x10 + 1)), none] _ 0 0 kd _ _ mr _
  refine wp_goto (tgt := 118) (pc := 232) dX2_fewestMarches_232 (by decide) ?_
  exact wp_less (L' := [some (.ref h), none, none, some (.int x3), some (.int x4), some (.int x5), some (.int x6), some (.int x7), some (.int x8), some (.int x9), some (.int (x10 + 1)), none]) ⟨rfl, ⟨rfl, ⟨rfl, ⟨rfl, ⟨rfl, ⟨rfl, ⟨rfl, ⟨rfl, ⟨rfl, trivial⟩⟩⟩⟩⟩⟩⟩⟩⟩ F
/-- fewestMarches(IIZ)I -/
theorem w_X2_fewestMarches {l : Launch} {d : Nat} {kd : pm_K} {mr : pm_R} {h : Nat} {x1 : Int32} {x2 : Int32} {x3 : Bool} {mi : pm_I} {ml : pm_L} {K : Int32 → pm_I → pm_L → Prop} (th : TX2s kd mr h)
    (F : wV l M_J7_fill_53178 d [.ref (h + 2), .int (-1)] kd mr mi ml (fun mi2 ml3 => vp_in ((x1 * 64) + x2) 4096 ∧ vp_in ((x1 * 64) + x2) 4096 ∧ c_X2_fewestMarches_46 l (d + 1) kd mr h (b2i x3) ((x1 * 64) + x2) 1 0 (pm_up (pm_up (pm_up mi2 (h + 2) (Int32.toNatClampNeg ((x1 * 64) + x2)) 0) (h + 3) (Int32.toNatClampNeg ((x1 * 64) + x2)) (-1)) (h + 1) (Int32.toNatClampNeg 0) ((x1 * 64) + x2)) ml3 K)) :
    wI l M_X2_fewestMarches (d + 1) [.ref h, .int x1, .int x2, .int (b2i x3)] kd mr mi ml K := by
  show wp l M_X2_fewestMarches (d + 1) 0 0 0 [some (.ref h), some (.int x1), some (.int x2), some (.int (b2i x3)), none, none, none, none, none, none, none, none] [] 0 0 kd mi ml mr _
  refine wp_aload_n (pc := 0) dX2_fewestMarches_0 rfl ?_
  refine wp_getR (pc := 1) dX2_fewestMarches_1 fl_X2_15 rfl (TX2s_k th) (TX2s_r1 th) ?_
  refine wp_iconst (v := -1) (pc := 4) dX2_fewestMarches_4 (by decide) ?_
  refine csV [.ref (h + 2), .int (-1)] [] (pc := 5) dX2_fewestMarches_5 ml_X2_39 st_J7_fill_53178 rfl rfl (Nat.le_of_ble_eq_true rfl) (Nat.le_of_ble_eq_true rfl) (wV.mono (fun mi2 ml3 F => ?_) F)
  refine wp_iload_n (pc := 8) dX2_fewestMarches_8 rfl ?_
  refine wp_bipush (v := 64) (pc := 9) dX2_fewestMarches_9 (by decide) ?_
  refine wp_imul (pc := 11) dX2_fewestMarches_11 ?_
  refine wp_iload_n (pc := 12) dX2_fewestMarches_12 rfl ?_
  refine wp_iadd (pc := 13) dX2_fewestMarches_13 ?_
  refine wp_istore (pc := 14) dX2_fewestMarches_14 (Nat.le_of_ble_eq_true rfl) rfl ?_
  show wp l M_X2_fewestMarches (d + 1) 0 0 _ [some (.ref h), some (.int x1), some (.int x2), some (.int (b2i x3)), some (.int ((x1 * 64) + x2)), none, none, none, none, none, none, none] _ 0 0 kd _ _ mr _
  refine wp_aload_n (pc := 16) dX2_fewestMarches_16 rfl ?_
  refine wp_getR (pc := 17) dX2_fewestMarches_17 fl_X2_15 rfl (TX2s_k th) (TX2s_r1 th) ?_
  refine wp_iload (pc := 20) dX2_fewestMarches_20 rfl ?_
  refine wp_iconst (v := 0) (pc := 22) dX2_fewestMarches_22 (by decide) ?_
  refine wp_iast (pc := 23) dX2_fewestMarches_23 (TX2s_a1 th) F.1 ?_
  have F := F.2
  refine wp_aload_n (pc := 24) dX2_fewestMarches_24 rfl ?_
  refine wp_getR (pc := 25) dX2_fewestMarches_25 fl_X2_18 rfl (TX2s_k th) (TX2s_r2 th) ?_
  refine wp_iload (pc := 28) dX2_fewestMarches_28 rfl ?_
  refine wp_iconst (v := -1) (pc := 30) dX2_fewestMarches_30 (by decide) ?_
  refine wp_iast (pc := 31) dX2_fewestMarches_31 (TX2s_a2 th) F.1 ?_
  have F := F.2
  refine wp_aload_n (pc := 32) dX2_fewestMarches_32 rfl ?_
  refine wp_getR (pc := 33) dX2_fewestMarches_33 fl_X2_9 rfl (TX2s_k th) (TX2s_r0 th) ?_
  refine wp_iconst (v := 0) (pc := 36) dX2_fewestMarches_36 (by decide) ?_
  refine wp_iload (pc := 37) dX2_fewestMarches_37 rfl ?_
  refine wp_iast (pc := 39) dX2_fewestMarches_39 (TX2s_a0 th) (vp_dec (by decide)) ?_
  refine wp_iconst (v := 1) (pc := 40) dX2_fewestMarches_40 (by decide) ?_
  refine wp_istore (pc := 41) dX2_fewestMarches_41 (Nat.le_of_ble_eq_true rfl) rfl ?_
  show wp l M_X2_fewestMarches (d + 1) 0 0 _ [some (.ref h), some (.int x1), some (.int x2), some (.int (b2i x3)), some (.int ((x1 * 64) + x2)), some (.int 1), none, none, none, none, none, none] _ 0 0 kd _ _ mr _
  refine wp_iconst (v := 0) (pc := 43) dX2_fewestMarches_43 (by decide) ?_
  refine wp_istore (pc := 44) dX2_fewestMarches_44 (Nat.le_of_ble_eq_true rfl) rfl ?_
  show wp l M_X2_fewestMarches (d + 1) 0 0 _ [some (.ref h), some (.int x1), some (.int x2), some (.int (b2i x3)), some (.int ((x1 * 64) + x2)), some (.int 1), some (.int 0), none, none, none, none, none] _ 0 0 kd _ _ mr _
  exact wp_less (L' := [some (.ref h), none, none, some (.int (b2i x3)), some (.int ((x1 * 64) + x2)), some (.int 1), some (.int 0), none, none, none, none, none]) ⟨rfl, ⟨rfl, ⟨rfl, ⟨rfl, ⟨rfl, trivial⟩⟩⟩⟩⟩ F
def c_X2_turnsToCatch_31 (l : Launch) (d : Nat) (kd : pm_K) (mr : pm_R) (h : Nat) (x1 : Int64) (x3 : Int32) (x4 : Int32) (x5 : Int32) (mi : pm_I) (ml : pm_L) (K : Int32 → pm_I → pm_L → Prop) : Prop := wp l M_X2_turnsToCatch d 0 0 31 [some (.ref h), some (.long x1), none, some (.int x3), some (.int x4), some (.int x5)] [] 0 0 kd mi ml mr (qI kd mr K)
def c_X2_turnsToCatch_3 (l : Launch) (d : Nat) (kd : pm_K) (mr : pm_R) (h : Nat) (x1 : Int64) (x3 : Int32) (x4 : Int32) (x5 : Int32) (mi : pm_I) (ml : pm_L) (K : Int32 → pm_I → pm_L → Prop) : Prop := wp l M_X2_turnsToCatch d 0 0 3 [some (.ref h), some (.long x1), none, some (.int x3), some (.int x4), some (.int x5)] [] 0 0 kd mi ml mr (qI kd mr K)
theorem w_X2_turnsToCatch_3 {l : Launch} {d : Nat} {kd : pm_K} {mr : pm_R} {h : Nat} {x1 : Int64} {x3 : Int32} {x4 : Int32} {x5 : Int32} {mi : pm_I} {ml : pm_L} {K : Int32 → pm_I → pm_L → Prop} (th : TX2s kd mr h)
    (F : ((64 ≤ x5 → c_X2_turnsToCatch_31 l (d + 1) kd mr h x1 x3 x4 0 mi ml K) ∧ (¬ 64 ≤ x5 → wL l M_X11_only d [.int x5] kd mr mi ml (fun r2 mi3 ml4 => vp_in x5 64 ∧ c_X2_turnsToCatch_3 l (d + 1) kd mr h x1 x3 x4 (x5 + 1) mi3 (pm_up ml4 (h + 5) (Int32.toNatClampNeg x5) r2) K)))) :
    c_X2_turnsToCatch_3 l (d + 1) kd mr h x1 x3 x4 x5 mi ml K := by
  show wp l M_X2_turnsToCatch (d + 1) 0 0 3 [some (.ref h), some (.long x1), none, some (.int x3), some (.int x4), some (.int x5)] [] 0 0 kd mi ml mr _
  refine wp_iload (pc := 3) dX2_turnsToCatch_3 rfl ?_
  refine wp_bipush (v := 64) (pc := 5) dX2_turnsToCatch_5 (by decide) ?_
  refine wp_icmp_ge (tgt := 28) (pc := 7) dX2_turnsToCatch_7 (by decide) (fun c1 => ?_) (fun c1 => ?_)
  · have F := F.1 c1
    refine wp_iconst (v := 0) (pc := 28) dX2_turnsToCatch_28 (by decide) ?_
    refine wp_istore (pc := 29) dX2_turnsToCatch_29 (Nat.le_of_ble_eq_true rfl) rfl ?_
    show wp l M_X2_turnsToCatch (d + 1) 0 0 _ [some (.ref h), some (.long x1), none, some (.int x3), some (.int x4), some (.int 0)] _ 0 0 kd _ _ mr _
    exact wp_less (L' := [some (.ref h), some (.long x1), none, some (.int x3), some (.int x4), some (.int 0)]) ⟨rfl, ⟨rfl, ⟨rfl, ⟨rfl, ⟨rfl, trivial⟩⟩⟩⟩⟩ F
  · have F := F.2 c1
    refine wp_aload_n (pc := 10) dX2_turnsToCatch_10 rfl ?_
    refine wp_getR (pc := 11) dX2_turnsToCatch_11 fl_X2_24 rfl (TX2s_k th) (TX2s_r4 th) ?_
    refine wp_iload (pc := 14) dX2_turnsToCatch_14 rfl ?_
    refine wp_iload (pc := 16) dX2_turnsToCatch_16 rfl ?_
    refine csL [.int x5] [.int x5, .ref (h + 5)] (pc := 18) dX2_turnsToCatch_18 ml_X2_45 st_X11_only rfl rfl (Nat.le_of_ble_eq_true rfl) (Nat.le_of_ble_eq_true rfl) (wL.mono (fun r2 mi3 ml4 F => ?_) F)
    refine wp_last (pc := 21) dX2_turnsToCatch_21 (TX2s_a4 th) F.1 ?_
    have F := F.2
    refine wp_iinc (v := (x5 + 1)) (pc := 22) dX2_turnsToCatch_22 rfl rfl rfl ?_
    show wp l M_X2_turnsToCatch (d + 1) 0 0 _ [some (.ref h), some (.long x1), none, some (.int x3), some (.int x4), some (.int (x5 + 1))] _ 0 0 kd _ _ mr _
    refine wp_goto (tgt := 3) (pc := 25) dX2_turnsToCatch_25 (by decide) ?_
    exact wp_less (L' := [some (.ref h), some (.long x1), none, some (.int x3), some (.int x4), some (.int (x5 + 1))]) ⟨rfl, ⟨rfl, ⟨rfl, ⟨rfl, ⟨rfl, trivial⟩⟩⟩⟩⟩ F
theorem w_X2_turnsToCatch_31 {l : Launch} {d : Nat} {kd : pm_K} {mr : pm_R} {h : Nat} {x1 : Int64} {x3 : Int32} {x4 : Int32} {x5 : Int32} {mi : pm_I} {ml : pm_L} {K : Int32 → pm_I → pm_L → Prop} (th : TX2s kd mr h)
    (F : ((4096 < x5 → K (-1) mi ml) ∧ (¬ 4096 < x5 → vp_in x3 64 ∧ wB l M_X11_has d [.long (ml (h + 5) (Int32.toNatClampNeg x3)), .int x4] kd mr mi ml (fun r6 mi7 ml8 => ((r6 = false → wB l M_X2_addTurn d [.ref h, .long x1] kd mr mi7 ml8 (fun r10 mi11 ml12 => ((r10 = true → c_X2_turnsToCatch_31 l (d + 1) kd mr h x1 x3 x4 (x5 + 1) mi11 ml12 K) ∧ (r10 = false → K (-1) mi11 ml12)))) ∧ (r6 = true → K x5 mi7 ml8)))))) :
    c_X2_turnsToCatch_31 l (d + 1) kd mr h x1 x3 x4 x5 mi ml K := by
  show wp l M_X2_turnsToCatch (d + 1) 0 0 31 [some (.ref h), some (.long x1), none, some (.int x3), some (.int x4), some (.int x5)] [] 0 0 kd mi ml mr _
  refine wp_iload (pc := 31) dX2_turnsToCatch_31 rfl ?_
  refine wp_sipush (v := 4096) (pc := 33) dX2_turnsToCatch_33 (by decide) ?_
  refine wp_icmp_gt (tgt := 72) (pc := 36) dX2_turnsToCatch_36 (by decide) (fun c5 => ?_) (fun c5 => ?_)
  · have F := F.1 c5
    refine wp_iconst (v := -1) (pc := 72) dX2_turnsToCatch_72 (by decide) ?_
    exact r_I (pc := 73) dX2_turnsToCatch_73 rfl F
  · have F := F.2 c5
    refine wp_aload_n (pc := 39) dX2_turnsToCatch_39 rfl ?_
    refine wp_getR (pc := 40) dX2_turnsToCatch_40 fl_X2_24 rfl (TX2s_k th) (TX2s_r4 th) ?_
    refine wp_iload_n (pc := 43) dX2_turnsToCatch_43 rfl ?_
    refine wp_lald (pc := 44) dX2_turnsToCatch_44 (TX2s_a4 th) F.1 ?_
    have F := F.2
    refine wp_iload (pc := 45) dX2_turnsToCatch_45 rfl ?_
    refine csB [.long (ml (h + 5) (Int32.toNatClampNeg x3)), .int x4] [] (pc := 47) dX2_turnsToCatch_47 ml_X2_31 st_X11_has rfl rfl (Nat.le_of_ble_eq_true rfl) (Nat.le_of_ble_eq_true rfl) (wB.mono (fun r6 mi7 ml8 F => ?_) F)
    refine b_eq (tgt := 56) (pc := 50) dX2_turnsToCatch_50 (by decide) (fun c9 => ?_) (fun c9 => ?_)
    · have F := F.1 c9
      refine wp_aload_n (pc := 56) dX2_turnsToCatch_56 rfl ?_
      refine wp_lload_n (pc := 57) dX2_turnsToCatch_57 rfl ?_
      refine cvB [.long x1] [] (pc := 58) dX2_turnsToCatch_58 ml_X2_49 iv_X2_addTurn (TX2s_k th) (cl_X2 rfl) rfl rfl (Nat.le_of_ble_eq_true rfl) (Nat.le_of_ble_eq_true rfl) (wB.mono (fun r10 mi11 ml12 F => ?_) F)
      refine b_ne (tgt := 66) (pc := 61) dX2_turnsToCatch_61 (by decide) (fun c13 => ?_) (fun c13 => ?_)
      · have F := F.1 c13
        refine wp_iinc (v := (x5 + 1)) (pc := 66) dX2_turnsToCatch_66 rfl rfl rfl ?_
        show wp l M_X2_turnsToCatch (d + 1) 0 0 _ [some (.ref h), some (.long x1), none, some (.int x3), some (.int x4), some (.int (x5 + 1))] _ 0 0 kd _ _ mr _
        refine wp_goto (tgt := 31) (pc := 69) dX2_turnsToCatch_69 (by decide) ?_
        exact wp_less (L' := [some (.ref h), some (.long x1), none, some (.int x3), some (.int x4), some (.int (x5 + 1))]) ⟨rfl, ⟨rfl, ⟨rfl, ⟨rfl, ⟨rfl, trivial⟩⟩⟩⟩⟩ F
      · have F := F.2 c13
        refine wp_iconst (v := -1) (pc := 64) dX2_turnsToCatch_64 (by decide) ?_
        exact r_I (pc := 65) dX2_turnsToCatch_65 rfl F
    · have F := F.2 c9
      refine wp_iload (pc := 53) dX2_turnsToCatch_53 rfl ?_
      exact r_I (pc := 55) dX2_turnsToCatch_55 rfl F
/-- turnsToCatch(JII)I -/
theorem w_X2_turnsToCatch {l : Launch} {d : Nat} {kd : pm_K} {mr : pm_R} {h : Nat} {x1 : Int64} {x3 : Int32} {x4 : Int32} {mi : pm_I} {ml : pm_L} {K : Int32 → pm_I → pm_L → Prop} (th : TX2s kd mr h)
    (F : c_X2_turnsToCatch_3 l (d + 1) kd mr h x1 x3 x4 0 mi ml K) :
    wI l M_X2_turnsToCatch (d + 1) [.ref h, .long x1, .int x3, .int x4] kd mr mi ml K := by
  show wp l M_X2_turnsToCatch (d + 1) 0 0 0 [some (.ref h), some (.long x1), none, some (.int x3), some (.int x4), none] [] 0 0 kd mi ml mr _
  refine wp_iconst (v := 0) (pc := 0) dX2_turnsToCatch_0 (by decide) ?_
  refine wp_istore (pc := 1) dX2_turnsToCatch_1 (Nat.le_of_ble_eq_true rfl) rfl ?_
  show wp l M_X2_turnsToCatch (d + 1) 0 0 _ [some (.ref h), some (.long x1), none, some (.int x3), some (.int x4), some (.int 0)] _ 0 0 kd _ _ mr _
  exact wp_less (L' := [some (.ref h), some (.long x1), none, some (.int x3), some (.int x4), some (.int 0)]) ⟨rfl, ⟨rfl, ⟨rfl, ⟨rfl, ⟨rfl, trivial⟩⟩⟩⟩⟩ F
def c_X2_addTurn_111 (l : Launch) (d : Nat) (kd : pm_K) (mr : pm_R) (h : Nat) (x1 : Int64) (x3 : Int32) (x4 : Int32) (mi : pm_I) (ml : pm_L) (K : Bool → pm_I → pm_L → Prop) : Prop := wp l M_X2_addTurn d 0 0 111 [some (.ref h), some (.long x1), none, some (.int x3), some (.int x4), none, none] [] 0 0 kd mi ml mr (qB kd mr K)
def c_X2_addTurn_56 (l : Launch) (d : Nat) (kd : pm_K) (mr : pm_R) (h : Nat) (x1 : Int64) (x3 : Int32) (x4 : Int32) (mi : pm_I) (ml : pm_L) (K : Bool → pm_I → pm_L → Prop) : Prop := wp l M_X2_addTurn d 0 0 56 [some (.ref h), some (.long x1), none, some (.int x3), some (.int x4), none, none] [] 0 0 kd mi ml mr (qB kd mr K)
def c_X2_addTurn_2 (l : Launch) (d : Nat) (kd : pm_K) (mr : pm_R) (h : Nat) (x1 : Int64) (x3 : Int32) (mi : pm_I) (ml : pm_L) (K : Bool → pm_I → pm_L → Prop) : Prop := wp l M_X2_addTurn d 0 0 2 [some (.ref h), some (.long x1), none, some (.int x3), none, none, none] [] 0 0 kd mi ml mr (qB kd mr K)
theorem w_X2_addTurn_2 {l : Launch} {d : Nat} {kd : pm_K} {mr : pm_R} {h : Nat} {x1 : Int64} {x3 : Int32} {mi : pm_I} {ml : pm_L} {K : Bool → pm_I → pm_L → Prop} (th : TX2s kd mr h)
    (F : ((64 ≤ x3 → c_X2_addTurn_56 l (d + 1) kd mr h x1 0 0 mi ml K) ∧ (¬ 64 ≤ x3 → vp_in x3 64 ∧ wL l M_X11_grown d [.long (x1 &&& ((ml (h + 5) (Int32.toNatClampNeg x3)) ^^^ (-1))), .long x1] kd mr mi ml (fun r2 mi3 ml4 => wL l M_X11_only d [.int x3] kd mr mi3 ml4 (fun r5 mi6 ml7 => vp_in x3 64 ∧ c_X2_addTurn_2 l (d + 1) kd mr h x1 (x3 + 1) mi6 (pm_up ml7 (h + 6) (Int32.toNatClampNeg x3) ((x1 &&& (r2 ^^^ (-1))) ||| r5)) K))))) :
    c_X2_addTurn_2 l (d + 1) kd mr h x1 x3 mi ml K := by
  show wp l M_X2_addTurn (d + 1) 0 0 2 [some (.ref h), some (.long x1), none, some (.int x3), none, none, none] [] 0 0 kd mi ml mr _
  refine wp_iload_n (pc := 2) dX2_addTurn_2 rfl ?_
  refine wp_bipush (v := 64) (pc := 3) dX2_addTurn_3 (by decide) ?_
  refine wp_icmp_ge (tgt := 51) (pc := 5) dX2_addTurn_5 (by decide) (fun c1 => ?_) (fun c1 => ?_)
  · have F := F.1 c1
    refine wp_iconst (v := 0) (pc := 51) dX2_addTurn_51 (by decide) ?_
    refine wp_istore_n (pc := 52) dX2_addTurn_52 (Nat.le_of_ble_eq_true rfl) rfl ?_
    show wp l M_X2_addTurn (d + 1) 0 0 _ [some (.ref h), some (.long x1), none, some (.int 0), none, none, none] _ 0 0 kd _ _ mr _
    refine wp_iconst (v := 0) (pc := 53) dX2_addTurn_53 (by decide) ?_
    refine wp_istore (pc := 54) dX2_addTurn_54 (Nat.le_of_ble_eq_true rfl) rfl ?_
    show wp l M_X2_addTurn (d + 1) 0 0 _ [some (.ref h), some (.long x1), none, some (.int 0), some (.int 0), none, none] _ 0 0 kd _ _ mr _
    exact wp_less (L' := [some (.ref h), some (.long x1), none, some (.int 0), some (.int 0), none, none]) ⟨rfl, ⟨rfl, ⟨rfl, ⟨rfl, trivial⟩⟩⟩⟩ F
  · have F := F.2 c1
    refine wp_lload_n (pc := 8) dX2_addTurn_8 rfl ?_
    refine wp_aload_n (pc := 9) dX2_addTurn_9 rfl ?_
    refine wp_getR (pc := 10) dX2_addTurn_10 fl_X2_24 rfl (TX2s_k th) (TX2s_r4 th) ?_
    refine wp_iload_n (pc := 13) dX2_addTurn_13 rfl ?_
    refine wp_lald (pc := 14) dX2_addTurn_14 (TX2s_a4 th) F.1 ?_
    have F := F.2
    refine wp_ldc2 (v := -1) (pc := 15) dX2_addTurn_15 (tb_4 185 rfl rfl) ?_
    refine wp_lxor (pc := 18) dX2_addTurn_18 ?_
    refine wp_land (pc := 19) dX2_addTurn_19 ?_
    refine wp_lload_n (pc := 20) dX2_addTurn_20 rfl ?_
    refine csL [.long (x1 &&& ((ml (h + 5) (Int32.toNatClampNeg x3)) ^^^ (-1))), .long x1] [] (pc := 21) dX2_addTurn_21 ml_X2_55 st_X11_grown rfl rfl (Nat.le_of_ble_eq_true rfl) (Nat.le_of_ble_eq_true rfl) (wL.mono (fun r2 mi3 ml4 F => ?_) F)
    refine wp_lstore (pc := 24) dX2_addTurn_24 (Nat.le_of_ble_eq_true rfl) rfl ?_
    show wp l M_X2_addTurn (d + 1) 0 0 _ [some (.ref h), some (.long x1), none, some (.int x3), some (.long r2), none, none] _ 0 0 kd _ _ mr _
    refine wp_aload_n (pc := 26) dX2_addTurn_26 rfl ?_
    refine wp_getR (pc := 27) dX2_addTurn_27 fl_X2_28 rfl (TX2s_k th) (TX2s_r5 th) ?_
    refine wp_iload_n (pc := 30) dX2_addTurn_30 rfl ?_
    refine wp_lload_n (pc := 31) dX2_addTurn_31 rfl ?_
    refine wp_lload (pc := 32) dX2_addTurn_32 rfl ?_
    refine wp_ldc2 (v := -1) (pc := 34) dX2_addTurn_34 (tb_4 185 rfl rfl) ?_
    refine wp_lxor (pc := 37) dX2_addTurn_37 ?_
    refine wp_land (pc := 38) dX2_addTurn_38 ?_
    refine wp_iload_n (pc := 39) dX2_addTurn_39 rfl ?_
    refine csL [.int x3] [.long (x1 &&& (r2 ^^^ (-1))), .int x3, .ref (h + 6)] (pc := 40) dX2_addTurn_40 ml_X2_45 st_X11_only rfl rfl (Nat.le_of_ble_eq_true rfl) (Nat.le_of_ble_eq_true rfl) (wL.mono (fun r5 mi6 ml7 F => ?_) F)
    refine wp_lor (pc := 43) dX2_addTurn_43 ?_
    refine wp_last (pc := 44) dX2_addTurn_44 (TX2s_a5 th) F.1 ?_
    have F := F.2
    refine wp_iinc (v := (x3 + 1)) (pc := 45) dX2_addTurn_45 rfl rfl rfl ?_
    show wp l M_X2_addTurn (d + 1) 0 0 _ [some (.ref h), some (.long x1), none, some (.int (x3 + 1)), some (.long r2), none, none] _ 0 0 kd _ _ mr _
    refine wp_goto (tgt := 2) (pc := 48) dX2_addTurn_48 (by decide) ?_
    exact wp_less (L' := [some (.ref h), some (.long x1), none, some (.int (x3 + 1)), none, none, none]) ⟨rfl, ⟨rfl, ⟨rfl, trivial⟩⟩⟩ F
theorem w_X2_addTurn_56 {l : Launch} {d : Nat} {kd : pm_K} {mr : pm_R} {h : Nat} {x1 : Int64} {x3 : Int32} {x4 : Int32} {mi : pm_I} {ml : pm_L} {K : Bool → pm_I → pm_L → Prop} (th : TX2s kd mr h)
    (F : ((64 ≤ x4 → (∃ z9 : Bool, x3 = b2i z9 ∧ K z9 mi ml)) ∧ (¬ 64 ≤ x4 → wB l M_X11_has d [.long x1, .int x4] kd mr mi ml (fun r10 mi11 ml12 => ((r10 = false → c_X2_addTurn_111 l (d + 1) kd mr h x1 x3 x4 mi11 ml12 K) ∧ (r10 = true → wL l M_X2_heldAround d [.ref h, .long x1, .int x4] kd mr mi11 ml12 (fun r14 mi15 ml16 => vp_in x4 64 ∧ vp_in x4 64 ∧ c_X2_addTurn_111 l (d + 1) kd mr h x1 (x3 ||| (b2i (!decide ((lg_cmp r14 (ml16 (h + 5) (Int32.toNatClampNeg x4))) = 0)))) x4 mi15 (pm_up ml16 (h + 5) (Int32.toNatClampNeg x4) r14) K))))))) :
    c_X2_addTurn_56 l (d + 1) kd mr h x1 x3 x4 mi ml K := by
  show wp l M_X2_addTurn (d + 1) 0 0 56 [some (.ref h), some (.long x1), none, some (.int x3), some (.int x4), none, none] [] 0 0 kd mi ml mr _
  refine wp_iload (pc := 56) dX2_addTurn_56 rfl ?_
  refine wp_bipush (v := 64) (pc := 58) dX2_addTurn_58 (by decide) ?_
  refine wp_icmp_ge (tgt := 117) (pc := 60) dX2_addTurn_60 (by decide) (fun c8 => ?_) (fun c8 => ?_)
  · have F := F.1 c8
    refine wp_iload_n (pc := 117) dX2_addTurn_117 rfl ?_
    obtain ⟨z9, hz9, F⟩ := F
    exact r_Bx (pc := 118) dX2_addTurn_118 rfl hz9 F
  · have F := F.2 c8
    refine wp_lload_n (pc := 63) dX2_addTurn_63 rfl ?_
    refine wp_iload (pc := 64) dX2_addTurn_64 rfl ?_
    refine csB [.long x1, .int x4] [] (pc := 66) dX2_addTurn_66 ml_X2_31 st_X11_has rfl rfl (Nat.le_of_ble_eq_true rfl) (Nat.le_of_ble_eq_true rfl) (wB.mono (fun r10 mi11 ml12 F => ?_) F)
    refine b_eq (tgt := 111) (pc := 69) dX2_addTurn_69 (by decide) (fun c13 => ?_) (fun c13 => ?_)
    · have F := F.1 c13
      exact wp_less (L' := [some (.ref h), some (.long x1), none, some (.int x3), some (.int x4), none, none]) ⟨rfl, ⟨rfl, ⟨rfl, ⟨rfl, trivial⟩⟩⟩⟩ F
    · have F := F.2 c13
      refine wp_aload_n (pc := 72) dX2_addTurn_72 rfl ?_
      refine wp_lload_n (pc := 73) dX2_addTurn_73 rfl ?_
      refine wp_iload (pc := 74) dX2_addTurn_74 rfl ?_
      refine cvL [.long x1, .int x4] [] (pc := 76) dX2_addTurn_76 ml_X2_59 iv_X2_heldAround (TX2s_k th) (cl_X2 rfl) rfl rfl (Nat.le_of_ble_eq_true rfl) (Nat.le_of_ble_eq_true rfl) (wL.mono (fun r14 mi15 ml16 F => ?_) F)
      refine wp_lstore (pc := 79) dX2_addTurn_79 (Nat.le_of_ble_eq_true rfl) rfl ?_
      show wp l M_X2_addTurn (d + 1) 0 0 _ [some (.ref h), some (.long x1), none, some (.int x3), some (.int x4), some (.long r14), none] _ 0 0 kd _ _ mr _
      refine wp_iload_n (pc := 81) dX2_addTurn_81 rfl ?_
      refine wp_lload (pc := 82) dX2_addTurn_82 rfl ?_
      refine wp_aload_n (pc := 84) dX2_addTurn_84 rfl ?_
      refine wp_getR (pc := 85) dX2_addTurn_85 fl_X2_24 rfl (TX2s_k th) (TX2s_r4 th) ?_
      refine wp_iload (pc := 88) dX2_addTurn_88 rfl ?_
      refine wp_lald (pc := 90) dX2_addTurn_90 (TX2s_a4 th) F.1 ?_
      have F := F.2
      refine wp_lcmp (pc := 91) dX2_addTurn_91 ?_
      suffices J17 : ∀ v18 : Int32, v18 = (b2i (!decide ((lg_cmp r14 (ml16 (h + 5) (Int32.toNatClampNeg x4))) = 0))) → wp l M_X2_addTurn (d + 1) 0 0 100 [some (.ref h), some (.long x1), none, some (.int x3), some (.int x4), some (.long r14), none] [.int v18, .int x3] 0 0 kd mi15 ml16 mr _ by
          refine wp_if_eq (tgt := 99) (pc := 92) dX2_addTurn_92 (by decide) (fun c19 => ?_) (fun c19 => ?_)
          · refine wp_iconst (v := 0) (pc := 99) dX2_addTurn_99 (by decide) ?_
            exact J17 _ (by simp only [eq_true c19, if_true, if_false, decide_true, decide_false, Bool.not_true, Bool.not_false, Bool.true_and, Bool.false_and, Bool.true_or, Bool.false_or, b2i_t, b2i_f, ite_true, ite_false, not_true_eq_false, not_false_eq_true, reduceCtorEq, decide_eq_true_eq])
          · refine wp_iconst (v := 1) (pc := 95) dX2_addTurn_95 (by decide) ?_
            refine wp_goto (tgt := 100) (pc := 96) dX2_addTurn_96 (by decide) ?_
            exact J17 _ (by simp only [c19, if_true, if_false, decide_true, decide_false, Bool.not_true, Bool.not_false, Bool.true_and, Bool.false_and, Bool.true_or, Bool.false_or, b2i_t, b2i_f, ite_true, ite_false, not_true_eq_false, not_false_eq_true, reduceCtorEq, decide_eq_true_eq])
      intro v18 ev18
      subst ev18
      refine wp_ior (pc := 100) dX2_addTurn_100 ?_
      refine wp_istore_n (pc := 101) dX2_addTurn_101 (Nat.le_of_ble_eq_true rfl) rfl ?_
      show wp l M_X2_addTurn (d + 1) 0 0 _ [some (.ref h), some (.long x1), none, some (.int (x3 ||| (b2i (!decide ((lg_cmp r14 (ml16 (h + 5) (Int32.toNatClampNeg x4))) = 0))))), some (.int x4), some (.long r14), none] _ 0 0 kd _ _ mr _
      refine wp_aload_n (pc := 102) dX2_addTurn_102 rfl ?_
      refine wp_getR (pc := 103) dX2_addTurn_103 fl_X2_24 rfl (TX2s_k th) (TX2s_r4 th) ?_
      refine wp_iload (pc := 106) dX2_addTurn_106 rfl ?_
      refine wp_lload (pc := 108) dX2_addTurn_108 rfl ?_
      refine wp_last (pc := 110) dX2_addTurn_110 (TX2s_a4 th) F.1 ?_
      have F := F.2
      exact wp_less (L' := [some (.ref h), some (.long x1), none, some (.int (x3 ||| (b2i (!decide ((lg_cmp r14 (ml16 (h + 5) (Int32.toNatClampNeg x4))) = 0))))), some (.int x4), none, none]) ⟨rfl, ⟨rfl, ⟨rfl, ⟨rfl, trivial⟩⟩⟩⟩ F
theorem w_X2_addTurn_111 {l : Launch} {d : Nat} {kd : pm_K} {mr : pm_R} {h : Nat} {x1 : Int64} {x3 : Int32} {x4 : Int32} {mi : pm_I} {ml : pm_L} {K : Bool → pm_I → pm_L → Prop} (th : TX2s kd mr h)
    (F : c_X2_addTurn_56 l (d + 1) kd mr h x1 x3 (x4 + 1) mi ml K) :
    c_X2_addTurn_111 l (d + 1) kd mr h x1 x3 x4 mi ml K := by
  show wp l M_X2_addTurn (d + 1) 0 0 111 [some (.ref h), some (.long x1), none, some (.int x3), some (.int x4), none, none] [] 0 0 kd mi ml mr _
  refine wp_iinc (v := (x4 + 1)) (pc := 111) dX2_addTurn_111 rfl rfl rfl ?_
  show wp l M_X2_addTurn (d + 1) 0 0 _ [some (.ref h), some (.long x1), none, some (.int x3), some (.int (x4 + 1)), none, none] _ 0 0 kd _ _ mr _
  refine wp_goto (tgt := 56) (pc := 114) dX2_addTurn_114 (by decide) ?_
  exact wp_less (L' := [some (.ref h), some (.long x1), none, some (.int x3), some (.int (x4 + 1)), none, none]) ⟨rfl, ⟨rfl, ⟨rfl, ⟨rfl, trivial⟩⟩⟩⟩ F
/-- addTurn(J)Z -/
theorem w_X2_addTurn {l : Launch} {d : Nat} {kd : pm_K} {mr : pm_R} {h : Nat} {x1 : Int64} {mi : pm_I} {ml : pm_L} {K : Bool → pm_I → pm_L → Prop} (th : TX2s kd mr h)
    (F : c_X2_addTurn_2 l (d + 1) kd mr h x1 0 mi ml K) :
    wB l M_X2_addTurn (d + 1) [.ref h, .long x1] kd mr mi ml K := by
  show wp l M_X2_addTurn (d + 1) 0 0 0 [some (.ref h), some (.long x1), none, none, none, none, none] [] 0 0 kd mi ml mr _
  refine wp_iconst (v := 0) (pc := 0) dX2_addTurn_0 (by decide) ?_
  refine wp_istore_n (pc := 1) dX2_addTurn_1 (Nat.le_of_ble_eq_true rfl) rfl ?_
  show wp l M_X2_addTurn (d + 1) 0 0 _ [some (.ref h), some (.long x1), none, some (.int 0), none, none, none] _ 0 0 kd _ _ mr _
  exact wp_less (L' := [some (.ref h), some (.long x1), none, some (.int 0), none, none, none]) ⟨rfl, ⟨rfl, ⟨rfl, trivial⟩⟩⟩ F
def c_X2_heldAround_44 (l : Launch) (d : Nat) (kd : pm_K) (mr : pm_R) (h : Nat) (x1 : Int64) (x3 : Int32) (x4 : Int64) (x6 : Int32) (mi : pm_I) (ml : pm_L) (K : Int64 → pm_I → pm_L → Prop) : Prop := wp l M_X2_heldAround d 0 0 44 [some (.ref h), some (.long x1), none, some (.int x3), some (.long x4), none, some (.int x6), none] [] 0 0 kd mi ml mr (qL kd mr K)
def c_X2_heldAround_11 (l : Launch) (d : Nat) (kd : pm_K) (mr : pm_R) (h : Nat) (x1 : Int64) (x3 : Int32) (x4 : Int64) (x6 : Int32) (mi : pm_I) (ml : pm_L) (K : Int64 → pm_I → pm_L → Prop) : Prop := wp l M_X2_heldAround d 0 0 11 [some (.ref h), some (.long x1), none, some (.int x3), some (.long x4), none, some (.int x6), none] [] 0 0 kd mi ml mr (qL kd mr K)
theorem w_X2_heldAround_11 {l : Launch} {d : Nat} {kd : pm_K} {mr : pm_R} {h : Nat} {x1 : Int64} {x3 : Int32} {x4 : Int64} {x6 : Int32} {mi : pm_I} {ml : pm_L} {K : Int64 → pm_I → pm_L → Prop} (th : TX2s kd mr h)
    (F : ((4 ≤ x6 → K x4 mi ml) ∧ (¬ 4 ≤ x6 → wI l M_X11_nextSpot d [.int x3, .int x6, .long x1] kd mr mi ml (fun r2 mi3 ml4 => ((r2 = (-1) → c_X2_heldAround_44 l (d + 1) kd mr h x1 x3 x4 x6 mi3 ml4 K) ∧ (¬ r2 = (-1) → vp_in r2 64 ∧ c_X2_heldAround_44 l (d + 1) kd mr h x1 x3 (x4 ||| (ml4 (h + 6) (Int32.toNatClampNeg r2))) x6 mi3 ml4 K)))))) :
    c_X2_heldAround_11 l (d + 1) kd mr h x1 x3 x4 x6 mi ml K := by
  show wp l M_X2_heldAround (d + 1) 0 0 11 [some (.ref h), some (.long x1), none, some (.int x3), some (.long x4), none, some (.int x6), none] [] 0 0 kd mi ml mr _
  refine wp_iload (pc := 11) dX2_heldAround_11 rfl ?_
  refine wp_iconst (v := 4) (pc := 13) dX2_heldAround_13 (by decide) ?_
  refine wp_icmp_ge (tgt := 50) (pc := 14) dX2_heldAround_14 (by decide) (fun c1 => ?_) (fun c1 => ?_)
  · have F := F.1 c1
    refine wp_lload (pc := 50) dX2_heldAround_50 rfl ?_
    exact r_L (pc := 52) dX2_heldAround_52 rfl F
  · have F := F.2 c1
    refine wp_iload_n (pc := 17) dX2_heldAround_17 rfl ?_
    refine wp_iload (pc := 18) dX2_heldAround_18 rfl ?_
    refine wp_lload_n (pc := 20) dX2_heldAround_20 rfl ?_
    refine csI [.int x3, .int x6, .long x1] [] (pc := 21) dX2_heldAround_21 ml_X2_35 st_X11_nextSpot rfl rfl (Nat.le_of_ble_eq_true rfl) (Nat.le_of_ble_eq_true rfl) (wI.mono (fun r2 mi3 ml4 F => ?_) F)
    refine wp_istore (pc := 24) dX2_heldAround_24 (Nat.le_of_ble_eq_true rfl) rfl ?_
    show wp l M_X2_heldAround (d + 1) 0 0 _ [some (.ref h), some (.long x1), none, some (.int x3), some (.long x4), none, some (.int x6), some (.int r2)] _ 0 0 kd _ _ mr _
    refine wp_iload (pc := 26) dX2_heldAround_26 rfl ?_
    refine wp_iconst (v := -1) (pc := 28) dX2_heldAround_28 (by decide) ?_
    refine wp_icmp_eq (tgt := 44) (pc := 29) dX2_heldAround_29 (by decide) (fun c5 => ?_) (fun c5 => ?_)
    · have F := F.1 c5
      exact wp_less (L' := [some (.ref h), some (.long x1), none, some (.int x3), some (.long x4), none, some (.int x6), none]) ⟨rfl, ⟨rfl, ⟨rfl, ⟨rfl, ⟨rfl, trivial⟩⟩⟩⟩⟩ F
    · have F := F.2 c5
      refine wp_lload (pc := 32) dX2_heldAround_32 rfl ?_
      refine wp_aload_n (pc := 34) dX2_heldAround_34 rfl ?_
      refine wp_getR (pc := 35) dX2_heldAround_35 fl_X2_28 rfl (TX2s_k th) (TX2s_r5 th) ?_
      refine wp_iload (pc := 38) dX2_heldAround_38 rfl ?_
      refine wp_lald (pc := 40) dX2_heldAround_40 (TX2s_a5 th) F.1 ?_
      have F := F.2
      refine wp_lor (pc := 41) dX2_heldAround_41 ?_
      refine wp_lstore (pc := 42) dX2_heldAround_42 (Nat.le_of_ble_eq_true rfl) rfl ?_
      show wp l M_X2_heldAround (d + 1) 0 0 _ [some (.ref h), some (.long x1), none, some (.int x3), some (.long (x4 ||| (ml4 (h + 6) (Int32.toNatClampNeg r2)))), none, some (.int x6), some (.int r2)] _ 0 0 kd _ _ mr _
      exact wp_less (L' := [some (.ref h), some (.long x1), none, some (.int x3), some (.long (x4 ||| (ml4 (h + 6) (Int32.toNatClampNeg r2)))), none, some (.int x6), none]) ⟨rfl, ⟨rfl, ⟨rfl, ⟨rfl, ⟨rfl, trivial⟩⟩⟩⟩⟩ F
theorem w_X2_heldAround_44 {l : Launch} {d : Nat} {kd : pm_K} {mr : pm_R} {h : Nat} {x1 : Int64} {x3 : Int32} {x4 : Int64} {x6 : Int32} {mi : pm_I} {ml : pm_L} {K : Int64 → pm_I → pm_L → Prop} (th : TX2s kd mr h)
    (F : c_X2_heldAround_11 l (d + 1) kd mr h x1 x3 x4 (x6 + 1) mi ml K) :
    c_X2_heldAround_44 l (d + 1) kd mr h x1 x3 x4 x6 mi ml K := by
  show wp l M_X2_heldAround (d + 1) 0 0 44 [some (.ref h), some (.long x1), none, some (.int x3), some (.long x4), none, some (.int x6), none] [] 0 0 kd mi ml mr _
  refine wp_iinc (v := (x6 + 1)) (pc := 44) dX2_heldAround_44 rfl rfl rfl ?_
  show wp l M_X2_heldAround (d + 1) 0 0 _ [some (.ref h), some (.long x1), none, some (.int x3), some (.long x4), none, some (.int (x6 + 1)), none] _ 0 0 kd _ _ mr _
  refine wp_goto (tgt := 11) (pc := 47) dX2_heldAround_47 (by decide) ?_
  exact wp_less (L' := [some (.ref h), some (.long x1), none, some (.int x3), some (.long x4), none, some (.int (x6 + 1)), none]) ⟨rfl, ⟨rfl, ⟨rfl, ⟨rfl, ⟨rfl, trivial⟩⟩⟩⟩⟩ F
/-- heldAround(JI)J -/
theorem w_X2_heldAround {l : Launch} {d : Nat} {kd : pm_K} {mr : pm_R} {h : Nat} {x1 : Int64} {x3 : Int32} {mi : pm_I} {ml : pm_L} {K : Int64 → pm_I → pm_L → Prop} (th : TX2s kd mr h)
    (F : vp_in x3 64 ∧ c_X2_heldAround_11 l (d + 1) kd mr h x1 x3 (ml (h + 6) (Int32.toNatClampNeg x3)) 0 mi ml K) :
    wL l M_X2_heldAround (d + 1) [.ref h, .long x1, .int x3] kd mr mi ml K := by
  show wp l M_X2_heldAround (d + 1) 0 0 0 [some (.ref h), some (.long x1), none, some (.int x3), none, none, none, none] [] 0 0 kd mi ml mr _
  refine wp_aload_n (pc := 0) dX2_heldAround_0 rfl ?_
  refine wp_getR (pc := 1) dX2_heldAround_1 fl_X2_28 rfl (TX2s_k th) (TX2s_r5 th) ?_
  refine wp_iload_n (pc := 4) dX2_heldAround_4 rfl ?_
  refine wp_lald (pc := 5) dX2_heldAround_5 (TX2s_a5 th) F.1 ?_
  have F := F.2
  refine wp_lstore (pc := 6) dX2_heldAround_6 (Nat.le_of_ble_eq_true rfl) rfl ?_
  show wp l M_X2_heldAround (d + 1) 0 0 _ [some (.ref h), some (.long x1), none, some (.int x3), some (.long (ml (h + 6) (Int32.toNatClampNeg x3))), none, none, none] _ 0 0 kd _ _ mr _
  refine wp_iconst (v := 0) (pc := 8) dX2_heldAround_8 (by decide) ?_
  refine wp_istore (pc := 9) dX2_heldAround_9 (Nat.le_of_ble_eq_true rfl) rfl ?_
  show wp l M_X2_heldAround (d + 1) 0 0 _ [some (.ref h), some (.long x1), none, some (.int x3), some (.long (ml (h + 6) (Int32.toNatClampNeg x3))), none, some (.int 0), none] _ 0 0 kd _ _ mr _
  exact wp_less (L' := [some (.ref h), some (.long x1), none, some (.int x3), some (.long (ml (h + 6) (Int32.toNatClampNeg x3))), none, some (.int 0), none]) ⟨rfl, ⟨rfl, ⟨rfl, ⟨rfl, ⟨rfl, trivial⟩⟩⟩⟩⟩ F
def c_X4_plan_82 (l : Launch) (d : Nat) (kd : pm_K) (mr : pm_R) (h : Nat) (a1 na1 : Nat) (x2 : Int32) (x3 : Int32) (x4 : Int32) (x5 : Int32) (x6 : Int32) (mi : pm_I) (ml : pm_L) (K : pm_I → pm_L → Prop) : Prop := wp l M_X4_plan d 0 0 82 [some (.ref h), some (.ref a1), some (.int x2), some (.int x3), some (.int x4), some (.int x5), some (.int x6)] [] 0 0 kd mi ml mr (qV kd mr K)
def c_X4_plan_64 (l : Launch) (d : Nat) (kd : pm_K) (mr : pm_R) (h : Nat) (a1 na1 : Nat) (x2 : Int32) (x3 : Int32) (x4 : Int32) (x5 : Int32) (mi : pm_I) (ml : pm_L) (K : pm_I → pm_L → Prop) : Prop := wp l M_X4_plan d 0 0 64 [some (.ref h), some (.ref a1), some (.int x2), some (.int x3), some (.int x4), some (.int x5), none] [] 0 0 kd mi ml mr (qV kd mr K)
def c_X4_plan_48 (l : Launch) (d : Nat) (kd : pm_K) (mr : pm_R) (h : Nat) (a1 na1 : Nat) (x2 : Int32) (x3 : Int32) (x4 : Int32) (mi : pm_I) (ml : pm_L) (K : pm_I → pm_L → Prop) : Prop := wp l M_X4_plan d 0 0 48 [some (.ref h), some (.ref a1), some (.int x2), some (.int x3), some (.int x4), none, none] [] 0 0 kd mi ml mr (qV kd mr K)
def c_X4_plan_13 (l : Launch) (d : Nat) (kd : pm_K) (mr : pm_R) (h : Nat) (a1 na1 : Nat) (x2 : Int32) (x3 : Int32) (x4 : Int32) (x5 : Int32) (mi : pm_I) (ml : pm_L) (K : pm_I → pm_L → Prop) : Prop := wp l M_X4_plan d 0 0 13 [some (.ref h), some (.ref a1), some (.int x2), some (.int x3), some (.int x4), some (.int x5), none] [] 0 0 kd mi ml mr (qV kd mr K)
def c_X4_plan_3 (l : Launch) (d : Nat) (kd : pm_K) (mr : pm_R) (h : Nat) (a1 na1 : Nat) (x2 : Int32) (x3 : Int32) (x4 : Int32) (mi : pm_I) (ml : pm_L) (K : pm_I → pm_L → Prop) : Prop := wp l M_X4_plan d 0 0 3 [some (.ref h), some (.ref a1), some (.int x2), some (.int x3), some (.int x4), none, none] [] 0 0 kd mi ml mr (qV kd mr K)
theorem w_X4_plan_3 {l : Launch} {d : Nat} {kd : pm_K} {mr : pm_R} {h : Nat} {a1 na1 : Nat} {x2 : Int32} {x3 : Int32} {x4 : Int32} {mi : pm_I} {ml : pm_L} {K : pm_I → pm_L → Prop} (th : TX4s kd mr h) (ka1 : kd[a1]? = some (1, na1))
    (F : ((57 ≤ x4 → c_X4_plan_48 l (d + 1) kd mr h a1 na1 x2 x3 1 mi ml K) ∧ (¬ 57 ≤ x4 → c_X4_plan_13 l (d + 1) kd mr h a1 na1 x2 x3 x4 0 mi ml K))) :
    c_X4_plan_3 l (d + 1) kd mr h a1 na1 x2 x3 x4 mi ml K := by
  show wp l M_X4_plan (d + 1) 0 0 3 [some (.ref h), some (.ref a1), some (.int x2), some (.int x3), some (.int x4), none, none] [] 0 0 kd mi ml mr _
  refine wp_iload (pc := 3) dX4_plan_3 rfl ?_
  refine wp_bipush (v := 57) (pc := 5) dX4_plan_5 (by decide) ?_
  refine wp_icmp_ge (tgt := 45) (pc := 7) dX4_plan_7 (by decide) (fun c1 => ?_) (fun c1 => ?_)
  · have F := F.1 c1
    refine wp_iconst (v := 1) (pc := 45) dX4_plan_45 (by decide) ?_
    refine wp_istore (pc := 46) dX4_plan_46 (Nat.le_of_ble_eq_true rfl) rfl ?_
    show wp l M_X4_plan (d + 1) 0 0 _ [some (.ref h), some (.ref a1), some (.int x2), some (.int x3), some (.int 1), none, none] _ 0 0 kd _ _ mr _
    exact wp_less (L' := [some (.ref h), some (.ref a1), some (.int x2), some (.int x3), some (.int 1), none, none]) ⟨rfl, ⟨rfl, ⟨rfl, ⟨rfl, ⟨rfl, trivial⟩⟩⟩⟩⟩ F
  · have F := F.2 c1
    refine wp_iconst (v := 0) (pc := 10) dX4_plan_10 (by decide) ?_
    refine wp_istore (pc := 11) dX4_plan_11 (Nat.le_of_ble_eq_true rfl) rfl ?_
    show wp l M_X4_plan (d + 1) 0 0 _ [some (.ref h), some (.ref a1), some (.int x2), some (.int x3), some (.int x4), some (.int 0), none] _ 0 0 kd _ _ mr _
    exact wp_less (L' := [some (.ref h), some (.ref a1), some (.int x2), some (.int x3), some (.int x4), some (.int 0), none]) ⟨rfl, ⟨rfl, ⟨rfl, ⟨rfl, ⟨rfl, ⟨rfl, trivial⟩⟩⟩⟩⟩⟩ F
theorem w_X4_plan_13 {l : Launch} {d : Nat} {kd : pm_K} {mr : pm_R} {h : Nat} {a1 na1 : Nat} {x2 : Int32} {x3 : Int32} {x4 : Int32} {x5 : Int32} {mi : pm_I} {ml : pm_L} {K : pm_I → pm_L → Prop} (th : TX4s kd mr h) (ka1 : kd[a1]? = some (1, na1))
    (F : ((5 ≤ x5 → c_X4_plan_3 l (d + 1) kd mr h a1 na1 x2 x3 (x4 + 1) mi ml K) ∧ (¬ 5 ≤ x5 → wI l M_X4_indexOf d [.int 0, .int x4, .int x5] kd mr mi ml (fun r3 mi4 ml5 => vp_in r3 3705 ∧ c_X4_plan_13 l (d + 1) kd mr h a1 na1 x2 x3 x4 (x5 + 1) (pm_up mi4 (h + 3) (Int32.toNatClampNeg r3) 0) ml5 K)))) :
    c_X4_plan_13 l (d + 1) kd mr h a1 na1 x2 x3 x4 x5 mi ml K := by
  show wp l M_X4_plan (d + 1) 0 0 13 [some (.ref h), some (.ref a1), some (.int x2), some (.int x3), some (.int x4), some (.int x5), none] [] 0 0 kd mi ml mr _
  refine wp_iload (pc := 13) dX4_plan_13 rfl ?_
  refine wp_iconst (v := 5) (pc := 15) dX4_plan_15 (by decide) ?_
  refine wp_icmp_ge (tgt := 39) (pc := 16) dX4_plan_16 (by decide) (fun c2 => ?_) (fun c2 => ?_)
  · have F := F.1 c2
    refine wp_iinc (v := (x4 + 1)) (pc := 39) dX4_plan_39 rfl rfl rfl ?_
    show wp l M_X4_plan (d + 1) 0 0 _ [some (.ref h), some (.ref a1), some (.int x2), some (.int x3), some (.int (x4 + 1)), some (.int x5), none] _ 0 0 kd _ _ mr _
    refine wp_goto (tgt := 3) (pc := 42) dX4_plan_42 (by decide) ?_
    exact wp_less (L' := [some (.ref h), some (.ref a1), some (.int x2), some (.int x3), some (.int (x4 + 1)), none, none]) ⟨rfl, ⟨rfl, ⟨rfl, ⟨rfl, ⟨rfl, trivial⟩⟩⟩⟩⟩ F
  · have F := F.2 c2
    refine wp_aload_n (pc := 19) dX4_plan_19 rfl ?_
    refine wp_getR (pc := 20) dX4_plan_20 fl_X4_18 rfl (TX4s_k th) (TX4s_r2 th) ?_
    refine wp_iconst (v := 0) (pc := 23) dX4_plan_23 (by decide) ?_
    refine wp_iload (pc := 24) dX4_plan_24 rfl ?_
    refine wp_iload (pc := 26) dX4_plan_26 rfl ?_
    refine csI [.int 0, .int x4, .int x5] [.ref (h + 3)] (pc := 28) dX4_plan_28 ml_X4_47 st_X4_indexOf rfl rfl (Nat.le_of_ble_eq_true rfl) (Nat.le_of_ble_eq_true rfl) (wI.mono (fun r3 mi4 ml5 F => ?_) F)
    refine wp_iconst (v := 0) (pc := 31) dX4_plan_31 (by decide) ?_
    refine wp_iast (pc := 32) dX4_plan_32 (TX4s_a2 th) F.1 ?_
    have F := F.2
    refine wp_iinc (v := (x5 + 1)) (pc := 33) dX4_plan_33 rfl rfl rfl ?_
    show wp l M_X4_plan (d + 1) 0 0 _ [some (.ref h), some (.ref a1), some (.int x2), some (.int x3), some (.int x4), some (.int (x5 + 1)), none] _ 0 0 kd _ _ mr _
    refine wp_goto (tgt := 13) (pc := 36) dX4_plan_36 (by decide) ?_
    exact wp_less (L' := [some (.ref h), some (.ref a1), some (.int x2), some (.int x3), some (.int x4), some (.int (x5 + 1)), none]) ⟨rfl, ⟨rfl, ⟨rfl, ⟨rfl, ⟨rfl, ⟨rfl, trivial⟩⟩⟩⟩⟩⟩ F
theorem w_X4_plan_48 {l : Launch} {d : Nat} {kd : pm_K} {mr : pm_R} {h : Nat} {a1 na1 : Nat} {x2 : Int32} {x3 : Int32} {x4 : Int32} {mi : pm_I} {ml : pm_L} {K : pm_I → pm_L → Prop} (th : TX4s kd mr h) (ka1 : kd[a1]? = some (1, na1))
    (F : ((x2 < x4 → K mi ml) ∧ (¬ x2 < x4 → ((12 < x4 → K mi ml) ∧ (¬ 12 < x4 → c_X4_plan_64 l (d + 1) kd mr h a1 na1 x2 x3 x4 0 mi ml K))))) :
    c_X4_plan_48 l (d + 1) kd mr h a1 na1 x2 x3 x4 mi ml K := by
  show wp l M_X4_plan (d + 1) 0 0 48 [some (.ref h), some (.ref a1), some (.int x2), some (.int x3), some (.int x4), none, none] [] 0 0 kd mi ml mr _
  refine wp_iload (pc := 48) dX4_plan_48 rfl ?_
  refine wp_iload_n (pc := 50) dX4_plan_50 rfl ?_
  refine wp_icmp_gt (tgt := 132) (pc := 51) dX4_plan_51 (by decide) (fun c6 => ?_) (fun c6 => ?_)
  · have F := F.1 c6
    exact r_V (pc := 132) dX4_plan_132 rfl F
  · have F := F.2 c6
    refine wp_iload (pc := 54) dX4_plan_54 rfl ?_
    refine wp_bipush (v := 12) (pc := 56) dX4_plan_56 (by decide) ?_
    refine wp_icmp_gt (tgt := 132) (pc := 58) dX4_plan_58 (by decide) (fun c7 => ?_) (fun c7 => ?_)
    · have F := F.1 c7
      exact r_V (pc := 132) dX4_plan_132 rfl F
    · have F := F.2 c7
      refine wp_iconst (v := 0) (pc := 61) dX4_plan_61 (by decide) ?_
      refine wp_istore (pc := 62) dX4_plan_62 (Nat.le_of_ble_eq_true rfl) rfl ?_
      show wp l M_X4_plan (d + 1) 0 0 _ [some (.ref h), some (.ref a1), some (.int x2), some (.int x3), some (.int x4), some (.int 0), none] _ 0 0 kd _ _ mr _
      exact wp_less (L' := [some (.ref h), some (.ref a1), some (.int x2), some (.int x3), some (.int x4), some (.int 0), none]) ⟨rfl, ⟨rfl, ⟨rfl, ⟨rfl, ⟨rfl, ⟨rfl, trivial⟩⟩⟩⟩⟩⟩ F
theorem w_X4_plan_64 {l : Launch} {d : Nat} {kd : pm_K} {mr : pm_R} {h : Nat} {a1 na1 : Nat} {x2 : Int32} {x3 : Int32} {x4 : Int32} {x5 : Int32} {mi : pm_I} {ml : pm_L} {K : pm_I → pm_L → Prop} (th : TX4s kd mr h) (ka1 : kd[a1]? = some (1, na1))
    (F : ((57 ≤ x5 → c_X4_plan_48 l (d + 1) kd mr h a1 na1 x2 x3 (x4 + 1) mi ml K) ∧ (¬ 57 ≤ x5 → c_X4_plan_82 l (d + 1) kd mr h a1 na1 x2 x3 x4 x5 (if x3 = 0 then (4 : Int32) else (0 : Int32)) mi ml K))) :
    c_X4_plan_64 l (d + 1) kd mr h a1 na1 x2 x3 x4 x5 mi ml K := by
  show wp l M_X4_plan (d + 1) 0 0 64 [some (.ref h), some (.ref a1), some (.int x2), some (.int x3), some (.int x4), some (.int x5), none] [] 0 0 kd mi ml mr _
  refine wp_iload (pc := 64) dX4_plan_64 rfl ?_
  refine wp_bipush (v := 57) (pc := 66) dX4_plan_66 (by decide) ?_
  refine wp_icmp_ge (tgt := 126) (pc := 68) dX4_plan_68 (by decide) (fun c8 => ?_) (fun c8 => ?_)
  · have F := F.1 c8
    refine wp_iinc (v := (x4 + 1)) (pc := 126) dX4_plan_126 rfl rfl rfl ?_
    show wp l M_X4_plan (d + 1) 0 0 _ [some (.ref h), some (.ref a1), some (.int x2), some (.int x3), some (.int (x4 + 1)), some (.int x5), none] _ 0 0 kd _ _ mr _
    refine wp_goto (tgt := 48) (pc := 129) dX4_plan_129 (by decide) ?_
    exact wp_less (L' := [some (.ref h), some (.ref a1), some (.int x2), some (.int x3), some (.int (x4 + 1)), none, none]) ⟨rfl, ⟨rfl, ⟨rfl, ⟨rfl, ⟨rfl, trivial⟩⟩⟩⟩⟩ F
  · have F := F.2 c8
    refine wp_iload_n (pc := 71) dX4_plan_71 rfl ?_
    suffices J9 : ∀ v10 : Int32, v10 = (if x3 = 0 then (4 : Int32) else (0 : Int32)) → wp l M_X4_plan (d + 1) 0 0 80 [some (.ref h), some (.ref a1), some (.int x2), some (.int x3), some (.int x4), some (.int x5), none] [.int v10] 0 0 kd mi ml mr _ by
        refine wp_if_eq (tgt := 79) (pc := 72) dX4_plan_72 (by decide) (fun c11 => ?_) (fun c11 => ?_)
        · refine wp_iconst (v := 4) (pc := 79) dX4_plan_79 (by decide) ?_
          exact J9 _ (by simp only [eq_true c11, if_true, if_false, decide_true, decide_false, Bool.not_true, Bool.not_false, Bool.true_and, Bool.false_and, Bool.true_or, Bool.false_or, b2i_t, b2i_f, ite_true, ite_false, not_true_eq_false, not_false_eq_true, reduceCtorEq, decide_eq_true_eq])
        · refine wp_iconst (v := 0) (pc := 75) dX4_plan_75 (by decide) ?_
          refine wp_goto (tgt := 80) (pc := 76) dX4_plan_76 (by decide) ?_
          exact J9 _ (by simp only [c11, if_true, if_false, decide_true, decide_false, Bool.not_true, Bool.not_false, Bool.true_and, Bool.false_and, Bool.true_or, Bool.false_or, b2i_t, b2i_f, ite_true, ite_false, not_true_eq_false, not_false_eq_true, reduceCtorEq, decide_eq_true_eq])
    intro v10 ev10
    subst ev10
    refine wp_istore (pc := 80) dX4_plan_80 (Nat.le_of_ble_eq_true rfl) rfl ?_
    show wp l M_X4_plan (d + 1) 0 0 _ [some (.ref h), some (.ref a1), some (.int x2), some (.int x3), some (.int x4), some (.int x5), some (.int (if x3 = 0 then (4 : Int32) else (0 : Int32)))] _ 0 0 kd _ _ mr _
    exact wp_less (L' := [some (.ref h), some (.ref a1), some (.int x2), some (.int x3), some (.int x4), some (.int x5), some (.int (if x3 = 0 then (4 : Int32) else (0 : Int32)))]) ⟨rfl, ⟨rfl, ⟨rfl, ⟨rfl, ⟨rfl, ⟨rfl, ⟨rfl, trivial⟩⟩⟩⟩⟩⟩⟩ F
theorem w_X4_plan_82 {l : Launch} {d : Nat} {kd : pm_K} {mr : pm_R} {h : Nat} {a1 na1 : Nat} {x2 : Int32} {x3 : Int32} {x4 : Int32} {x5 : Int32} {x6 : Int32} {mi : pm_I} {ml : pm_L} {K : pm_I → pm_L → Prop} (th : TX4s kd mr h) (ka1 : kd[a1]? = some (1, na1))
    (F : ((5 ≤ x6 → c_X4_plan_64 l (d + 1) kd mr h a1 na1 x2 x3 x4 (x5 + 1) mi ml K) ∧ (¬ 5 ≤ x6 → wI l M_X4_indexOf d [.int x4, .int x5, .int x6] kd mr mi ml (fun r13 mi14 ml15 => wI l M_X4_bestOf d [.ref h, .ref a1, .int x4, .int x5, .int x6, .int x3] kd mr mi14 ml15 (fun r16 mi17 ml18 => vp_in r13 3705 ∧ c_X4_plan_82 l (d + 1) kd mr h a1 na1 x2 x3 x4 x5 (x6 + 1) (pm_up mi17 (h + 3) (Int32.toNatClampNeg r13) r16) ml18 K))))) :
    c_X4_plan_82 l (d + 1) kd mr h a1 na1 x2 x3 x4 x5 x6 mi ml K := by
  show wp l M_X4_plan (d + 1) 0 0 82 [some (.ref h), some (.ref a1), some (.int x2), some (.int x3), some (.int x4), some (.int x5), some (.int x6)] [] 0 0 kd mi ml mr _
  refine wp_iload (pc := 82) dX4_plan_82 rfl ?_
  refine wp_iconst (v := 5) (pc := 84) dX4_plan_84 (by decide) ?_
  refine wp_icmp_ge (tgt := 120) (pc := 85) dX4_plan_85 (by decide) (fun c12 => ?_) (fun c12 => ?_)
  · have F := F.1 c12
    refine wp_iinc (v := (x5 + 1)) (pc := 120) dX4_plan_120 rfl rfl rfl ?_
    show wp l M_X4_plan (d + 1) 0 0 _ [some (.ref h), some (.ref a1), some (.int x2), some (.int x3), some (.int x4), some (.int (x5 + 1)), some (.int x6)] _ 0 0 kd _ _ mr _
    refine wp_goto (tgt := 64) (pc := 123) dX4_plan_123 (by decide) ?_
    exact wp_less (L' := [some (.ref h), some (.ref a1), some (.int x2), some (.int x3), some (.int x4), some (.int (x5 + 1)), none]) ⟨rfl, ⟨rfl, ⟨rfl, ⟨rfl, ⟨rfl, ⟨rfl, trivial⟩⟩⟩⟩⟩⟩ F
  · have F := F.2 c12
    refine wp_aload_n (pc := 88) dX4_plan_88 rfl ?_
    refine wp_getR (pc := 89) dX4_plan_89 fl_X4_18 rfl (TX4s_k th) (TX4s_r2 th) ?_
    refine wp_iload (pc := 92) dX4_plan_92 rfl ?_
    refine wp_iload (pc := 94) dX4_plan_94 rfl ?_
    refine wp_iload (pc := 96) dX4_plan_96 rfl ?_
    refine csI [.int x4, .int x5, .int x6] [.ref (h + 3)] (pc := 98) dX4_plan_98 ml_X4_47 st_X4_indexOf rfl rfl (Nat.le_of_ble_eq_true rfl) (Nat.le_of_ble_eq_true rfl) (wI.mono (fun r13 mi14 ml15 F => ?_) F)
    refine wp_aload_n (pc := 101) dX4_plan_101 rfl ?_
    refine wp_aload_n (pc := 102) dX4_plan_102 rfl ?_
    refine wp_iload (pc := 103) dX4_plan_103 rfl ?_
    refine wp_iload (pc := 105) dX4_plan_105 rfl ?_
    refine wp_iload (pc := 107) dX4_plan_107 rfl ?_
    refine wp_iload_n (pc := 109) dX4_plan_109 rfl ?_
    refine cvI [.ref a1, .int x4, .int x5, .int x6, .int x3] [.int r13, .ref (h + 3)] (pc := 110) dX4_plan_110 ml_X4_51 iv_X4_bestOf (TX4s_k th) (cl_X4 rfl) rfl rfl (Nat.le_of_ble_eq_true rfl) (Nat.le_of_ble_eq_true rfl) (wI.mono (fun r16 mi17 ml18 F => ?_) F)
    refine wp_iast (pc := 113) dX4_plan_113 (TX4s_a2 th) F.1 ?_
    have F := F.2
    refine wp_iinc (v := (x6 + 1)) (pc := 114) dX4_plan_114 rfl rfl rfl ?_
    show wp l M_X4_plan (d + 1) 0 0 _ [some (.ref h), some (.ref a1), some (.int x2), some (.int x3), some (.int x4), some (.int x5), some (.int (x6 + 1))] _ 0 0 kd _ _ mr _
    refine wp_goto (tgt := 82) (pc := 117) dX4_plan_117 (by decide) ?_
    exact wp_less (L' := [some (.ref h), some (.ref a1), some (.int x2), some (.int x3), some (.int x4), some (.int x5), some (.int (x6 + 1))]) ⟨rfl, ⟨rfl, ⟨rfl, ⟨rfl, ⟨rfl, ⟨rfl, ⟨rfl, trivial⟩⟩⟩⟩⟩⟩⟩ F
/-- plan([IIZ)V -/
theorem w_X4_plan {l : Launch} {d : Nat} {kd : pm_K} {mr : pm_R} {h : Nat} {a1 na1 : Nat} {x2 : Int32} {x3 : Bool} {mi : pm_I} {ml : pm_L} {K : pm_I → pm_L → Prop} (th : TX4s kd mr h) (ka1 : kd[a1]? = some (1, na1))
    (F : c_X4_plan_3 l (d + 1) kd mr h a1 na1 x2 (b2i x3) 0 mi ml K) :
    wV l M_X4_plan (d + 1) [.ref h, .ref a1, .int x2, .int (b2i x3)] kd mr mi ml K := by
  show wp l M_X4_plan (d + 1) 0 0 0 [some (.ref h), some (.ref a1), some (.int x2), some (.int (b2i x3)), none, none, none] [] 0 0 kd mi ml mr _
  refine wp_iconst (v := 0) (pc := 0) dX4_plan_0 (by decide) ?_
  refine wp_istore (pc := 1) dX4_plan_1 (Nat.le_of_ble_eq_true rfl) rfl ?_
  show wp l M_X4_plan (d + 1) 0 0 _ [some (.ref h), some (.ref a1), some (.int x2), some (.int (b2i x3)), some (.int 0), none, none] _ 0 0 kd _ _ mr _
  exact wp_less (L' := [some (.ref h), some (.ref a1), some (.int x2), some (.int (b2i x3)), some (.int 0), none, none]) ⟨rfl, ⟨rfl, ⟨rfl, ⟨rfl, ⟨rfl, trivial⟩⟩⟩⟩⟩ F
/-- indexOf(III)I -/
theorem w_X4_indexOf {l : Launch} {d : Nat} {kd : pm_K} {mr : pm_R}  {x0 : Int32} {x1 : Int32} {x2 : Int32} {mi : pm_I} {ml : pm_L} {K : Int32 → pm_I → pm_L → Prop} 
    (F : K ((((x0 * 57) + x1) * 5) + x2) mi ml) :
    wI l M_X4_indexOf d [.int x0, .int x1, .int x2] kd mr mi ml K := by
  show wp l M_X4_indexOf d 0 0 0 [some (.int x0), some (.int x1), some (.int x2)] [] 0 0 kd mi ml mr _
  refine wp_iload_n (pc := 0) dX4_indexOf_0 rfl ?_
  refine wp_bipush (v := 57) (pc := 1) dX4_indexOf_1 (by decide) ?_
  refine wp_imul (pc := 3) dX4_indexOf_3 ?_
  refine wp_iload_n (pc := 4) dX4_indexOf_4 rfl ?_
  refine wp_iadd (pc := 5) dX4_indexOf_5 ?_
  refine wp_iconst (v := 5) (pc := 6) dX4_indexOf_6 (by decide) ?_
  refine wp_imul (pc := 7) dX4_indexOf_7 ?_
  refine wp_iload_n (pc := 8) dX4_indexOf_8 rfl ?_
  refine wp_iadd (pc := 9) dX4_indexOf_9 ?_
  exact r_I (pc := 10) dX4_indexOf_10 rfl F
def c_X4_bestOf_37 (l : Launch) (d : Nat) (kd : pm_K) (mr : pm_R) (h : Nat) (a1 na1 : Nat) (x2 : Int32) (x3 : Int32) (x4 : Int32) (x5 : Int32) (x6 : Int32) (x7 : Int32) (mi : pm_I) (ml : pm_L) (K : Int32 → pm_I → pm_L → Prop) : Prop := wp l M_X4_bestOf d 0 0 37 [some (.ref h), some (.ref a1), some (.int x2), some (.int x3), some (.int x4), some (.int x5), some (.int x6), some (.int x7)] [] 0 0 kd mi ml mr (qI kd mr K)
def c_X4_bestOf_6 (l : Launch) (d : Nat) (kd : pm_K) (mr : pm_R) (h : Nat) (a1 na1 : Nat) (x2 : Int32) (x3 : Int32) (x4 : Int32) (x5 : Int32) (x6 : Int32) (x7 : Int32) (mi : pm_I) (ml : pm_L) (K : Int32 → pm_I → pm_L → Prop) : Prop := wp l M_X4_bestOf d 0 0 6 [some (.ref h), some (.ref a1), some (.int x2), some (.int x3), some (.int x4), some (.int x5), some (.int x6), some (.int x7)] [] 0 0 kd mi ml mr (qI kd mr K)
theorem w_X4_bestOf_6 {l : Launch} {d : Nat} {kd : pm_K} {mr : pm_R} {h : Nat} {a1 na1 : Nat} {x2 : Int32} {x3 : Int32} {x4 : Int32} {x5 : Int32} {x6 : Int32} {x7 : Int32} {mi : pm_I} {ml : pm_L} {K : Int32 → pm_I → pm_L → Prop} (th : TX4s kd mr h) (ka1 : kd[a1]? = some (1, na1))
    (F : ((4 ≤ x7 → K x6 mi ml) ∧ (¬ 4 ≤ x7 → ((x7 = x4 → c_X4_bestOf_37 l (d + 1) kd mr h a1 na1 x2 x3 x4 x5 x6 x7 mi ml K) ∧ (¬ x7 = x4 → wI l M_X4_brings d [.ref h, .ref a1, .int x2, .int x3, .int x7, .int x5] kd mr mi ml (fun r3 mi4 ml5 => c_X4_bestOf_37 l (d + 1) kd mr h a1 na1 x2 x3 x4 x5 (if x6 < r3 then r3 else x6) x7 mi4 ml5 K)))))) :
    c_X4_bestOf_6 l (d + 1) kd mr h a1 na1 x2 x3 x4 x5 x6 x7 mi ml K := by
  show wp l M_X4_bestOf (d + 1) 0 0 6 [some (.ref h), some (.ref a1), some (.int x2), some (.int x3), some (.int x4), some (.int x5), some (.int x6), some (.int x7)] [] 0 0 kd mi ml mr _
  refine wp_iload (pc := 6) dX4_bestOf_6 rfl ?_
  refine wp_iconst (v := 4) (pc := 8) dX4_bestOf_8 (by decide) ?_
  refine wp_icmp_ge (tgt := 43) (pc := 9) dX4_bestOf_9 (by decide) (fun c1 => ?_) (fun c1 => ?_)
  · have F := F.1 c1
    refine wp_iload (pc := 43) dX4_bestOf_43 rfl ?_
    exact r_I (pc := 45) dX4_bestOf_45 rfl F
  · have F := F.2 c1
    refine wp_iload (pc := 12) dX4_bestOf_12 rfl ?_
    refine wp_iload (pc := 14) dX4_bestOf_14 rfl ?_
    refine wp_icmp_eq (tgt := 37) (pc := 16) dX4_bestOf_16 (by decide) (fun c2 => ?_) (fun c2 => ?_)
    · have F := F.1 c2
      exact wp_less (L' := [some (.ref h), some (.ref a1), some (.int x2), some (.int x3), some (.int x4), some (.int x5), some (.int x6), some (.int x7)]) ⟨rfl, ⟨rfl, ⟨rfl, ⟨rfl, ⟨rfl, ⟨rfl, ⟨rfl, ⟨rfl, trivial⟩⟩⟩⟩⟩⟩⟩⟩ F
    · have F := F.2 c2
      refine wp_iload (pc := 19) dX4_bestOf_19 rfl ?_
      refine wp_aload_n (pc := 21) dX4_bestOf_21 rfl ?_
      refine wp_aload_n (pc := 22) dX4_bestOf_22 rfl ?_
      refine wp_iload_n (pc := 23) dX4_bestOf_23 rfl ?_
      refine wp_iload_n (pc := 24) dX4_bestOf_24 rfl ?_
      refine wp_iload (pc := 25) dX4_bestOf_25 rfl ?_
      refine wp_iload (pc := 27) dX4_bestOf_27 rfl ?_
      refine cvI [.ref a1, .int x2, .int x3, .int x7, .int x5] [.int x6] (pc := 29) dX4_bestOf_29 ml_X4_55 iv_X4_brings (TX4s_k th) (cl_X4 rfl) rfl rfl (Nat.le_of_ble_eq_true rfl) (Nat.le_of_ble_eq_true rfl) (wI.mono (fun r3 mi4 ml5 F => ?_) F)
      refine wp_max (pc := 32) dX4_bestOf_32 ⟨tb_2 151 rfl rfl, tb_2 152 rfl rfl, tb_1 14 rfl rfl, tb_2 153 rfl rfl⟩ (Nat.succ_pos d) (Nat.le_of_ble_eq_true rfl) ⟨Nat.le_refl 0, Nat.le_refl 0⟩ ?_
      refine wp_istore (pc := 35) dX4_bestOf_35 (Nat.le_of_ble_eq_true rfl) rfl ?_
      show wp l M_X4_bestOf (d + 1) 0 0 _ [some (.ref h), some (.ref a1), some (.int x2), some (.int x3), some (.int x4), some (.int x5), some (.int (if x6 < r3 then r3 else x6)), some (.int x7)] _ 0 0 kd _ _ mr _
      exact wp_less (L' := [some (.ref h), some (.ref a1), some (.int x2), some (.int x3), some (.int x4), some (.int x5), some (.int (if x6 < r3 then r3 else x6)), some (.int x7)]) ⟨rfl, ⟨rfl, ⟨rfl, ⟨rfl, ⟨rfl, ⟨rfl, ⟨rfl, ⟨rfl, trivial⟩⟩⟩⟩⟩⟩⟩⟩ F
theorem w_X4_bestOf_37 {l : Launch} {d : Nat} {kd : pm_K} {mr : pm_R} {h : Nat} {a1 na1 : Nat} {x2 : Int32} {x3 : Int32} {x4 : Int32} {x5 : Int32} {x6 : Int32} {x7 : Int32} {mi : pm_I} {ml : pm_L} {K : Int32 → pm_I → pm_L → Prop} (th : TX4s kd mr h) (ka1 : kd[a1]? = some (1, na1))
    (F : c_X4_bestOf_6 l (d + 1) kd mr h a1 na1 x2 x3 x4 x5 x6 (x7 + 1) mi ml K) :
    c_X4_bestOf_37 l (d + 1) kd mr h a1 na1 x2 x3 x4 x5 x6 x7 mi ml K := by
  show wp l M_X4_bestOf (d + 1) 0 0 37 [some (.ref h), some (.ref a1), some (.int x2), some (.int x3), some (.int x4), some (.int x5), some (.int x6), some (.int x7)] [] 0 0 kd mi ml mr _
  refine wp_iinc (v := (x7 + 1)) (pc := 37) dX4_bestOf_37 rfl rfl rfl ?_
  show wp l M_X4_bestOf (d + 1) 0 0 _ [some (.ref h), some (.ref a1), some (.int x2), some (.int x3), some (.int x4), some (.int x5), some (.int x6), some (.int (x7 + 1))] _ 0 0 kd _ _ mr _
  refine wp_goto (tgt := 6) (pc := 40) dX4_bestOf_40 (by decide) ?_
  exact wp_less (L' := [some (.ref h), some (.ref a1), some (.int x2), some (.int x3), some (.int x4), some (.int x5), some (.int x6), some (.int (x7 + 1))]) ⟨rfl, ⟨rfl, ⟨rfl, ⟨rfl, ⟨rfl, ⟨rfl, ⟨rfl, ⟨rfl, trivial⟩⟩⟩⟩⟩⟩⟩⟩ F
/-- bestOf([IIIIZ)I -/
theorem w_X4_bestOf {l : Launch} {d : Nat} {kd : pm_K} {mr : pm_R} {h : Nat} {a1 na1 : Nat} {x2 : Int32} {x3 : Int32} {x4 : Int32} {x5 : Bool} {mi : pm_I} {ml : pm_L} {K : Int32 → pm_I → pm_L → Prop} (th : TX4s kd mr h) (ka1 : kd[a1]? = some (1, na1))
    (F : c_X4_bestOf_6 l (d + 1) kd mr h a1 na1 x2 x3 x4 (b2i x5) 0 0 mi ml K) :
    wI l M_X4_bestOf (d + 1) [.ref h, .ref a1, .int x2, .int x3, .int x4, .int (b2i x5)] kd mr mi ml K := by
  show wp l M_X4_bestOf (d + 1) 0 0 0 [some (.ref h), some (.ref a1), some (.int x2), some (.int x3), some (.int x4), some (.int (b2i x5)), none, none] [] 0 0 kd mi ml mr _
  refine wp_iconst (v := 0) (pc := 0) dX4_bestOf_0 (by decide) ?_
  refine wp_istore (pc := 1) dX4_bestOf_1 (Nat.le_of_ble_eq_true rfl) rfl ?_
  show wp l M_X4_bestOf (d + 1) 0 0 _ [some (.ref h), some (.ref a1), some (.int x2), some (.int x3), some (.int x4), some (.int (b2i x5)), some (.int 0), none] _ 0 0 kd _ _ mr _
  refine wp_iconst (v := 0) (pc := 3) dX4_bestOf_3 (by decide) ?_
  refine wp_istore (pc := 4) dX4_bestOf_4 (Nat.le_of_ble_eq_true rfl) rfl ?_
  show wp l M_X4_bestOf (d + 1) 0 0 _ [some (.ref h), some (.ref a1), some (.int x2), some (.int x3), some (.int x4), some (.int (b2i x5)), some (.int 0), some (.int 0)] _ 0 0 kd _ _ mr _
  exact wp_less (L' := [some (.ref h), some (.ref a1), some (.int x2), some (.int x3), some (.int x4), some (.int (b2i x5)), some (.int 0), some (.int 0)]) ⟨rfl, ⟨rfl, ⟨rfl, ⟨rfl, ⟨rfl, ⟨rfl, ⟨rfl, ⟨rfl, trivial⟩⟩⟩⟩⟩⟩⟩⟩ F
/-- brings([IIIIZ)I -/
theorem w_X4_brings {l : Launch} {d : Nat} {kd : pm_K} {mr : pm_R} {h : Nat} {a1 na1 : Nat} {x2 : Int32} {x3 : Int32} {x4 : Int32} {x5 : Bool} {mi : pm_I} {ml : pm_L} {K : Int32 → pm_I → pm_L → Prop} (th : TX4s kd mr h) (ka1 : kd[a1]? = some (1, na1))
    (F : vp_in x4 na1 ∧ vp_in ((x3 * 4) + x4) 228 ∧ vp_in ((x3 * 4) + x4) 228 ∧ wI l M_X4_indexOf d [.int (x2 - 1), .int (mi (h + 2) (Int32.toNatClampNeg ((x3 * 4) + x4))), .int (if x5 = true then x4 else (4 : Int32))] kd mr mi ml (fun r4 mi5 ml6 => vp_in r4 3705 ∧ K ((if 0 < ((mi a1 (Int32.toNatClampNeg x4)) - (mi (h + 1) (Int32.toNatClampNeg ((x3 * 4) + x4)))) then ((mi a1 (Int32.toNatClampNeg x4)) - (mi (h + 1) (Int32.toNatClampNeg ((x3 * 4) + x4)))) else 0) + (mi5 (h + 3) (Int32.toNatClampNeg r4))) mi5 ml6)) :
    wI l M_X4_brings (d + 1) [.ref h, .ref a1, .int x2, .int x3, .int x4, .int (b2i x5)] kd mr mi ml K := by
  show wp l M_X4_brings (d + 1) 0 0 0 [some (.ref h), some (.ref a1), some (.int x2), some (.int x3), some (.int x4), some (.int (b2i x5)), none] [] 0 0 kd mi ml mr _
  refine wp_iconst (v := 0) (pc := 0) dX4_brings_0 (by decide) ?_
  refine wp_aload_n (pc := 1) dX4_brings_1 rfl ?_
  refine wp_iload (pc := 2) dX4_brings_2 rfl ?_
  refine wp_iald (pc := 4) dX4_brings_4 ka1 F.1 ?_
  have F := F.2
  refine wp_aload_n (pc := 5) dX4_brings_5 rfl ?_
  refine wp_getR (pc := 6) dX4_brings_6 fl_X4_11 rfl (TX4s_k th) (TX4s_r0 th) ?_
  refine wp_iload_n (pc := 9) dX4_brings_9 rfl ?_
  refine wp_iconst (v := 4) (pc := 10) dX4_brings_10 (by decide) ?_
  refine wp_imul (pc := 11) dX4_brings_11 ?_
  refine wp_iload (pc := 12) dX4_brings_12 rfl ?_
  refine wp_iadd (pc := 14) dX4_brings_14 ?_
  refine wp_iald (pc := 15) dX4_brings_15 (TX4s_a0 th) F.1 ?_
  have F := F.2
  refine wp_isub (pc := 16) dX4_brings_16 ?_
  refine wp_max (pc := 17) dX4_brings_17 ⟨tb_2 151 rfl rfl, tb_2 152 rfl rfl, tb_1 14 rfl rfl, tb_2 153 rfl rfl⟩ (Nat.succ_pos d) (Nat.le_of_ble_eq_true rfl) ⟨Nat.le_refl 0, Nat.le_refl 0⟩ ?_
  refine wp_istore (pc := 20) dX4_brings_20 (Nat.le_of_ble_eq_true rfl) rfl ?_
  show wp l M_X4_brings (d + 1) 0 0 _ [some (.ref h), some (.ref a1), some (.int x2), some (.int x3), some (.int x4), some (.int (b2i x5)), some (.int (if 0 < ((mi a1 (Int32.toNatClampNeg x4)) - (mi (h + 1) (Int32.toNatClampNeg ((x3 * 4) + x4)))) then ((mi a1 (Int32.toNatClampNeg x4)) - (mi (h + 1) (Int32.toNatClampNeg ((x3 * 4) + x4)))) else 0))] _ 0 0 kd _ _ mr _
  refine wp_iload (pc := 22) dX4_brings_22 rfl ?_
  refine wp_aload_n (pc := 24) dX4_brings_24 rfl ?_
  refine wp_getR (pc := 25) dX4_brings_25 fl_X4_18 rfl (TX4s_k th) (TX4s_r2 th) ?_
  refine wp_iload_n (pc := 28) dX4_brings_28 rfl ?_
  refine wp_iconst (v := 1) (pc := 29) dX4_brings_29 (by decide) ?_
  refine wp_isub (pc := 30) dX4_brings_30 ?_
  refine wp_aload_n (pc := 31) dX4_brings_31 rfl ?_
  refine wp_getR (pc := 32) dX4_brings_32 fl_X4_15 rfl (TX4s_k th) (TX4s_r1 th) ?_
  refine wp_iload_n (pc := 35) dX4_brings_35 rfl ?_
  refine wp_iconst (v := 4) (pc := 36) dX4_brings_36 (by decide) ?_
  refine wp_imul (pc := 37) dX4_brings_37 ?_
  refine wp_iload (pc := 38) dX4_brings_38 rfl ?_
  refine wp_iadd (pc := 40) dX4_brings_40 ?_
  refine wp_iald (pc := 41) dX4_brings_41 (TX4s_a1 th) F.1 ?_
  have F := F.2
  refine wp_iload (pc := 42) dX4_brings_42 rfl ?_
  suffices J1 : ∀ v2 : Int32, v2 = (if x5 = true then x4 else (4 : Int32)) → wp l M_X4_brings (d + 1) 0 0 53 [some (.ref h), some (.ref a1), some (.int x2), some (.int x3), some (.int x4), some (.int (b2i x5)), some (.int (if 0 < ((mi a1 (Int32.toNatClampNeg x4)) - (mi (h + 1) (Int32.toNatClampNeg ((x3 * 4) + x4)))) then ((mi a1 (Int32.toNatClampNeg x4)) - (mi (h + 1) (Int32.toNatClampNeg ((x3 * 4) + x4)))) else 0))] [.int v2, .int (mi (h + 2) (Int32.toNatClampNeg ((x3 * 4) + x4))), .int (x2 - 1), .ref (h + 3), .int (if 0 < ((mi a1 (Int32.toNatClampNeg x4)) - (mi (h + 1) (Int32.toNatClampNeg ((x3 * 4) + x4)))) then ((mi a1 (Int32.toNatClampNeg x4)) - (mi (h + 1) (Int32.toNatClampNeg ((x3 * 4) + x4)))) else 0)] 0 0 kd mi ml mr _ by
      refine b_eq (tgt := 52) (pc := 44) dX4_brings_44 (by decide) (fun c3 => ?_) (fun c3 => ?_)
      · refine wp_iconst (v := 4) (pc := 52) dX4_brings_52 (by decide) ?_
        exact J1 _ (by simp only [c3, if_true, if_false, decide_true, decide_false, Bool.not_true, Bool.not_false, Bool.true_and, Bool.false_and, Bool.true_or, Bool.false_or, b2i_t, b2i_f, ite_true, ite_false, not_true_eq_false, not_false_eq_true, reduceCtorEq, decide_eq_true_eq])
      · refine wp_iload (pc := 47) dX4_brings_47 rfl ?_
        refine wp_goto (tgt := 53) (pc := 49) dX4_brings_49 (by decide) ?_
        exact J1 _ (by simp only [c3, if_true, if_false, decide_true, decide_false, Bool.not_true, Bool.not_false, Bool.true_and, Bool.false_and, Bool.true_or, Bool.false_or, b2i_t, b2i_f, ite_true, ite_false, not_true_eq_false, not_false_eq_true, reduceCtorEq, decide_eq_true_eq])
  intro v2 ev2
  subst ev2
  refine csI [.int (x2 - 1), .int (mi (h + 2) (Int32.toNatClampNeg ((x3 * 4) + x4))), .int (if x5 = true then x4 else (4 : Int32))] [.ref (h + 3), .int (if 0 < ((mi a1 (Int32.toNatClampNeg x4)) - (mi (h + 1) (Int32.toNatClampNeg ((x3 * 4) + x4)))) then ((mi a1 (Int32.toNatClampNeg x4)) - (mi (h + 1) (Int32.toNatClampNeg ((x3 * 4) + x4)))) else 0)] (pc := 53) dX4_brings_53 ml_X4_47 st_X4_indexOf rfl rfl (Nat.le_of_ble_eq_true rfl) (Nat.le_of_ble_eq_true rfl) (wI.mono (fun r4 mi5 ml6 F => ?_) F)
  refine wp_iald (pc := 56) dX4_brings_56 (TX4s_a2 th) F.1 ?_
  have F := F.2
  refine wp_iadd (pc := 57) dX4_brings_57 ?_
  exact r_I (pc := 58) dX4_brings_58 rfl F
/-- mostOf(I)I -/
theorem w_X4_mostOf {l : Launch} {d : Nat} {kd : pm_K} {mr : pm_R} {h : Nat} {x1 : Int32} {mi : pm_I} {ml : pm_L} {K : Int32 → pm_I → pm_L → Prop} (th : TX4s kd mr h)
    (F : wI l M_X4_indexOf d [.int x1, .int 0, .int 4] kd mr mi ml (fun r1 mi2 ml3 => vp_in r1 3705 ∧ K (mi2 (h + 3) (Int32.toNatClampNeg r1)) mi2 ml3)) :
    wI l M_X4_mostOf (d + 1) [.ref h, .int x1] kd mr mi ml K := by
  show wp l M_X4_mostOf (d + 1) 0 0 0 [some (.ref h), some (.int x1)] [] 0 0 kd mi ml mr _
  refine wp_aload_n (pc := 0) dX4_mostOf_0 rfl ?_
  refine wp_getR (pc := 1) dX4_mostOf_1 fl_X4_18 rfl (TX4s_k th) (TX4s_r2 th) ?_
  refine wp_iload_n (pc := 4) dX4_mostOf_4 rfl ?_
  refine wp_iconst (v := 0) (pc := 5) dX4_mostOf_5 (by decide) ?_
  refine wp_iconst (v := 4) (pc := 6) dX4_mostOf_6 (by decide) ?_
  refine csI [.int x1, .int 0, .int 4] [.ref (h + 3)] (pc := 7) dX4_mostOf_7 ml_X4_47 st_X4_indexOf rfl rfl (Nat.le_of_ble_eq_true rfl) (Nat.le_of_ble_eq_true rfl) (wI.mono (fun r1 mi2 ml3 F => ?_) F)
  refine wp_iald (pc := 10) dX4_mostOf_10 (TX4s_a2 th) F.1 ?_
  have F := F.2
  exact r_I (pc := 11) dX4_mostOf_11 rfl F
def c_X4_commandAt_9 (l : Launch) (d : Nat) (kd : pm_K) (mr : pm_R) (h : Nat) (a1 na1 : Nat) (x2 : Int32) (x3 : Int32) (x4 : Int32) (x5 : Int32) (x6 : Int32) (mi : pm_I) (ml : pm_L) (K : Int32 → pm_I → pm_L → Prop) : Prop := wp l M_X4_commandAt d 0 0 9 [some (.ref h), some (.ref a1), some (.int x2), some (.int x3), some (.int x4), some (.int x5), some (.int x6), none] [] 0 0 kd mi ml mr (qI kd mr K)
theorem w_X4_commandAt_9 {l : Launch} {d : Nat} {kd : pm_K} {mr : pm_R} {h : Nat} {a1 na1 : Nat} {x2 : Int32} {x3 : Int32} {x4 : Int32} {x5 : Int32} {x6 : Int32} {mi : pm_I} {ml : pm_L} {K : Int32 → pm_I → pm_L → Prop} (th : TX4s kd mr h) (ka1 : kd[a1]? = some (1, na1))
    (F : ((x3 < x6 → K x5 mi ml) ∧ (¬ x3 < x6 → ((x2 ≤ x6 → K x5 mi ml) ∧ (¬ x2 ≤ x6 → wI l M_X4_firstBest d [.ref h, .ref a1, .int (x2 - x6), .int x4] kd mr mi ml (fun r3 mi4 ml5 => vp_in ((x4 * 4) + r3) 228 ∧ c_X4_commandAt_9 l (d + 1) kd mr h a1 na1 x2 x3 (mi4 (h + 2) (Int32.toNatClampNeg ((x4 * 4) + r3))) r3 (x6 + 1) mi4 ml5 K)))))) :
    c_X4_commandAt_9 l (d + 1) kd mr h a1 na1 x2 x3 x4 x5 x6 mi ml K := by
  show wp l M_X4_commandAt (d + 1) 0 0 9 [some (.ref h), some (.ref a1), some (.int x2), some (.int x3), some (.int x4), some (.int x5), some (.int x6), none] [] 0 0 kd mi ml mr _
  refine wp_iload (pc := 9) dX4_commandAt_9 rfl ?_
  refine wp_iload_n (pc := 11) dX4_commandAt_11 rfl ?_
  refine wp_icmp_gt (tgt := 58) (pc := 12) dX4_commandAt_12 (by decide) (fun c1 => ?_) (fun c1 => ?_)
  · have F := F.1 c1
    refine wp_iload (pc := 58) dX4_commandAt_58 rfl ?_
    exact r_I (pc := 60) dX4_commandAt_60 rfl F
  · have F := F.2 c1
    refine wp_iload (pc := 15) dX4_commandAt_15 rfl ?_
    refine wp_iload_n (pc := 17) dX4_commandAt_17 rfl ?_
    refine wp_icmp_ge (tgt := 58) (pc := 18) dX4_commandAt_18 (by decide) (fun c2 => ?_) (fun c2 => ?_)
    · have F := F.1 c2
      refine wp_iload (pc := 58) dX4_commandAt_58 rfl ?_
      exact r_I (pc := 60) dX4_commandAt_60 rfl F
    · have F := F.2 c2
      refine wp_iload_n (pc := 21) dX4_commandAt_21 rfl ?_
      refine wp_iload (pc := 22) dX4_commandAt_22 rfl ?_
      refine wp_isub (pc := 24) dX4_commandAt_24 ?_
      refine wp_istore (pc := 25) dX4_commandAt_25 (Nat.le_of_ble_eq_true rfl) rfl ?_
      show wp l M_X4_commandAt (d + 1) 0 0 _ [some (.ref h), some (.ref a1), some (.int x2), some (.int x3), some (.int x4), some (.int x5), some (.int x6), some (.int (x2 - x6))] _ 0 0 kd _ _ mr _
      refine wp_aload_n (pc := 27) dX4_commandAt_27 rfl ?_
      refine wp_aload_n (pc := 28) dX4_commandAt_28 rfl ?_
      refine wp_iload (pc := 29) dX4_commandAt_29 rfl ?_
      refine wp_iload (pc := 31) dX4_commandAt_31 rfl ?_
      refine cvI [.ref a1, .int (x2 - x6), .int x4] [] (pc := 33) dX4_commandAt_33 ml_X4_58 iv_X4_firstBest (TX4s_k th) (cl_X4 rfl) rfl rfl (Nat.le_of_ble_eq_true rfl) (Nat.le_of_ble_eq_true rfl) (wI.mono (fun r3 mi4 ml5 F => ?_) F)
      refine wp_istore (pc := 36) dX4_commandAt_36 (Nat.le_of_ble_eq_true rfl) rfl ?_
      show wp l M_X4_commandAt (d + 1) 0 0 _ [some (.ref h), some (.ref a1), some (.int x2), some (.int x3), some (.int x4), some (.int r3), some (.int x6), some (.int (x2 - x6))] _ 0 0 kd _ _ mr _
      refine wp_aload_n (pc := 38) dX4_commandAt_38 rfl ?_
      refine wp_getR (pc := 39) dX4_commandAt_39 fl_X4_15 rfl (TX4s_k th) (TX4s_r1 th) ?_
      refine wp_iload (pc := 42) dX4_commandAt_42 rfl ?_
      refine wp_iconst (v := 4) (pc := 44) dX4_commandAt_44 (by decide) ?_
      refine wp_imul (pc := 45) dX4_commandAt_45 ?_
      refine wp_iload (pc := 46) dX4_commandAt_46 rfl ?_
      refine wp_iadd (pc := 48) dX4_commandAt_48 ?_
      refine wp_iald (pc := 49) dX4_commandAt_49 (TX4s_a1 th) F.1 ?_
      have F := F.2
      refine wp_istore (pc := 50) dX4_commandAt_50 (Nat.le_of_ble_eq_true rfl) rfl ?_
      show wp l M_X4_commandAt (d + 1) 0 0 _ [some (.ref h), some (.ref a1), some (.int x2), some (.int x3), some (.int (mi4 (h + 2) (Int32.toNatClampNeg ((x4 * 4) + r3)))), some (.int r3), some (.int x6), some (.int (x2 - x6))] _ 0 0 kd _ _ mr _
      refine wp_iinc (v := (x6 + 1)) (pc := 52) dX4_commandAt_52 rfl rfl rfl ?_
      show wp l M_X4_commandAt (d + 1) 0 0 _ [some (.ref h), some (.ref a1), some (.int x2), some (.int x3), some (.int (mi4 (h + 2) (Int32.toNatClampNeg ((x4 * 4) + r3)))), some (.int r3), some (.int (x6 + 1)), some (.int (x2 - x6))] _ 0 0 kd _ _ mr _
      refine wp_goto (tgt := 9) (pc := 55) dX4_commandAt_55 (by decide) ?_
      exact wp_less (L' := [some (.ref h), some (.ref a1), some (.int x2), some (.int x3), some (.int (mi4 (h + 2) (Int32.toNatClampNeg ((x4 * 4) + r3)))), some (.int r3), some (.int (x6 + 1)), none]) ⟨rfl, ⟨rfl, ⟨rfl, ⟨rfl, ⟨rfl, ⟨rfl, ⟨rfl, trivial⟩⟩⟩⟩⟩⟩⟩ F
/-- commandAt([III)I -/
theorem w_X4_commandAt {l : Launch} {d : Nat} {kd : pm_K} {mr : pm_R} {h : Nat} {a1 na1 : Nat} {x2 : Int32} {x3 : Int32} {mi : pm_I} {ml : pm_L} {K : Int32 → pm_I → pm_L → Prop} (th : TX4s kd mr h) (ka1 : kd[a1]? = some (1, na1))
    (F : c_X4_commandAt_9 l (d + 1) kd mr h a1 na1 x2 x3 0 (-1) 0 mi ml K) :
    wI l M_X4_commandAt (d + 1) [.ref h, .ref a1, .int x2, .int x3] kd mr mi ml K := by
  show wp l M_X4_commandAt (d + 1) 0 0 0 [some (.ref h), some (.ref a1), some (.int x2), some (.int x3), none, none, none, none] [] 0 0 kd mi ml mr _
  refine wp_iconst (v := 0) (pc := 0) dX4_commandAt_0 (by decide) ?_
  refine wp_istore (pc := 1) dX4_commandAt_1 (Nat.le_of_ble_eq_true rfl) rfl ?_
  show wp l M_X4_commandAt (d + 1) 0 0 _ [some (.ref h), some (.ref a1), some (.int x2), some (.int x3), some (.int 0), none, none, none] _ 0 0 kd _ _ mr _
  refine wp_iconst (v := -1) (pc := 3) dX4_commandAt_3 (by decide) ?_
  refine wp_istore (pc := 4) dX4_commandAt_4 (Nat.le_of_ble_eq_true rfl) rfl ?_
  show wp l M_X4_commandAt (d + 1) 0 0 _ [some (.ref h), some (.ref a1), some (.int x2), some (.int x3), some (.int 0), some (.int (-1)), none, none] _ 0 0 kd _ _ mr _
  refine wp_iconst (v := 0) (pc := 6) dX4_commandAt_6 (by decide) ?_
  refine wp_istore (pc := 7) dX4_commandAt_7 (Nat.le_of_ble_eq_true rfl) rfl ?_
  show wp l M_X4_commandAt (d + 1) 0 0 _ [some (.ref h), some (.ref a1), some (.int x2), some (.int x3), some (.int 0), some (.int (-1)), some (.int 0), none] _ 0 0 kd _ _ mr _
  exact wp_less (L' := [some (.ref h), some (.ref a1), some (.int x2), some (.int x3), some (.int 0), some (.int (-1)), some (.int 0), none]) ⟨rfl, ⟨rfl, ⟨rfl, ⟨rfl, ⟨rfl, ⟨rfl, ⟨rfl, trivial⟩⟩⟩⟩⟩⟩⟩ F
def c_X4_firstBest_3 (l : Launch) (d : Nat) (kd : pm_K) (mr : pm_R) (h : Nat) (a1 na1 : Nat) (x2 : Int32) (x3 : Int32) (x4 : Int32) (mi : pm_I) (ml : pm_L) (K : Int32 → pm_I → pm_L → Prop) : Prop := wp l M_X4_firstBest d 0 0 3 [some (.ref h), some (.ref a1), some (.int x2), some (.int x3), some (.int x4)] [] 0 0 kd mi ml mr (qI kd mr K)
theorem w_X4_firstBest_3 {l : Launch} {d : Nat} {kd : pm_K} {mr : pm_R} {h : Nat} {a1 na1 : Nat} {x2 : Int32} {x3 : Int32} {x4 : Int32} {mi : pm_I} {ml : pm_L} {K : Int32 → pm_I → pm_L → Prop} (th : TX4s kd mr h) (ka1 : kd[a1]? = some (1, na1))
    (F : ((4 ≤ x4 → K 0 mi ml) ∧ (¬ 4 ≤ x4 → wI l M_X4_brings d [.ref h, .ref a1, .int x2, .int x3, .int x4, .int (b2i false)] kd mr mi ml (fun r2 mi3 ml4 => wI l M_X4_indexOf d [.int x2, .int x3, .int 4] kd mr mi3 ml4 (fun r5 mi6 ml7 => vp_in r5 3705 ∧ ((¬ r2 = (mi6 (h + 3) (Int32.toNatClampNeg r5)) → c_X4_firstBest_3 l (d + 1) kd mr h a1 na1 x2 x3 (x4 + 1) mi6 ml7 K) ∧ (r2 = (mi6 (h + 3) (Int32.toNatClampNeg r5)) → K x4 mi6 ml7))))))) :
    c_X4_firstBest_3 l (d + 1) kd mr h a1 na1 x2 x3 x4 mi ml K := by
  show wp l M_X4_firstBest (d + 1) 0 0 3 [some (.ref h), some (.ref a1), some (.int x2), some (.int x3), some (.int x4)] [] 0 0 kd mi ml mr _
  refine wp_iload (pc := 3) dX4_firstBest_3 rfl ?_
  refine wp_iconst (v := 4) (pc := 5) dX4_firstBest_5 (by decide) ?_
  refine wp_icmp_ge (tgt := 42) (pc := 6) dX4_firstBest_6 (by decide) (fun c1 => ?_) (fun c1 => ?_)
  · have F := F.1 c1
    refine wp_iconst (v := 0) (pc := 42) dX4_firstBest_42 (by decide) ?_
    exact r_I (pc := 43) dX4_firstBest_43 rfl F
  · have F := F.2 c1
    refine wp_aload_n (pc := 9) dX4_firstBest_9 rfl ?_
    refine wp_aload_n (pc := 10) dX4_firstBest_10 rfl ?_
    refine wp_iload_n (pc := 11) dX4_firstBest_11 rfl ?_
    refine wp_iload_n (pc := 12) dX4_firstBest_12 rfl ?_
    refine wp_iload (pc := 13) dX4_firstBest_13 rfl ?_
    refine wp_iconst (v := 0) (pc := 15) dX4_firstBest_15 (by decide) ?_
    refine cvI [.ref a1, .int x2, .int x3, .int x4, .int (b2i false)] [] (pc := 16) dX4_firstBest_16 ml_X4_55 iv_X4_brings (TX4s_k th) (cl_X4 rfl) rfl rfl (Nat.le_of_ble_eq_true rfl) (Nat.le_of_ble_eq_true rfl) (wI.mono (fun r2 mi3 ml4 F => ?_) F)
    refine wp_aload_n (pc := 19) dX4_firstBest_19 rfl ?_
    refine wp_getR (pc := 20) dX4_firstBest_20 fl_X4_18 rfl (TX4s_k th) (TX4s_r2 th) ?_
    refine wp_iload_n (pc := 23) dX4_firstBest_23 rfl ?_
    refine wp_iload_n (pc := 24) dX4_firstBest_24 rfl ?_
    refine wp_iconst (v := 4) (pc := 25) dX4_firstBest_25 (by decide) ?_
    refine csI [.int x2, .int x3, .int 4] [.ref (h + 3), .int r2] (pc := 26) dX4_firstBest_26 ml_X4_47 st_X4_indexOf rfl rfl (Nat.le_of_ble_eq_true rfl) (Nat.le_of_ble_eq_true rfl) (wI.mono (fun r5 mi6 ml7 F => ?_) F)
    refine wp_iald (pc := 29) dX4_firstBest_29 (TX4s_a2 th) F.1 ?_
    have F := F.2
    refine wp_icmp_ne (tgt := 36) (pc := 30) dX4_firstBest_30 (by decide) (fun c8 => ?_) (fun c8 => ?_)
    · have F := F.1 c8
      refine wp_iinc (v := (x4 + 1)) (pc := 36) dX4_firstBest_36 rfl rfl rfl ?_
      show wp l M_X4_firstBest (d + 1) 0 0 _ [some (.ref h), some (.ref a1), some (.int x2), some (.int x3), some (.int (x4 + 1))] _ 0 0 kd _ _ mr _
      refine wp_goto (tgt := 3) (pc := 39) dX4_firstBest_39 (by decide) ?_
      exact wp_less (L' := [some (.ref h), some (.ref a1), some (.int x2), some (.int x3), some (.int (x4 + 1))]) ⟨rfl, ⟨rfl, ⟨rfl, ⟨rfl, ⟨rfl, trivial⟩⟩⟩⟩⟩ F
    · have F := F.2 c8
      refine wp_iload (pc := 33) dX4_firstBest_33 rfl ?_
      exact r_I (pc := 35) dX4_firstBest_35 rfl F
/-- firstBest([III)I -/
theorem w_X4_firstBest {l : Launch} {d : Nat} {kd : pm_K} {mr : pm_R} {h : Nat} {a1 na1 : Nat} {x2 : Int32} {x3 : Int32} {mi : pm_I} {ml : pm_L} {K : Int32 → pm_I → pm_L → Prop} (th : TX4s kd mr h) (ka1 : kd[a1]? = some (1, na1))
    (F : c_X4_firstBest_3 l (d + 1) kd mr h a1 na1 x2 x3 0 mi ml K) :
    wI l M_X4_firstBest (d + 1) [.ref h, .ref a1, .int x2, .int x3] kd mr mi ml K := by
  show wp l M_X4_firstBest (d + 1) 0 0 0 [some (.ref h), some (.ref a1), some (.int x2), some (.int x3), none] [] 0 0 kd mi ml mr _
  refine wp_iconst (v := 0) (pc := 0) dX4_firstBest_0 (by decide) ?_
  refine wp_istore (pc := 1) dX4_firstBest_1 (Nat.le_of_ble_eq_true rfl) rfl ?_
  show wp l M_X4_firstBest (d + 1) 0 0 _ [some (.ref h), some (.ref a1), some (.int x2), some (.int x3), some (.int 0)] _ 0 0 kd _ _ mr _
  exact wp_less (L' := [some (.ref h), some (.ref a1), some (.int x2), some (.int x3), some (.int 0)]) ⟨rfl, ⟨rfl, ⟨rfl, ⟨rfl, ⟨rfl, trivial⟩⟩⟩⟩⟩ F
def c_X8_fewestSteps_28 (l : Launch) (d : Nat) (kd : pm_K) (mr : pm_R) (h : Nat) (x1 : Int64) (x4 : Int32) (x5 : Int64) (x7 : Int32) (mi : pm_I) (ml : pm_L) (K : Int32 → pm_I → pm_L → Prop) : Prop := wp l M_X8_fewestSteps d 0 0 28 [none, some (.long x1), none, none, some (.int x4), some (.long x5), none, some (.int x7)] [] 0 0 kd mi ml mr (qI kd mr K)
theorem w_X8_fewestSteps_28 {l : Launch} {d : Nat} {kd : pm_K} {mr : pm_R} {h : Nat} {x1 : Int64} {x4 : Int32} {x5 : Int64} {x7 : Int32} {mi : pm_I} {ml : pm_L} {K : Int32 → pm_I → pm_L → Prop} (th : TX8s kd mr h)
    (F : ((64 ≤ x7 → K (-1) mi ml) ∧ (¬ 64 ≤ x7 → wB l M_X11_has d [.long x5, .int x4] kd mr mi ml (fun r13 mi14 ml15 => ((r13 = false → wL l M_X11_grown d [.long x5, .long x1] kd mr mi14 ml15 (fun r17 mi18 ml19 => c_X8_fewestSteps_28 l (d + 1) kd mr h x1 x4 r17 (x7 + 1) mi18 ml19 K)) ∧ (r13 = true → K x7 mi14 ml15)))))) :
    c_X8_fewestSteps_28 l (d + 1) kd mr h x1 x4 x5 x7 mi ml K := by
  show wp l M_X8_fewestSteps (d + 1) 0 0 28 [none, some (.long x1), none, none, some (.int x4), some (.long x5), none, some (.int x7)] [] 0 0 kd mi ml mr _
  refine wp_iload (pc := 28) dX8_fewestSteps_28 rfl ?_
  refine wp_bipush (v := 64) (pc := 30) dX8_fewestSteps_30 (by decide) ?_
  refine wp_icmp_ge (tgt := 62) (pc := 32) dX8_fewestSteps_32 (by decide) (fun c12 => ?_) (fun c12 => ?_)
  · have F := F.1 c12
    refine wp_iconst (v := -1) (pc := 62) dX8_fewestSteps_62 (by decide) ?_
    exact r_I (pc := 63) dX8_fewestSteps_63 rfl F
  · have F := F.2 c12
    refine wp_lload (pc := 35) dX8_fewestSteps_35 rfl ?_
    refine wp_iload (pc := 37) dX8_fewestSteps_37 rfl ?_
    refine csB [.long x5, .int x4] [] (pc := 39) dX8_fewestSteps_39 ml_X8_31 st_X11_has rfl rfl (Nat.le_of_ble_eq_true rfl) (Nat.le_of_ble_eq_true rfl) (wB.mono (fun r13 mi14 ml15 F => ?_) F)
    refine b_eq (tgt := 48) (pc := 42) dX8_fewestSteps_42 (by decide) (fun c16 => ?_) (fun c16 => ?_)
    · have F := F.1 c16
      refine wp_lload (pc := 48) dX8_fewestSteps_48 rfl ?_
      refine wp_lload_n (pc := 50) dX8_fewestSteps_50 rfl ?_
      refine csL [.long x5, .long x1] [] (pc := 51) dX8_fewestSteps_51 ml_X8_39 st_X11_grown rfl rfl (Nat.le_of_ble_eq_true rfl) (Nat.le_of_ble_eq_true rfl) (wL.mono (fun r17 mi18 ml19 F => ?_) F)
      refine wp_lstore (pc := 54) dX8_fewestSteps_54 (Nat.le_of_ble_eq_true rfl) rfl ?_
      show wp l M_X8_fewestSteps (d + 1) 0 0 _ [none, some (.long x1), none, none, some (.int x4), some (.long r17), none, some (.int x7)] _ 0 0 kd _ _ mr _
      refine wp_iinc (v := (x7 + 1)) (pc := 56) dX8_fewestSteps_56 rfl rfl rfl ?_
      show wp l M_X8_fewestSteps (d + 1) 0 0 _ [none, some (.long x1), none, none, some (.int x4), some (.long r17), none, some (.int (x7 + 1))] _ 0 0 kd _ _ mr _
      refine wp_goto (tgt := 28) (pc := 59) dX8_fewestSteps_59 (by decide) ?_
      exact wp_less (L' := [none, some (.long x1), none, none, some (.int x4), some (.long r17), none, some (.int (x7 + 1))]) ⟨rfl, ⟨rfl, ⟨rfl, ⟨rfl, trivial⟩⟩⟩⟩ F
    · have F := F.2 c16
      refine wp_iload (pc := 45) dX8_fewestSteps_45 rfl ?_
      exact r_I (pc := 47) dX8_fewestSteps_47 rfl F
/-- fewestSteps(JII)I -/
theorem w_X8_fewestSteps {l : Launch} {d : Nat} {kd : pm_K} {mr : pm_R} {h : Nat} {x1 : Int64} {x3 : Int32} {x4 : Int32} {mi : pm_I} {ml : pm_L} {K : Int32 → pm_I → pm_L → Prop} (th : TX8s kd mr h)
    (F : wB l M_X11_has d [.long x1, .int x3] kd mr mi ml (fun r1 mi2 ml3 => ((r1 = false → K (-1) mi2 ml3) ∧ (r1 = true → wB l M_X11_has d [.long x1, .int x4] kd mr mi2 ml3 (fun r5 mi6 ml7 => ((r5 = true → wL l M_X11_only d [.int x3] kd mr mi6 ml7 (fun r9 mi10 ml11 => c_X8_fewestSteps_28 l (d + 1) kd mr h x1 x4 r9 0 mi10 ml11 K)) ∧ (r5 = false → K (-1) mi6 ml7))))))) :
    wI l M_X8_fewestSteps (d + 1) [.ref h, .long x1, .int x3, .int x4] kd mr mi ml K := by
  show wp l M_X8_fewestSteps (d + 1) 0 0 0 [some (.ref h), some (.long x1), none, some (.int x3), some (.int x4), none, none, none] [] 0 0 kd mi ml mr _
  refine wp_lload_n (pc := 0) dX8_fewestSteps_0 rfl ?_
  refine wp_iload_n (pc := 1) dX8_fewestSteps_1 rfl ?_
  refine csB [.long x1, .int x3] [] (pc := 2) dX8_fewestSteps_2 ml_X8_31 st_X11_has rfl rfl (Nat.le_of_ble_eq_true rfl) (Nat.le_of_ble_eq_true rfl) (wB.mono (fun r1 mi2 ml3 F => ?_) F)
  refine b_eq (tgt := 17) (pc := 5) dX8_fewestSteps_5 (by decide) (fun c4 => ?_) (fun c4 => ?_)
  · have F := F.1 c4
    refine wp_iconst (v := -1) (pc := 17) dX8_fewestSteps_17 (by decide) ?_
    exact r_I (pc := 18) dX8_fewestSteps_18 rfl F
  · have F := F.2 c4
    refine wp_lload_n (pc := 8) dX8_fewestSteps_8 rfl ?_
    refine wp_iload (pc := 9) dX8_fewestSteps_9 rfl ?_
    refine csB [.long x1, .int x4] [] (pc := 11) dX8_fewestSteps_11 ml_X8_31 st_X11_has rfl rfl (Nat.le_of_ble_eq_true rfl) (Nat.le_of_ble_eq_true rfl) (wB.mono (fun r5 mi6 ml7 F => ?_) F)
    refine b_ne (tgt := 19) (pc := 14) dX8_fewestSteps_14 (by decide) (fun c8 => ?_) (fun c8 => ?_)
    · have F := F.1 c8
      refine wp_iload_n (pc := 19) dX8_fewestSteps_19 rfl ?_
      refine csL [.int x3] [] (pc := 20) dX8_fewestSteps_20 ml_X8_35 st_X11_only rfl rfl (Nat.le_of_ble_eq_true rfl) (Nat.le_of_ble_eq_true rfl) (wL.mono (fun r9 mi10 ml11 F => ?_) F)
      refine wp_lstore (pc := 23) dX8_fewestSteps_23 (Nat.le_of_ble_eq_true rfl) rfl ?_
      show wp l M_X8_fewestSteps (d + 1) 0 0 _ [some (.ref h), some (.long x1), none, some (.int x3), some (.int x4), some (.long r9), none, none] _ 0 0 kd _ _ mr _
      refine wp_iconst (v := 0) (pc := 25) dX8_fewestSteps_25 (by decide) ?_
      refine wp_istore (pc := 26) dX8_fewestSteps_26 (Nat.le_of_ble_eq_true rfl) rfl ?_
      show wp l M_X8_fewestSteps (d + 1) 0 0 _ [some (.ref h), some (.long x1), none, some (.int x3), some (.int x4), some (.long r9), none, some (.int 0)] _ 0 0 kd _ _ mr _
      exact wp_less (L' := [none, some (.long x1), none, none, some (.int x4), some (.long r9), none, some (.int 0)]) ⟨rfl, ⟨rfl, ⟨rfl, ⟨rfl, trivial⟩⟩⟩⟩ F
    · have F := F.2 c8
      refine wp_iconst (v := -1) (pc := 17) dX8_fewestSteps_17 (by decide) ?_
      exact r_I (pc := 18) dX8_fewestSteps_18 rfl F
def c_X8_parts_69 (l : Launch) (d : Nat) (kd : pm_K) (mr : pm_R) (h : Nat) (x3 : Int32) (x4 : Int32) (x5 : Int32) (mi : pm_I) (ml : pm_L) (K : Int32 → pm_I → pm_L → Prop) : Prop := wp l M_X8_parts d 0 0 69 [none, none, none, some (.int x3), some (.int x4), some (.int x5), none, none, none, none, none] [] 0 0 kd mi ml mr (qI kd mr K)
def c_X8_parts_12 (l : Launch) (d : Nat) (kd : pm_K) (mr : pm_R) (h : Nat) (x1 : Int64) (x3 : Int32) (x4 : Int32) (x5 : Int32) (x6 : Int64) (x8 : Int32) (mi : pm_I) (ml : pm_L) (K : Int32 → pm_I → pm_L → Prop) : Prop := wp l M_X8_parts d 0 0 12 [none, some (.long x1), none, some (.int x3), some (.int x4), some (.int x5), some (.long x6), none, some (.int x8), none, none] [] 0 0 kd mi ml mr (qI kd mr K)
theorem w_X8_parts_12 {l : Launch} {d : Nat} {kd : pm_K} {mr : pm_R} {h : Nat} {x1 : Int64} {x3 : Int32} {x4 : Int32} {x5 : Int32} {x6 : Int64} {x8 : Int32} {mi : pm_I} {ml : pm_L} {K : Int32 → pm_I → pm_L → Prop} (th : TX8s kd mr h)
    (F : ((64 ≤ x8 → c_X8_parts_69 l (d + 1) kd mr h x3 x4 x5 mi ml K) ∧ (¬ 64 ≤ x8 → (((lg_cmp x6 0) = 0 → c_X8_parts_69 l (d + 1) kd mr h x3 x4 x5 mi ml K) ∧ (¬ (lg_cmp x6 0) = 0 → wI l M_X11_leastOf d [.long x6] kd mr mi ml (fun r3 mi4 ml5 => wL l M_X8_allReached d [.long x1, .int r3] kd mr mi4 ml5 (fun r6 mi7 ml8 => wI l M_J13_bitCount_95d88 d [.long r6] kd mr mi7 ml8 (fun r9 mi10 ml11 => c_X8_parts_12 l (d + 1) kd mr h x1 x3 (x4 + 1) (if x5 < r9 then r9 else x5) (x6 &&& (r6 ^^^ (-1))) (x8 + 1) mi10 ml11 K)))))))) :
    c_X8_parts_12 l (d + 1) kd mr h x1 x3 x4 x5 x6 x8 mi ml K := by
  show wp l M_X8_parts (d + 1) 0 0 12 [none, some (.long x1), none, some (.int x3), some (.int x4), some (.int x5), some (.long x6), none, some (.int x8), none, none] [] 0 0 kd mi ml mr _
  refine wp_iload (pc := 12) dX8_parts_12 rfl ?_
  refine wp_bipush (v := 64) (pc := 14) dX8_parts_14 (by decide) ?_
  refine wp_icmp_ge (tgt := 69) (pc := 16) dX8_parts_16 (by decide) (fun c1 => ?_) (fun c1 => ?_)
  · have F := F.1 c1
    exact wp_less (L' := [none, none, none, some (.int x3), some (.int x4), some (.int x5), none, none, none, none, none]) ⟨rfl, ⟨rfl, ⟨rfl, trivial⟩⟩⟩ F
  · have F := F.2 c1
    refine wp_lload (pc := 19) dX8_parts_19 rfl ?_
    refine wp_lconst (v := 0) (pc := 21) dX8_parts_21 (by decide) ?_
    refine wp_lcmp (pc := 22) dX8_parts_22 ?_
    refine wp_if_eq (tgt := 69) (pc := 23) dX8_parts_23 (by decide) (fun c2 => ?_) (fun c2 => ?_)
    · have F := F.1 c2
      exact wp_less (L' := [none, none, none, some (.int x3), some (.int x4), some (.int x5), none, none, none, none, none]) ⟨rfl, ⟨rfl, ⟨rfl, trivial⟩⟩⟩ F
    · have F := F.2 c2
      refine wp_lload_n (pc := 26) dX8_parts_26 rfl ?_
      refine wp_lload (pc := 27) dX8_parts_27 rfl ?_
      refine csI [.long x6] [.long x1] (pc := 29) dX8_parts_29 ml_X8_43 st_X11_leastOf rfl rfl (Nat.le_of_ble_eq_true rfl) (Nat.le_of_ble_eq_true rfl) (wI.mono (fun r3 mi4 ml5 F => ?_) F)
      refine csL [.long x1, .int r3] [] (pc := 32) dX8_parts_32 ml_X8_47 st_X8_allReached rfl rfl (Nat.le_of_ble_eq_true rfl) (Nat.le_of_ble_eq_true rfl) (wL.mono (fun r6 mi7 ml8 F => ?_) F)
      refine wp_lstore (pc := 35) dX8_parts_35 (Nat.le_of_ble_eq_true rfl) rfl ?_
      show wp l M_X8_parts (d + 1) 0 0 _ [none, some (.long x1), none, some (.int x3), some (.int x4), some (.int x5), some (.long x6), none, some (.int x8), some (.long r6), none] _ 0 0 kd _ _ mr _
      refine wp_lload (pc := 37) dX8_parts_37 rfl ?_
      refine wp_lload (pc := 39) dX8_parts_39 rfl ?_
      refine wp_ldc2 (v := -1) (pc := 41) dX8_parts_41 (tb_5 159 rfl rfl) ?_
      refine wp_lxor (pc := 44) dX8_parts_44 ?_
      refine wp_land (pc := 45) dX8_parts_45 ?_
      refine wp_lstore (pc := 46) dX8_parts_46 (Nat.le_of_ble_eq_true rfl) rfl ?_
      show wp l M_X8_parts (d + 1) 0 0 _ [none, some (.long x1), none, some (.int x3), some (.int x4), some (.int x5), some (.long (x6 &&& (r6 ^^^ (-1)))), none, some (.int x8), some (.long r6), none] _ 0 0 kd _ _ mr _
      refine wp_iinc (v := (x4 + 1)) (pc := 48) dX8_parts_48 rfl rfl rfl ?_
      show wp l M_X8_parts (d + 1) 0 0 _ [none, some (.long x1), none, some (.int x3), some (.int (x4 + 1)), some (.int x5), some (.long (x6 &&& (r6 ^^^ (-1)))), none, some (.int x8), some (.long r6), none] _ 0 0 kd _ _ mr _
      refine wp_iload (pc := 51) dX8_parts_51 rfl ?_
      refine wp_lload (pc := 53) dX8_parts_53 rfl ?_
      refine csI [.long r6] [.int x5] (pc := 55) dX8_parts_55 ml_X8_53 st_J13_bitCount_95d88 rfl rfl (Nat.le_of_ble_eq_true rfl) (Nat.le_of_ble_eq_true rfl) (wI.mono (fun r9 mi10 ml11 F => ?_) F)
      refine wp_max (pc := 58) dX8_parts_58 ⟨tb_5 161 rfl rfl, tb_2 152 rfl rfl, tb_1 14 rfl rfl, tb_2 153 rfl rfl⟩ (Nat.succ_pos d) (Nat.le_of_ble_eq_true rfl) ⟨Nat.le_refl 0, Nat.le_refl 0⟩ ?_
      refine wp_istore (pc := 61) dX8_parts_61 (Nat.le_of_ble_eq_true rfl) rfl ?_
      show wp l M_X8_parts (d + 1) 0 0 _ [none, some (.long x1), none, some (.int x3), some (.int (x4 + 1)), some (.int (if x5 < r9 then r9 else x5)), some (.long (x6 &&& (r6 ^^^ (-1)))), none, some (.int x8), some (.long r6), none] _ 0 0 kd _ _ mr _
      refine wp_iinc (v := (x8 + 1)) (pc := 63) dX8_parts_63 rfl rfl rfl ?_
      show wp l M_X8_parts (d + 1) 0 0 _ [none, some (.long x1), none, some (.int x3), some (.int (x4 + 1)), some (.int (if x5 < r9 then r9 else x5)), some (.long (x6 &&& (r6 ^^^ (-1)))), none, some (.int (x8 + 1)), some (.long r6), none] _ 0 0 kd _ _ mr _
      refine wp_goto (tgt := 12) (pc := 66) dX8_parts_66 (by decide) ?_
      exact wp_less (L' := [none, some (.long x1), none, some (.int x3), some (.int (x4 + 1)), some (.int (if x5 < r9 then r9 else x5)), some (.long (x6 &&& (r6 ^^^ (-1)))), none, some (.int (x8 + 1)), none, none]) ⟨rfl, ⟨rfl, ⟨rfl, ⟨rfl, ⟨rfl, ⟨rfl, trivial⟩⟩⟩⟩⟩⟩ F
theorem w_X8_parts_69 {l : Launch} {d : Nat} {kd : pm_K} {mr : pm_R} {h : Nat} {x3 : Int32} {x4 : Int32} {x5 : Int32} {mi : pm_I} {ml : pm_L} {K : Int32 → pm_I → pm_L → Prop} (th : TX8s kd mr h)
    (F : K (if x3 = 0 then x4 else x5) mi ml) :
    c_X8_parts_69 l (d + 1) kd mr h x3 x4 x5 mi ml K := by
  show wp l M_X8_parts (d + 1) 0 0 69 [none, none, none, some (.int x3), some (.int x4), some (.int x5), none, none, none, none, none] [] 0 0 kd mi ml mr _
  refine wp_iload_n (pc := 69) dX8_parts_69 rfl ?_
  suffices J12 : ∀ v13 : Int32, v13 = (if x3 = 0 then x4 else x5) → wp l M_X8_parts (d + 1) 0 0 80 [none, none, none, some (.int x3), some (.int x4), some (.int x5), none, none, none, none, none] [.int v13] 0 0 kd mi ml mr _ by
      refine wp_if_eq (tgt := 78) (pc := 70) dX8_parts_70 (by decide) (fun c14 => ?_) (fun c14 => ?_)
      · refine wp_iload (pc := 78) dX8_parts_78 rfl ?_
        exact J12 _ (by simp only [eq_true c14, if_true, if_false, decide_true, decide_false, Bool.not_true, Bool.not_false, Bool.true_and, Bool.false_and, Bool.true_or, Bool.false_or, b2i_t, b2i_f, ite_true, ite_false, not_true_eq_false, not_false_eq_true, reduceCtorEq, decide_eq_true_eq])
      · refine wp_iload (pc := 73) dX8_parts_73 rfl ?_
        refine wp_goto (tgt := 80) (pc := 75) dX8_parts_75 (by decide) ?_
        exact J12 _ (by simp only [c14, if_true, if_false, decide_true, decide_false, Bool.not_true, Bool.not_false, Bool.true_and, Bool.false_and, Bool.true_or, Bool.false_or, b2i_t, b2i_f, ite_true, ite_false, not_true_eq_false, not_false_eq_true, reduceCtorEq, decide_eq_true_eq])
  intro v13 ev13
  subst ev13
  exact r_I (pc := 80) dX8_parts_80 rfl F
/-- parts(JZ)I -/
theorem w_X8_parts {l : Launch} {d : Nat} {kd : pm_K} {mr : pm_R} {h : Nat} {x1 : Int64} {x3 : Bool} {mi : pm_I} {ml : pm_L} {K : Int32 → pm_I → pm_L → Prop} (th : TX8s kd mr h)
    (F : c_X8_parts_12 l (d + 1) kd mr h x1 (b2i x3) 0 0 x1 0 mi ml K) :
    wI l M_X8_parts (d + 1) [.ref h, .long x1, .int (b2i x3)] kd mr mi ml K := by
  show wp l M_X8_parts (d + 1) 0 0 0 [some (.ref h), some (.long x1), none, some (.int (b2i x3)), none, none, none, none, none, none, none] [] 0 0 kd mi ml mr _
  refine wp_iconst (v := 0) (pc := 0) dX8_parts_0 (by decide) ?_
  refine wp_istore (pc := 1) dX8_parts_1 (Nat.le_of_ble_eq_true rfl) rfl ?_
  show wp l M_X8_parts (d + 1) 0 0 _ [some (.ref h), some (.long x1), none, some (.int (b2i x3)), some (.int 0), none, none, none, none, none, none] _ 0 0 kd _ _ mr _
  refine wp_iconst (v := 0) (pc := 3) dX8_parts_3 (by decide) ?_
  refine wp_istore (pc := 4) dX8_parts_4 (Nat.le_of_ble_eq_true rfl) rfl ?_
  show wp l M_X8_parts (d + 1) 0 0 _ [some (.ref h), some (.long x1), none, some (.int (b2i x3)), some (.int 0), some (.int 0), none, none, none, none, none] _ 0 0 kd _ _ mr _
  refine wp_lload_n (pc := 6) dX8_parts_6 rfl ?_
  refine wp_lstore (pc := 7) dX8_parts_7 (Nat.le_of_ble_eq_true rfl) rfl ?_
  show wp l M_X8_parts (d + 1) 0 0 _ [some (.ref h), some (.long x1), none, some (.int (b2i x3)), some (.int 0), some (.int 0), some (.long x1), none, none, none, none] _ 0 0 kd _ _ mr _
  refine wp_iconst (v := 0) (pc := 9) dX8_parts_9 (by decide) ?_
  refine wp_istore (pc := 10) dX8_parts_10 (Nat.le_of_ble_eq_true rfl) rfl ?_
  show wp l M_X8_parts (d + 1) 0 0 _ [some (.ref h), some (.long x1), none, some (.int (b2i x3)), some (.int 0), some (.int 0), some (.long x1), none, some (.int 0), none, none] _ 0 0 kd _ _ mr _
  exact wp_less (L' := [none, some (.long x1), none, some (.int (b2i x3)), some (.int 0), some (.int 0), some (.long x1), none, some (.int 0), none, none]) ⟨rfl, ⟨rfl, ⟨rfl, ⟨rfl, ⟨rfl, ⟨rfl, trivial⟩⟩⟩⟩⟩⟩ F
def c_X8_allReached_8 (l : Launch) (d : Nat) (kd : pm_K) (mr : pm_R)  (x0 : Int64) (x3 : Int64) (x5 : Int32) (mi : pm_I) (ml : pm_L) (K : Int64 → pm_I → pm_L → Prop) : Prop := wp l M_X8_allReached d 0 0 8 [some (.long x0), none, none, some (.long x3), none, some (.int x5), none, none] [] 0 0 kd mi ml mr (qL kd mr K)
theorem w_X8_allReached_8 {l : Launch} {d : Nat} {kd : pm_K} {mr : pm_R}  {x0 : Int64} {x3 : Int64} {x5 : Int32} {mi : pm_I} {ml : pm_L} {K : Int64 → pm_I → pm_L → Prop} 
    (F : ((64 ≤ x5 → K x3 mi ml) ∧ (¬ 64 ≤ x5 → wL l M_X11_grown d [.long x3, .long x0] kd mr mi ml (fun r5 mi6 ml7 => ((¬ (lg_cmp r5 x3) = 0 → c_X8_allReached_8 l (d + 1) kd mr  x0 r5 (x5 + 1) mi6 ml7 K) ∧ ((lg_cmp r5 x3) = 0 → K x3 mi6 ml7)))))) :
    c_X8_allReached_8 l (d + 1) kd mr x0 x3 x5 mi ml K := by
  show wp l M_X8_allReached (d + 1) 0 0 8 [some (.long x0), none, none, some (.long x3), none, some (.int x5), none, none] [] 0 0 kd mi ml mr _
  refine wp_iload (pc := 8) dX8_allReached_8 rfl ?_
  refine wp_bipush (v := 64) (pc := 10) dX8_allReached_10 (by decide) ?_
  refine wp_icmp_ge (tgt := 40) (pc := 12) dX8_allReached_12 (by decide) (fun c4 => ?_) (fun c4 => ?_)
  · have F := F.1 c4
    refine wp_lload_n (pc := 40) dX8_allReached_40 rfl ?_
    exact r_L (pc := 41) dX8_allReached_41 rfl F
  · have F := F.2 c4
    refine wp_lload_n (pc := 15) dX8_allReached_15 rfl ?_
    refine wp_lload_n (pc := 16) dX8_allReached_16 rfl ?_
    refine csL [.long x3, .long x0] [] (pc := 17) dX8_allReached_17 ml_X8_39 st_X11_grown rfl rfl (Nat.le_of_ble_eq_true rfl) (Nat.le_of_ble_eq_true rfl) (wL.mono (fun r5 mi6 ml7 F => ?_) F)
    refine wp_lstore (pc := 20) dX8_allReached_20 (Nat.le_of_ble_eq_true rfl) rfl ?_
    show wp l M_X8_allReached (d + 1) 0 0 _ [some (.long x0), none, none, some (.long x3), none, some (.int x5), some (.long r5), none] _ 0 0 kd _ _ mr _
    refine wp_lload (pc := 22) dX8_allReached_22 rfl ?_
    refine wp_lload_n (pc := 24) dX8_allReached_24 rfl ?_
    refine wp_lcmp (pc := 25) dX8_allReached_25 ?_
    refine wp_if_ne (tgt := 31) (pc := 26) dX8_allReached_26 (by decide) (fun c8 => ?_) (fun c8 => ?_)
    · have F := F.1 c8
      refine wp_lload (pc := 31) dX8_allReached_31 rfl ?_
      refine wp_lstore_n (pc := 33) dX8_allReached_33 (Nat.le_of_ble_eq_true rfl) rfl ?_
      show wp l M_X8_allReached (d + 1) 0 0 _ [some (.long x0), none, none, some (.long r5), none, some (.int x5), some (.long r5), none] _ 0 0 kd _ _ mr _
      refine wp_iinc (v := (x5 + 1)) (pc := 34) dX8_allReached_34 rfl rfl rfl ?_
      show wp l M_X8_allReached (d + 1) 0 0 _ [some (.long x0), none, none, some (.long r5), none, some (.int (x5 + 1)), some (.long r5), none] _ 0 0 kd _ _ mr _
      refine wp_goto (tgt := 8) (pc := 37) dX8_allReached_37 (by decide) ?_
      exact wp_less (L' := [some (.long x0), none, none, some (.long r5), none, some (.int (x5 + 1)), none, none]) ⟨rfl, ⟨rfl, ⟨rfl, trivial⟩⟩⟩ F
    · have F := F.2 c8
      refine wp_lload_n (pc := 29) dX8_allReached_29 rfl ?_
      exact r_L (pc := 30) dX8_allReached_30 rfl F
/-- allReached(JI)J -/
theorem w_X8_allReached {l : Launch} {d : Nat} {kd : pm_K} {mr : pm_R}  {x0 : Int64} {x2 : Int32} {mi : pm_I} {ml : pm_L} {K : Int64 → pm_I → pm_L → Prop} 
    (F : wL l M_X11_only d [.int x2] kd mr mi ml (fun r1 mi2 ml3 => c_X8_allReached_8 l (d + 1) kd mr  x0 r1 0 mi2 ml3 K)) :
    wL l M_X8_allReached (d + 1) [.long x0, .int x2] kd mr mi ml K := by
  show wp l M_X8_allReached (d + 1) 0 0 0 [some (.long x0), none, some (.int x2), none, none, none, none, none] [] 0 0 kd mi ml mr _
  refine wp_iload_n (pc := 0) dX8_allReached_0 rfl ?_
  refine csL [.int x2] [] (pc := 1) dX8_allReached_1 ml_X8_35 st_X11_only rfl rfl (Nat.le_of_ble_eq_true rfl) (Nat.le_of_ble_eq_true rfl) (wL.mono (fun r1 mi2 ml3 F => ?_) F)
  refine wp_lstore_n (pc := 4) dX8_allReached_4 (Nat.le_of_ble_eq_true rfl) rfl ?_
  show wp l M_X8_allReached (d + 1) 0 0 _ [some (.long x0), none, some (.int x2), some (.long r1), none, none, none, none] _ 0 0 kd _ _ mr _
  refine wp_iconst (v := 0) (pc := 5) dX8_allReached_5 (by decide) ?_
  refine wp_istore (pc := 6) dX8_allReached_6 (Nat.le_of_ble_eq_true rfl) rfl ?_
  show wp l M_X8_allReached (d + 1) 0 0 _ [some (.long x0), none, some (.int x2), some (.long r1), none, some (.int 0), none, none] _ 0 0 kd _ _ mr _
  exact wp_less (L' := [some (.long x0), none, none, some (.long r1), none, some (.int 0), none, none]) ⟨rfl, ⟨rfl, ⟨rfl, trivial⟩⟩⟩ F
def c_X8_fewestWalls_51 (l : Launch) (d : Nat) (kd : pm_K) (mr : pm_R) (h : Nat) (x1 : Int64) (x3 : Int32) (x4 : Int32) (x5 : Int32) (mi : pm_I) (ml : pm_L) (K : Int32 → pm_I → pm_L → Prop) : Prop := wp l M_X8_fewestWalls d 0 0 51 [some (.ref h), some (.long x1), none, some (.int x3), some (.int x4), some (.int x5)] [] 0 0 kd mi ml mr (qI kd mr K)
theorem w_X8_fewestWalls_51 {l : Launch} {d : Nat} {kd : pm_K} {mr : pm_R} {h : Nat} {x1 : Int64} {x3 : Int32} {x4 : Int32} {x5 : Int32} {mi : pm_I} {ml : pm_L} {K : Int32 → pm_I → pm_L → Prop} (th : TX8s kd mr h)
    (F : ((4 ≤ x5 → K 4 mi ml) ∧ (¬ 4 ≤ x5 → wB l M_X8_findWay d [.ref h, .long x1, .int x3, .int x4] kd mr mi ml (fun r23 mi24 ml25 => ((r23 = true → wV l M_X8_layWay d [.ref h, .int x3, .int x4] kd mr mi24 ml25 (fun mi28 ml29 => c_X8_fewestWalls_51 l (d + 1) kd mr h x1 x3 x4 (x5 + 1) mi28 ml29 K)) ∧ (r23 = false → K x5 mi24 ml25)))))) :
    c_X8_fewestWalls_51 l (d + 1) kd mr h x1 x3 x4 x5 mi ml K := by
  show wp l M_X8_fewestWalls (d + 1) 0 0 51 [some (.ref h), some (.long x1), none, some (.int x3), some (.int x4), some (.int x5)] [] 0 0 kd mi ml mr _
  refine wp_iload (pc := 51) dX8_fewestWalls_51 rfl ?_
  refine wp_iconst (v := 4) (pc := 53) dX8_fewestWalls_53 (by decide) ?_
  refine wp_icmp_ge (tgt := 84) (pc := 54) dX8_fewestWalls_54 (by decide) (fun c22 => ?_) (fun c22 => ?_)
  · have F := F.1 c22
    refine wp_iconst (v := 4) (pc := 84) dX8_fewestWalls_84 (by decide) ?_
    exact r_I (pc := 85) dX8_fewestWalls_85 rfl F
  · have F := F.2 c22
    refine wp_aload_n (pc := 57) dX8_fewestWalls_57 rfl ?_
    refine wp_lload_n (pc := 58) dX8_fewestWalls_58 rfl ?_
    refine wp_iload_n (pc := 59) dX8_fewestWalls_59 rfl ?_
    refine wp_iload (pc := 60) dX8_fewestWalls_60 rfl ?_
    refine cvB [.long x1, .int x3, .int x4] [] (pc := 62) dX8_fewestWalls_62 ml_X8_74 iv_X8_findWay (TX8s_k th) (cl_X8 rfl) rfl rfl (Nat.le_of_ble_eq_true rfl) (Nat.le_of_ble_eq_true rfl) (wB.mono (fun r23 mi24 ml25 F => ?_) F)
    refine b_ne (tgt := 71) (pc := 65) dX8_fewestWalls_65 (by decide) (fun c26 => ?_) (fun c26 => ?_)
    · have F := F.1 c26
      refine wp_aload_n (pc := 71) dX8_fewestWalls_71 rfl ?_
      refine wp_iload_n (pc := 72) dX8_fewestWalls_72 rfl ?_
      refine wp_iload (pc := 73) dX8_fewestWalls_73 rfl ?_
      refine cvV [.int x3, .int x4] [] (pc := 75) dX8_fewestWalls_75 ml_X8_78 iv_X8_layWay (TX8s_k th) (cl_X8 rfl) rfl rfl (Nat.le_of_ble_eq_true rfl) (Nat.le_of_ble_eq_true rfl) (wV.mono (fun mi28 ml29 F => ?_) F)
      refine wp_iinc (v := (x5 + 1)) (pc := 78) dX8_fewestWalls_78 rfl rfl rfl ?_
      show wp l M_X8_fewestWalls (d + 1) 0 0 _ [some (.ref h), some (.long x1), none, some (.int x3), some (.int x4), some (.int (x5 + 1))] _ 0 0 kd _ _ mr _
      refine wp_goto (tgt := 51) (pc := 81) dX8_fewestWalls_81 (by decide) ?_
      exact wp_less (L' := [some (.ref h), some (.long x1), none, some (.int x3), some (.int x4), some (.int (x5 + 1))]) ⟨rfl, ⟨rfl, ⟨rfl, ⟨rfl, ⟨rfl, trivial⟩⟩⟩⟩⟩ F
    · have F := F.2 c26
      refine wp_iload (pc := 68) dX8_fewestWalls_68 rfl ?_
      exact r_I (pc := 70) dX8_fewestWalls_70 rfl F
/-- fewestWalls(JII)I -/
theorem w_X8_fewestWalls {l : Launch} {d : Nat} {kd : pm_K} {mr : pm_R} {h : Nat} {x1 : Int64} {x3 : Int32} {x4 : Int32} {mi : pm_I} {ml : pm_L} {K : Int32 → pm_I → pm_L → Prop} (th : TX8s kd mr h)
    (F : wB l M_X11_has d [.long x1, .int x3] kd mr mi ml (fun r1 mi2 ml3 => ((r1 = false → K (-1) mi2 ml3) ∧ (r1 = true → wB l M_X11_has d [.long x1, .int x4] kd mr mi2 ml3 (fun r5 mi6 ml7 => ((r5 = false → K (-1) mi6 ml7) ∧ (r5 = true → wL l M_X11_only d [.int x3] kd mr mi6 ml7 (fun r9 mi10 ml11 => wL l M_X11_grown d [.long r9, .long x1] kd mr mi10 ml11 (fun r12 mi13 ml14 => wB l M_X11_has d [.long r12, .int x4] kd mr mi13 ml14 (fun r15 mi16 ml17 => ((r15 = false → wV l M_J7_fill_d0a16 d [.ref (h + 3), .long 0] kd mr mi16 ml17 (fun mi20 ml21 => c_X8_fewestWalls_51 l (d + 1) kd mr h x1 x3 x4 0 mi20 (pm_up ml21 h 3 0) K)) ∧ (r15 = true → K (-1) mi16 ml17)))))))))))) :
    wI l M_X8_fewestWalls (d + 1) [.ref h, .long x1, .int x3, .int x4] kd mr mi ml K := by
  show wp l M_X8_fewestWalls (d + 1) 0 0 0 [some (.ref h), some (.long x1), none, some (.int x3), some (.int x4), none] [] 0 0 kd mi ml mr _
  refine wp_lload_n (pc := 0) dX8_fewestWalls_0 rfl ?_
  refine wp_iload_n (pc := 1) dX8_fewestWalls_1 rfl ?_
  refine csB [.long x1, .int x3] [] (pc := 2) dX8_fewestWalls_2 ml_X8_31 st_X11_has rfl rfl (Nat.le_of_ble_eq_true rfl) (Nat.le_of_ble_eq_true rfl) (wB.mono (fun r1 mi2 ml3 F => ?_) F)
  refine b_eq (tgt := 33) (pc := 5) dX8_fewestWalls_5 (by decide) (fun c4 => ?_) (fun c4 => ?_)
  · have F := F.1 c4
    refine wp_iconst (v := -1) (pc := 33) dX8_fewestWalls_33 (by decide) ?_
    exact r_I (pc := 34) dX8_fewestWalls_34 rfl F
  · have F := F.2 c4
    refine wp_lload_n (pc := 8) dX8_fewestWalls_8 rfl ?_
    refine wp_iload (pc := 9) dX8_fewestWalls_9 rfl ?_
    refine csB [.long x1, .int x4] [] (pc := 11) dX8_fewestWalls_11 ml_X8_31 st_X11_has rfl rfl (Nat.le_of_ble_eq_true rfl) (Nat.le_of_ble_eq_true rfl) (wB.mono (fun r5 mi6 ml7 F => ?_) F)
    refine b_eq (tgt := 33) (pc := 14) dX8_fewestWalls_14 (by decide) (fun c8 => ?_) (fun c8 => ?_)
    · have F := F.1 c8
      refine wp_iconst (v := -1) (pc := 33) dX8_fewestWalls_33 (by decide) ?_
      exact r_I (pc := 34) dX8_fewestWalls_34 rfl F
    · have F := F.2 c8
      refine wp_iload_n (pc := 17) dX8_fewestWalls_17 rfl ?_
      refine csL [.int x3] [] (pc := 18) dX8_fewestWalls_18 ml_X8_35 st_X11_only rfl rfl (Nat.le_of_ble_eq_true rfl) (Nat.le_of_ble_eq_true rfl) (wL.mono (fun r9 mi10 ml11 F => ?_) F)
      refine wp_lload_n (pc := 21) dX8_fewestWalls_21 rfl ?_
      refine csL [.long r9, .long x1] [] (pc := 22) dX8_fewestWalls_22 ml_X8_39 st_X11_grown rfl rfl (Nat.le_of_ble_eq_true rfl) (Nat.le_of_ble_eq_true rfl) (wL.mono (fun r12 mi13 ml14 F => ?_) F)
      refine wp_iload (pc := 25) dX8_fewestWalls_25 rfl ?_
      refine csB [.long r12, .int x4] [] (pc := 27) dX8_fewestWalls_27 ml_X8_31 st_X11_has rfl rfl (Nat.le_of_ble_eq_true rfl) (Nat.le_of_ble_eq_true rfl) (wB.mono (fun r15 mi16 ml17 F => ?_) F)
      refine b_eq (tgt := 35) (pc := 30) dX8_fewestWalls_30 (by decide) (fun c18 => ?_) (fun c18 => ?_)
      · have F := F.1 c18
        refine wp_aload_n (pc := 35) dX8_fewestWalls_35 rfl ?_
        refine wp_getR (pc := 36) dX8_fewestWalls_36 fl_X8_18 rfl (TX8s_k th) (TX8s_r2 th) ?_
        refine wp_lconst (v := 0) (pc := 39) dX8_fewestWalls_39 (by decide) ?_
        refine csV [.ref (h + 3), .long 0] [] (pc := 40) dX8_fewestWalls_40 ml_X8_64 st_J7_fill_d0a16 rfl rfl (Nat.le_of_ble_eq_true rfl) (Nat.le_of_ble_eq_true rfl) (wV.mono (fun mi20 ml21 F => ?_) F)
        refine wp_aload_n (pc := 43) dX8_fewestWalls_43 rfl ?_
        refine wp_lconst (v := 0) (pc := 44) dX8_fewestWalls_44 (by decide) ?_
        refine wp_putL (pc := 45) dX8_fewestWalls_45 fl_X8_70 rfl rfl (TX8s_k th) ?_
        refine wp_iconst (v := 0) (pc := 48) dX8_fewestWalls_48 (by decide) ?_
        refine wp_istore (pc := 49) dX8_fewestWalls_49 (Nat.le_of_ble_eq_true rfl) rfl ?_
        show wp l M_X8_fewestWalls (d + 1) 0 0 _ [some (.ref h), some (.long x1), none, some (.int x3), some (.int x4), some (.int 0)] _ 0 0 kd _ _ mr _
        exact wp_less (L' := [some (.ref h), some (.long x1), none, some (.int x3), some (.int x4), some (.int 0)]) ⟨rfl, ⟨rfl, ⟨rfl, ⟨rfl, ⟨rfl, trivial⟩⟩⟩⟩⟩ F
      · have F := F.2 c18
        refine wp_iconst (v := -1) (pc := 33) dX8_fewestWalls_33 (by decide) ?_
        exact r_I (pc := 34) dX8_fewestWalls_34 rfl F
def c_X8_findWay_232 (l : Launch) (d : Nat) (kd : pm_K) (mr : pm_R) (h : Nat) (x1 : Int64) (x3 : Int32) (x4 : Int32) (x5 : Int32) (mi : pm_I) (ml : pm_L) (K : Bool → pm_I → pm_L → Prop) : Prop := wp l M_X8_findWay d 0 0 232 [some (.ref h), some (.long x1), none, some (.int x3), some (.int x4), some (.int x5), none, none, none, none, none] [] 0 0 kd mi ml mr (qB kd mr K)
def c_X8_findWay_185 (l : Launch) (d : Nat) (kd : pm_K) (mr : pm_R) (h : Nat) (x1 : Int64) (x3 : Int32) (x4 : Int32) (x5 : Int32) (x6 : Int32) (x7 : Int32) (x8 : Int32) (x9 : Int32) (mi : pm_I) (ml : pm_L) (K : Bool → pm_I → pm_L → Prop) : Prop := wp l M_X8_findWay d 0 0 185 [some (.ref h), some (.long x1), none, some (.int x3), some (.int x4), some (.int x5), some (.int x6), some (.int x7), some (.int x8), some (.int x9), none] [] 0 0 kd mi ml mr (qB kd mr K)
def c_X8_findWay_151 (l : Launch) (d : Nat) (kd : pm_K) (mr : pm_R) (h : Nat) (x1 : Int64) (x3 : Int32) (x4 : Int32) (x5 : Int32) (x6 : Int32) (x7 : Int32) (x8 : Int32) (x9 : Int32) (x10 : Int32) (mi : pm_I) (ml : pm_L) (K : Bool → pm_I → pm_L → Prop) : Prop := wp l M_X8_findWay d 0 0 151 [some (.ref h), some (.long x1), none, some (.int x3), some (.int x4), some (.int x5), some (.int x6), some (.int x7), some (.int x8), some (.int x9), some (.int x10)] [] 0 0 kd mi ml mr (qB kd mr K)
def c_X8_findWay_89 (l : Launch) (d : Nat) (kd : pm_K) (mr : pm_R) (h : Nat) (x1 : Int64) (x3 : Int32) (x4 : Int32) (x5 : Int32) (x6 : Int32) (x7 : Int32) (x8 : Int32) (x9 : Int32) (mi : pm_I) (ml : pm_L) (K : Bool → pm_I → pm_L → Prop) : Prop := wp l M_X8_findWay d 0 0 89 [some (.ref h), some (.long x1), none, some (.int x3), some (.int x4), some (.int x5), some (.int x6), some (.int x7), some (.int x8), some (.int x9), none] [] 0 0 kd mi ml mr (qB kd mr K)
def c_X8_findWay_28 (l : Launch) (d : Nat) (kd : pm_K) (mr : pm_R) (h : Nat) (x1 : Int64) (x3 : Int32) (x4 : Int32) (x5 : Int32) (mi : pm_I) (ml : pm_L) (K : Bool → pm_I → pm_L → Prop) : Prop := wp l M_X8_findWay d 0 0 28 [some (.ref h), some (.long x1), none, some (.int x3), some (.int x4), some (.int x5), none, none, none, none, none] [] 0 0 kd mi ml mr (qB kd mr K)
theorem w_X8_findWay_28 {l : Launch} {d : Nat} {kd : pm_K} {mr : pm_R} {h : Nat} {x1 : Int64} {x3 : Int32} {x4 : Int32} {x5 : Int32} {mi : pm_I} {ml : pm_L} {K : Bool → pm_I → pm_L → Prop} (th : TX8s kd mr h)
    (F : (((mi h 4) ≤ x5 → K false mi ml) ∧ (¬ (mi h 4) ≤ x5 → ((128 ≤ x5 → K false mi ml) ∧ (¬ 128 ≤ x5 → vp_in x5 128 ∧ ((¬ (mi (h + 1) (Int32.toNatClampNeg x5)) = x4 → c_X8_findWay_89 l (d + 1) kd mr h x1 x3 x4 x5 (mi (h + 1) (Int32.toNatClampNeg x5)) (b2i (!decide ((mi (h + 1) (Int32.toNatClampNeg x5)) < 64))) ((mi (h + 1) (Int32.toNatClampNeg x5)) - (mi (h + 1) (Int32.toNatClampNeg x5)) / 64 * 64) 0 mi ml K) ∧ ((mi (h + 1) (Int32.toNatClampNeg x5)) = x4 → K true mi ml))))))) :
    c_X8_findWay_28 l (d + 1) kd mr h x1 x3 x4 x5 mi ml K := by
  show wp l M_X8_findWay (d + 1) 0 0 28 [some (.ref h), some (.long x1), none, some (.int x3), some (.int x4), some (.int x5), none, none, none, none, none] [] 0 0 kd mi ml mr _
  refine wp_iload (pc := 28) dX8_findWay_28 rfl ?_
  refine wp_aload_n (pc := 30) dX8_findWay_30 rfl ?_
  refine wp_getI (pc := 31) dX8_findWay_31 fl_X8_85 rfl (TX8s_k th) ?_
  refine wp_icmp_ge (tgt := 238) (pc := 34) dX8_findWay_34 (by decide) (fun c7 => ?_) (fun c7 => ?_)
  · have F := F.1 c7
    refine wp_iconst (v := 0) (pc := 238) dX8_findWay_238 (by decide) ?_
    exact r_Bx (pc := 239) dX8_findWay_239 rfl rfl F
  · have F := F.2 c7
    refine wp_iload (pc := 37) dX8_findWay_37 rfl ?_
    refine wp_aload_n (pc := 39) dX8_findWay_39 rfl ?_
    refine wp_getR (pc := 40) dX8_findWay_40 fl_X8_9 rfl (TX8s_k th) (TX8s_r0 th) ?_
    refine wp_alen (v := 128) (pc := 43) dX8_findWay_43 (by decide) (TX8s_a0 th) rfl ?_
    refine wp_icmp_ge (tgt := 238) (pc := 44) dX8_findWay_44 (by decide) (fun c8 => ?_) (fun c8 => ?_)
    · have F := F.1 c8
      refine wp_iconst (v := 0) (pc := 238) dX8_findWay_238 (by decide) ?_
      exact r_Bx (pc := 239) dX8_findWay_239 rfl rfl F
    · have F := F.2 c8
      refine wp_aload_n (pc := 47) dX8_findWay_47 rfl ?_
      refine wp_getR (pc := 48) dX8_findWay_48 fl_X8_9 rfl (TX8s_k th) (TX8s_r0 th) ?_
      refine wp_iload (pc := 51) dX8_findWay_51 rfl ?_
      refine wp_iald (pc := 53) dX8_findWay_53 (TX8s_a0 th) F.1 ?_
      have F := F.2
      refine wp_istore (pc := 54) dX8_findWay_54 (Nat.le_of_ble_eq_true rfl) rfl ?_
      show wp l M_X8_findWay (d + 1) 0 0 _ [some (.ref h), some (.long x1), none, some (.int x3), some (.int x4), some (.int x5), some (.int (mi (h + 1) (Int32.toNatClampNeg x5))), none, none, none, none] _ 0 0 kd _ _ mr _
      refine wp_iload (pc := 56) dX8_findWay_56 rfl ?_
      refine wp_iload (pc := 58) dX8_findWay_58 rfl ?_
      refine wp_icmp_ne (tgt := 65) (pc := 60) dX8_findWay_60 (by decide) (fun c9 => ?_) (fun c9 => ?_)
      · have F := F.1 c9
        refine wp_iload (pc := 65) dX8_findWay_65 rfl ?_
        refine wp_bipush (v := 64) (pc := 67) dX8_findWay_67 (by decide) ?_
        suffices J10 : ∀ v11 : Int32, v11 = (b2i (!decide ((mi (h + 1) (Int32.toNatClampNeg x5)) < 64))) → wp l M_X8_findWay (d + 1) 0 0 77 [some (.ref h), some (.long x1), none, some (.int x3), some (.int x4), some (.int x5), some (.int (mi (h + 1) (Int32.toNatClampNeg x5))), none, none, none, none] [.int v11] 0 0 kd mi ml mr _ by
            refine wp_icmp_lt (tgt := 76) (pc := 69) dX8_findWay_69 (by decide) (fun c12 => ?_) (fun c12 => ?_)
            · refine wp_iconst (v := 0) (pc := 76) dX8_findWay_76 (by decide) ?_
              exact J10 _ (by simp only [eq_true c12, if_true, if_false, decide_true, decide_false, Bool.not_true, Bool.not_false, Bool.true_and, Bool.false_and, Bool.true_or, Bool.false_or, b2i_t, b2i_f, ite_true, ite_false, not_true_eq_false, not_false_eq_true, reduceCtorEq, decide_eq_true_eq])
            · refine wp_iconst (v := 1) (pc := 72) dX8_findWay_72 (by decide) ?_
              refine wp_goto (tgt := 77) (pc := 73) dX8_findWay_73 (by decide) ?_
              exact J10 _ (by simp only [c12, if_true, if_false, decide_true, decide_false, Bool.not_true, Bool.not_false, Bool.true_and, Bool.false_and, Bool.true_or, Bool.false_or, b2i_t, b2i_f, ite_true, ite_false, not_true_eq_false, not_false_eq_true, reduceCtorEq, decide_eq_true_eq])
        intro v11 ev11
        subst ev11
        refine wp_istore (pc := 77) dX8_findWay_77 (Nat.le_of_ble_eq_true rfl) rfl ?_
        show wp l M_X8_findWay (d + 1) 0 0 _ [some (.ref h), some (.long x1), none, some (.int x3), some (.int x4), some (.int x5), some (.int (mi (h + 1) (Int32.toNatClampNeg x5))), some (.int (b2i (!decide ((mi (h + 1) (Int32.toNatClampNeg x5)) < 64)))), none, none, none] _ 0 0 kd _ _ mr _
        refine wp_iload (pc := 79) dX8_findWay_79 rfl ?_
        refine wp_bipush (v := 64) (pc := 81) dX8_findWay_81 (by decide) ?_
        refine wp_irem (pc := 83) dX8_findWay_83 (by decide) ?_
        refine wp_istore (pc := 84) dX8_findWay_84 (Nat.le_of_ble_eq_true rfl) rfl ?_
        show wp l M_X8_findWay (d + 1) 0 0 _ [some (.ref h), some (.long x1), none, some (.int x3), some (.int x4), some (.int x5), some (.int (mi (h + 1) (Int32.toNatClampNeg x5))), some (.int (b2i (!decide ((mi (h + 1) (Int32.toNatClampNeg x5)) < 64)))), some (.int ((mi (h + 1) (Int32.toNatClampNeg x5)) - (mi (h + 1) (Int32.toNatClampNeg x5)) / 64 * 64)), none, none] _ 0 0 kd _ _ mr _
        refine wp_iconst (v := 0) (pc := 86) dX8_findWay_86 (by decide) ?_
        refine wp_istore (pc := 87) dX8_findWay_87 (Nat.le_of_ble_eq_true rfl) rfl ?_
        show wp l M_X8_findWay (d + 1) 0 0 _ [some (.ref h), some (.long x1), none, some (.int x3), some (.int x4), some (.int x5), some (.int (mi (h + 1) (Int32.toNatClampNeg x5))), some (.int (b2i (!decide ((mi (h + 1) (Int32.toNatClampNeg x5)) < 64)))), some (.int ((mi (h + 1) (Int32.toNatClampNeg x5)) - (mi (h + 1) (Int32.toNatClampNeg x5)) / 64 * 64)), some (.int 0), none] _ 0 0 kd _ _ mr _
        exact wp_less (L' := [some (.ref h), some (.long x1), none, some (.int x3), some (.int x4), some (.int x5), some (.int (mi (h + 1) (Int32.toNatClampNeg x5))), some (.int (b2i (!decide ((mi (h + 1) (Int32.toNatClampNeg x5)) < 64)))), some (.int ((mi (h + 1) (Int32.toNatClampNeg x5)) - (mi (h + 1) (Int32.toNatClampNeg x5)) / 64 * 64)), some (.int 0), none]) ⟨rfl, ⟨rfl, ⟨rfl, ⟨rfl, ⟨rfl, ⟨rfl, ⟨rfl, ⟨rfl, ⟨rfl, trivial⟩⟩⟩⟩⟩⟩⟩⟩⟩ F
      · have F := F.2 c9
        refine wp_iconst (v := 1) (pc := 63) dX8_findWay_63 (by decide) ?_
        exact r_Bx (pc := 64) dX8_findWay_64 rfl rfl F
theorem w_X8_findWay_89 {l : Launch} {d : Nat} {kd : pm_K} {mr : pm_R} {h : Nat} {x1 : Int64} {x3 : Int32} {x4 : Int32} {x5 : Int32} {x6 : Int32} {x7 : Int32} {x8 : Int32} {x9 : Int32} {mi : pm_I} {ml : pm_L} {K : Bool → pm_I → pm_L → Prop} (th : TX8s kd mr h)
    (F : ((4 ≤ x9 → ((x8 = x3 → c_X8_findWay_232 l (d + 1) kd mr h x1 x3 x4 x5 mi ml K) ∧ (¬ x8 = x3 → wB l M_X11_has d [.long (ml h 3), .int x8] kd mr mi ml (fun r15 mi16 ml17 => ((¬ x7 = (b2i r15) → c_X8_findWay_232 l (d + 1) kd mr h x1 x3 x4 x5 mi16 ml17 K) ∧ (x7 = (b2i r15) → wV l M_X8_comeTo d [.ref h, .int (if x7 = 0 then (64 + x8) else x8), .int x6] kd mr mi16 ml17 (fun mi23 ml24 => c_X8_findWay_232 l (d + 1) kd mr h x1 x3 x4 x5 mi23 ml24 K))))))) ∧ (¬ 4 ≤ x9 → wI l M_X11_nextSpot d [.int x8, .int x9, .long x1] kd mr mi ml (fun r25 mi26 ml27 => ((r25 = (-1) → c_X8_findWay_185 l (d + 1) kd mr h x1 x3 x4 x5 x6 x7 x8 x9 mi26 ml27 K) ∧ (¬ r25 = (-1) → ((¬ r25 = x3 → ((x7 = 0 → c_X8_findWay_151 l (d + 1) kd mr h x1 x3 x4 x5 x6 x7 x8 x9 r25 mi26 ml27 K) ∧ (¬ x7 = 0 → vp_in x9 4 ∧ wB l M_X11_has d [.long (ml27 (h + 3) (Int32.toNatClampNeg x9)), .int x8] kd mr mi26 ml27 (fun r31 mi32 ml33 => ((r31 = true → c_X8_findWay_151 l (d + 1) kd mr h x1 x3 x4 x5 x6 x7 x8 x9 r25 mi32 ml33 K) ∧ (r31 = false → wV l M_X8_comeTo d [.ref h, .int r25, .int x6] kd mr mi32 ml33 (fun mi36 ml37 => c_X8_findWay_185 l (d + 1) kd mr h x1 x3 x4 x5 x6 x7 x8 x9 mi36 ml37 K))))))) ∧ (r25 = x3 → c_X8_findWay_185 l (d + 1) kd mr h x1 x3 x4 x5 x6 x7 x8 x9 mi26 ml27 K)))))))) :
    c_X8_findWay_89 l (d + 1) kd mr h x1 x3 x4 x5 x6 x7 x8 x9 mi ml K := by
  show wp l M_X8_findWay (d + 1) 0 0 89 [some (.ref h), some (.long x1), none, some (.int x3), some (.int x4), some (.int x5), some (.int x6), some (.int x7), some (.int x8), some (.int x9), none] [] 0 0 kd mi ml mr _
  refine wp_iload (pc := 89) dX8_findWay_89 rfl ?_
  refine wp_iconst (v := 4) (pc := 91) dX8_findWay_91 (by decide) ?_
  refine wp_icmp_ge (tgt := 191) (pc := 92) dX8_findWay_92 (by decide) (fun c13 => ?_) (fun c13 => ?_)
  · have F := F.1 c13
    refine wp_iload (pc := 191) dX8_findWay_191 rfl ?_
    refine wp_iload_n (pc := 193) dX8_findWay_193 rfl ?_
    refine wp_icmp_eq (tgt := 232) (pc := 194) dX8_findWay_194 (by decide) (fun c14 => ?_) (fun c14 => ?_)
    · have F := F.1 c14
      exact wp_less (L' := [some (.ref h), some (.long x1), none, some (.int x3), some (.int x4), some (.int x5), none, none, none, none, none]) ⟨rfl, ⟨rfl, ⟨rfl, ⟨rfl, ⟨rfl, trivial⟩⟩⟩⟩⟩ F
    · have F := F.2 c14
      refine wp_iload (pc := 197) dX8_findWay_197 rfl ?_
      refine wp_aload_n (pc := 199) dX8_findWay_199 rfl ?_
      refine wp_getL (pc := 200) dX8_findWay_200 fl_X8_70 rfl (TX8s_k th) ?_
      refine wp_iload (pc := 203) dX8_findWay_203 rfl ?_
      refine csB [.long (ml h 3), .int x8] [.int x7] (pc := 205) dX8_findWay_205 ml_X8_31 st_X11_has rfl rfl (Nat.le_of_ble_eq_true rfl) (Nat.le_of_ble_eq_true rfl) (wB.mono (fun r15 mi16 ml17 F => ?_) F)
      refine wp_icmp_ne (tgt := 232) (pc := 208) dX8_findWay_208 (by decide) (fun c18 => ?_) (fun c18 => ?_)
      · have F := F.1 c18
        exact wp_less (L' := [some (.ref h), some (.long x1), none, some (.int x3), some (.int x4), some (.int x5), none, none, none, none, none]) ⟨rfl, ⟨rfl, ⟨rfl, ⟨rfl, ⟨rfl, trivial⟩⟩⟩⟩⟩ F
      · have F := F.2 c18
        refine wp_aload_n (pc := 211) dX8_findWay_211 rfl ?_
        refine wp_iload (pc := 212) dX8_findWay_212 rfl ?_
        suffices J19 : ∀ v20 : Int32, v20 = (if x7 = 0 then (64 + x8) else x8) → wp l M_X8_findWay (d + 1) 0 0 227 [some (.ref h), some (.long x1), none, some (.int x3), some (.int x4), some (.int x5), some (.int x6), some (.int x7), some (.int x8), some (.int x9), none] [.int v20, .ref h] 0 0 kd mi16 ml17 mr _ by
            refine wp_if_eq (tgt := 222) (pc := 214) dX8_findWay_214 (by decide) (fun c21 => ?_) (fun c21 => ?_)
            · refine wp_bipush (v := 64) (pc := 222) dX8_findWay_222 (by decide) ?_
              refine wp_iload (pc := 224) dX8_findWay_224 rfl ?_
              refine wp_iadd (pc := 226) dX8_findWay_226 ?_
              exact J19 _ (by simp only [eq_true c21, if_true, if_false, decide_true, decide_false, Bool.not_true, Bool.not_false, Bool.true_and, Bool.false_and, Bool.true_or, Bool.false_or, b2i_t, b2i_f, ite_true, ite_false, not_true_eq_false, not_false_eq_true, reduceCtorEq, decide_eq_true_eq])
            · refine wp_iload (pc := 217) dX8_findWay_217 rfl ?_
              refine wp_goto (tgt := 227) (pc := 219) dX8_findWay_219 (by decide) ?_
              exact J19 _ (by simp only [c21, if_true, if_false, decide_true, decide_false, Bool.not_true, Bool.not_false, Bool.true_and, Bool.false_and, Bool.true_or, Bool.false_or, b2i_t, b2i_f, ite_true, ite_false, not_true_eq_false, not_false_eq_true, reduceCtorEq, decide_eq_true_eq])
        intro v20 ev20
        subst ev20
        refine wp_iload (pc := 227) dX8_findWay_227 rfl ?_
        refine cvV [.int (if x7 = 0 then (64 + x8) else x8), .int x6] [] (pc := 229) dX8_findWay_229 ml_X8_89 iv_X8_comeTo (TX8s_k th) (cl_X8 rfl) rfl rfl (Nat.le_of_ble_eq_true rfl) (Nat.le_of_ble_eq_true rfl) (wV.mono (fun mi23 ml24 F => ?_) F)
        exact wp_less (L' := [some (.ref h), some (.long x1), none, some (.int x3), some (.int x4), some (.int x5), none, none, none, none, none]) ⟨rfl, ⟨rfl, ⟨rfl, ⟨rfl, ⟨rfl, trivial⟩⟩⟩⟩⟩ F
  · have F := F.2 c13
    refine wp_iload (pc := 95) dX8_findWay_95 rfl ?_
    refine wp_iload (pc := 97) dX8_findWay_97 rfl ?_
    refine wp_lload_n (pc := 99) dX8_findWay_99 rfl ?_
    refine csI [.int x8, .int x9, .long x1] [] (pc := 100) dX8_findWay_100 ml_X8_92 st_X11_nextSpot rfl rfl (Nat.le_of_ble_eq_true rfl) (Nat.le_of_ble_eq_true rfl) (wI.mono (fun r25 mi26 ml27 F => ?_) F)
    refine wp_istore (pc := 103) dX8_findWay_103 (Nat.le_of_ble_eq_true rfl) rfl ?_
    show wp l M_X8_findWay (d + 1) 0 0 _ [some (.ref h), some (.long x1), none, some (.int x3), some (.int x4), some (.int x5), some (.int x6), some (.int x7), some (.int x8), some (.int x9), some (.int r25)] _ 0 0 kd _ _ mr _
    refine wp_iload (pc := 105) dX8_findWay_105 rfl ?_
    refine wp_iconst (v := -1) (pc := 107) dX8_findWay_107 (by decide) ?_
    refine wp_icmp_eq (tgt := 185) (pc := 108) dX8_findWay_108 (by decide) (fun c28 => ?_) (fun c28 => ?_)
    · have F := F.1 c28
      exact wp_less (L' := [some (.ref h), some (.long x1), none, some (.int x3), some (.int x4), some (.int x5), some (.int x6), some (.int x7), some (.int x8), some (.int x9), none]) ⟨rfl, ⟨rfl, ⟨rfl, ⟨rfl, ⟨rfl, ⟨rfl, ⟨rfl, ⟨rfl, ⟨rfl, trivial⟩⟩⟩⟩⟩⟩⟩⟩⟩ F
    · have F := F.2 c28
      refine wp_iload (pc := 111) dX8_findWay_111 rfl ?_
      refine wp_iload_n (pc := 113) dX8_findWay_113 rfl ?_
      refine wp_icmp_ne (tgt := 120) (pc := 114) dX8_findWay_114 (by decide) (fun c29 => ?_) (fun c29 => ?_)
      · have F := F.1 c29
        refine wp_iload (pc := 120) dX8_findWay_120 rfl ?_
        refine wp_if_eq (tgt := 151) (pc := 122) dX8_findWay_122 (by decide) (fun c30 => ?_) (fun c30 => ?_)
        · have F := F.1 c30
          exact wp_less (L' := [some (.ref h), some (.long x1), none, some (.int x3), some (.int x4), some (.int x5), some (.int x6), some (.int x7), some (.int x8), some (.int x9), some (.int r25)]) ⟨rfl, ⟨rfl, ⟨rfl, ⟨rfl, ⟨rfl, ⟨rfl, ⟨rfl, ⟨rfl, ⟨rfl, ⟨rfl, trivial⟩⟩⟩⟩⟩⟩⟩⟩⟩⟩ F
        · have F := F.2 c30
          refine wp_aload_n (pc := 125) dX8_findWay_125 rfl ?_
          refine wp_getR (pc := 126) dX8_findWay_126 fl_X8_18 rfl (TX8s_k th) (TX8s_r2 th) ?_
          refine wp_iload (pc := 129) dX8_findWay_129 rfl ?_
          refine wp_lald (pc := 131) dX8_findWay_131 (TX8s_a2 th) F.1 ?_
          have F := F.2
          refine wp_iload (pc := 132) dX8_findWay_132 rfl ?_
          refine csB [.long (ml27 (h + 3) (Int32.toNatClampNeg x9)), .int x8] [] (pc := 134) dX8_findWay_134 ml_X8_31 st_X11_has rfl rfl (Nat.le_of_ble_eq_true rfl) (Nat.le_of_ble_eq_true rfl) (wB.mono (fun r31 mi32 ml33 F => ?_) F)
          refine b_ne (tgt := 151) (pc := 137) dX8_findWay_137 (by decide) (fun c34 => ?_) (fun c34 => ?_)
          · have F := F.1 c34
            exact wp_less (L' := [some (.ref h), some (.long x1), none, some (.int x3), some (.int x4), some (.int x5), some (.int x6), some (.int x7), some (.int x8), some (.int x9), some (.int r25)]) ⟨rfl, ⟨rfl, ⟨rfl, ⟨rfl, ⟨rfl, ⟨rfl, ⟨rfl, ⟨rfl, ⟨rfl, ⟨rfl, trivial⟩⟩⟩⟩⟩⟩⟩⟩⟩⟩ F
          · have F := F.2 c34
            refine wp_aload_n (pc := 140) dX8_findWay_140 rfl ?_
            refine wp_iload (pc := 141) dX8_findWay_141 rfl ?_
            refine wp_iload (pc := 143) dX8_findWay_143 rfl ?_
            refine cvV [.int r25, .int x6] [] (pc := 145) dX8_findWay_145 ml_X8_89 iv_X8_comeTo (TX8s_k th) (cl_X8 rfl) rfl rfl (Nat.le_of_ble_eq_true rfl) (Nat.le_of_ble_eq_true rfl) (wV.mono (fun mi36 ml37 F => ?_) F)
            refine wp_goto (tgt := 185) (pc := 148) dX8_findWay_148 (by decide) ?_
            exact wp_less (L' := [some (.ref h), some (.long x1), none, some (.int x3), some (.int x4), some (.int x5), some (.int x6), some (.int x7), some (.int x8), some (.int x9), none]) ⟨rfl, ⟨rfl, ⟨rfl, ⟨rfl, ⟨rfl, ⟨rfl, ⟨rfl, ⟨rfl, ⟨rfl, trivial⟩⟩⟩⟩⟩⟩⟩⟩⟩ F
      · have F := F.2 c29
        refine wp_goto (tgt := 185) (pc := 117) dX8_findWay_117 (by decide) ?_
        exact wp_less (L' := [some (.ref h), some (.long x1), none, some (.int x3), some (.int x4), some (.int x5), some (.int x6), some (.int x7), some (.int x8), some (.int x9), none]) ⟨rfl, ⟨rfl, ⟨rfl, ⟨rfl, ⟨rfl, ⟨rfl, ⟨rfl, ⟨rfl, ⟨rfl, trivial⟩⟩⟩⟩⟩⟩⟩⟩⟩ F
theorem w_X8_findWay_151 {l : Launch} {d : Nat} {kd : pm_K} {mr : pm_R} {h : Nat} {x1 : Int64} {x3 : Int32} {x4 : Int32} {x5 : Int32} {x6 : Int32} {x7 : Int32} {x8 : Int32} {x9 : Int32} {x10 : Int32} {mi : pm_I} {ml : pm_L} {K : Bool → pm_I → pm_L → Prop} (th : TX8s kd mr h)
    (F : ((¬ x7 = 0 → c_X8_findWay_185 l (d + 1) kd mr h x1 x3 x4 x5 x6 x7 x8 x9 mi ml K) ∧ (x7 = 0 → wI l M_X11_contrary d [.int x9] kd mr mi ml (fun r39 mi40 ml41 => vp_in r39 4 ∧ wB l M_X11_has d [.long (ml41 (h + 3) (Int32.toNatClampNeg r39)), .int x10] kd mr mi40 ml41 (fun r42 mi43 ml44 => ((r42 = false → c_X8_findWay_185 l (d + 1) kd mr h x1 x3 x4 x5 x6 x7 x8 x9 mi43 ml44 K) ∧ (r42 = true → wV l M_X8_comeTo d [.ref h, .int (64 + x10), .int x6] kd mr mi43 ml44 (fun mi47 ml48 => c_X8_findWay_185 l (d + 1) kd mr h x1 x3 x4 x5 x6 x7 x8 x9 mi47 ml48 K)))))))) :
    c_X8_findWay_151 l (d + 1) kd mr h x1 x3 x4 x5 x6 x7 x8 x9 x10 mi ml K := by
  show wp l M_X8_findWay (d + 1) 0 0 151 [some (.ref h), some (.long x1), none, some (.int x3), some (.int x4), some (.int x5), some (.int x6), some (.int x7), some (.int x8), some (.int x9), some (.int x10)] [] 0 0 kd mi ml mr _
  refine wp_iload (pc := 151) dX8_findWay_151 rfl ?_
  refine wp_if_ne (tgt := 185) (pc := 153) dX8_findWay_153 (by decide) (fun c38 => ?_) (fun c38 => ?_)
  · have F := F.1 c38
    exact wp_less (L' := [some (.ref h), some (.long x1), none, some (.int x3), some (.int x4), some (.int x5), some (.int x6), some (.int x7), some (.int x8), some (.int x9), none]) ⟨rfl, ⟨rfl, ⟨rfl, ⟨rfl, ⟨rfl, ⟨rfl, ⟨rfl, ⟨rfl, ⟨rfl, trivial⟩⟩⟩⟩⟩⟩⟩⟩⟩ F
  · have F := F.2 c38
    refine wp_aload_n (pc := 156) dX8_findWay_156 rfl ?_
    refine wp_getR (pc := 157) dX8_findWay_157 fl_X8_18 rfl (TX8s_k th) (TX8s_r2 th) ?_
    refine wp_iload (pc := 160) dX8_findWay_160 rfl ?_
    refine csI [.int x9] [.ref (h + 3)] (pc := 162) dX8_findWay_162 ml_X8_96 st_X11_contrary rfl rfl (Nat.le_of_ble_eq_true rfl) (Nat.le_of_ble_eq_true rfl) (wI.mono (fun r39 mi40 ml41 F => ?_) F)
    refine wp_lald (pc := 165) dX8_findWay_165 (TX8s_a2 th) F.1 ?_
    have F := F.2
    refine wp_iload (pc := 166) dX8_findWay_166 rfl ?_
    refine csB [.long (ml41 (h + 3) (Int32.toNatClampNeg r39)), .int x10] [] (pc := 168) dX8_findWay_168 ml_X8_31 st_X11_has rfl rfl (Nat.le_of_ble_eq_true rfl) (Nat.le_of_ble_eq_true rfl) (wB.mono (fun r42 mi43 ml44 F => ?_) F)
    refine b_eq (tgt := 185) (pc := 171) dX8_findWay_171 (by decide) (fun c45 => ?_) (fun c45 => ?_)
    · have F := F.1 c45
      exact wp_less (L' := [some (.ref h), some (.long x1), none, some (.int x3), some (.int x4), some (.int x5), some (.int x6), some (.int x7), some (.int x8), some (.int x9), none]) ⟨rfl, ⟨rfl, ⟨rfl, ⟨rfl, ⟨rfl, ⟨rfl, ⟨rfl, ⟨rfl, ⟨rfl, trivial⟩⟩⟩⟩⟩⟩⟩⟩⟩ F
    · have F := F.2 c45
      refine wp_aload_n (pc := 174) dX8_findWay_174 rfl ?_
      refine wp_bipush (v := 64) (pc := 175) dX8_findWay_175 (by decide) ?_
      refine wp_iload (pc := 177) dX8_findWay_177 rfl ?_
      refine wp_iadd (pc := 179) dX8_findWay_179 ?_
      refine wp_iload (pc := 180) dX8_findWay_180 rfl ?_
      refine cvV [.int (64 + x10), .int x6] [] (pc := 182) dX8_findWay_182 ml_X8_89 iv_X8_comeTo (TX8s_k th) (cl_X8 rfl) rfl rfl (Nat.le_of_ble_eq_true rfl) (Nat.le_of_ble_eq_true rfl) (wV.mono (fun mi47 ml48 F => ?_) F)
      exact wp_less (L' := [some (.ref h), some (.long x1), none, some (.int x3), some (.int x4), some (.int x5), some (.int x6), some (.int x7), some (.int x8), some (.int x9), none]) ⟨rfl, ⟨rfl, ⟨rfl, ⟨rfl, ⟨rfl, ⟨rfl, ⟨rfl, ⟨rfl, ⟨rfl, trivial⟩⟩⟩⟩⟩⟩⟩⟩⟩ F
theorem w_X8_findWay_185 {l : Launch} {d : Nat} {kd : pm_K} {mr : pm_R} {h : Nat} {x1 : Int64} {x3 : Int32} {x4 : Int32} {x5 : Int32} {x6 : Int32} {x7 : Int32} {x8 : Int32} {x9 : Int32} {mi : pm_I} {ml : pm_L} {K : Bool → pm_I → pm_L → Prop} (th : TX8s kd mr h)
    (F : c_X8_findWay_89 l (d + 1) kd mr h x1 x3 x4 x5 x6 x7 x8 (x9 + 1) mi ml K) :
    c_X8_findWay_185 l (d + 1) kd mr h x1 x3 x4 x5 x6 x7 x8 x9 mi ml K := by
  show wp l M_X8_findWay (d + 1) 0 0 185 [some (.ref h), some (.long x1), none, some (.int x3), some (.int x4), some (.int x5), some (.int x6), some (.int x7), some (.int x8), some (.int x9), none] [] 0 0 kd mi ml mr _
  refine wp_iinc (v := (x9 + 1)) (pc := 185) dX8_findWay_185 rfl rfl rfl ?_
  show wp l M_X8_findWay (d + 1) 0 0 _ [some (.ref h), some (.long x1), none, some (.int x3), some (.int x4), some (.int x5), some (.int x6), some (.int x7), some (.int x8), some (.int (x9 + 1)), none] _ 0 0 kd _ _ mr _
  refine wp_goto (tgt := 89) (pc := 188) dX8_findWay_188 (by decide) ?_
  exact wp_less (L' := [some (.ref h), some (.long x1), none, some (.int x3), some (.int x4), some (.int x5), some (.int x6), some (.int x7), some (.int x8), some (.int (x9 + 1)), none]) ⟨rfl, ⟨rfl, ⟨rfl, ⟨rfl, ⟨rfl, ⟨rfl, ⟨rfl, ⟨rfl, ⟨rfl, trivial⟩⟩⟩⟩⟩⟩⟩⟩⟩ F
theorem w_X8_findWay_232 {l : Launch} {d : Nat} {kd : pm_K} {mr : pm_R} {h : Nat} {x1 : Int64} {x3 : Int32} {x4 : Int32} {x5 : Int32} {mi : pm_I} {ml : pm_L} {K : Bool → pm_I → pm_L → Prop} (th : TX8s kd mr h)
    (F : c_X8_findWay_28 l (d + 1) kd mr h x1 x3 x4 (x5 + 1) mi ml K) :
    c_X8_findWay_232 l (d + 1) kd mr h x1 x3 x4 x5 mi ml K := by
  show wp l M_X8_findWay (d + 1) 0 0 232 [some (.ref h), some (.long x1), none, some (.int x3), some (.int x4), some (.int x5), none, none, none, none, none] [] 0 0 kd mi ml mr _
  refine wp_iinc (v := (x5 + 1)) (pc := 232) dX8_findWay_232 rfl rfl rfl ?_
  show wp l M_X8_findWay (d + 1) 0 0 _ [some (.ref h), some (.long x1), none, some (.int x3), some (.int x4), some (.int (x5 + 1)), none, none, none, none, none] _ 0 0 kd _ _ mr _
  refine wp_goto (tgt := 28) (pc := 235) dX8_findWay_235 (by decide) ?_
  exact wp_less (L' := [some (.ref h), some (.long x1), none, some (.int x3), some (.int x4), some (.int (x5 + 1)), none, none, none, none, none]) ⟨rfl, ⟨rfl, ⟨rfl, ⟨rfl, ⟨rfl, trivial⟩⟩⟩⟩⟩ F
/-- findWay(JII)Z -/
theorem w_X8_findWay {l : Launch} {d : Nat} {kd : pm_K} {mr : pm_R} {h : Nat} {x1 : Int64} {x3 : Int32} {x4 : Int32} {mi : pm_I} {ml : pm_L} {K : Bool → pm_I → pm_L → Prop} (th : TX8s kd mr h)
    (F : wV l M_J7_fill_53178 d [.ref (h + 2), .int (-1)] kd mr mi ml (fun mi2 ml3 => wV l M_X8_comeTo d [.ref h, .int (64 + x3), .int (64 + x3)] kd mr (pm_up mi2 h 4 0) ml3 (fun mi5 ml6 => c_X8_findWay_28 l (d + 1) kd mr h x1 x3 x4 0 mi5 ml6 K))) :
    wB l M_X8_findWay (d + 1) [.ref h, .long x1, .int x3, .int x4] kd mr mi ml K := by
  show wp l M_X8_findWay (d + 1) 0 0 0 [some (.ref h), some (.long x1), none, some (.int x3), some (.int x4), none, none, none, none, none, none] [] 0 0 kd mi ml mr _
  refine wp_aload_n (pc := 0) dX8_findWay_0 rfl ?_
  refine wp_getR (pc := 1) dX8_findWay_1 fl_X8_15 rfl (TX8s_k th) (TX8s_r1 th) ?_
  refine wp_iconst (v := -1) (pc := 4) dX8_findWay_4 (by decide) ?_
  refine csV [.ref (h + 2), .int (-1)] [] (pc := 5) dX8_findWay_5 ml_X8_82 st_J7_fill_53178 rfl rfl (Nat.le_of_ble_eq_true rfl) (Nat.le_of_ble_eq_true rfl) (wV.mono (fun mi2 ml3 F => ?_) F)
  refine wp_aload_n (pc := 8) dX8_findWay_8 rfl ?_
  refine wp_iconst (v := 0) (pc := 9) dX8_findWay_9 (by decide) ?_
  refine wp_putI (pc := 10) dX8_findWay_10 fl_X8_85 rfl rfl (TX8s_k th) ?_
  refine wp_aload_n (pc := 13) dX8_findWay_13 rfl ?_
  refine wp_bipush (v := 64) (pc := 14) dX8_findWay_14 (by decide) ?_
  refine wp_iload_n (pc := 16) dX8_findWay_16 rfl ?_
  refine wp_iadd (pc := 17) dX8_findWay_17 ?_
  refine wp_bipush (v := 64) (pc := 18) dX8_findWay_18 (by decide) ?_
  refine wp_iload_n (pc := 20) dX8_findWay_20 rfl ?_
  refine wp_iadd (pc := 21) dX8_findWay_21 ?_
  refine cvV [.int (64 + x3), .int (64 + x3)] [] (pc := 22) dX8_findWay_22 ml_X8_89 iv_X8_comeTo (TX8s_k th) (cl_X8 rfl) rfl rfl (Nat.le_of_ble_eq_true rfl) (Nat.le_of_ble_eq_true rfl) (wV.mono (fun mi5 ml6 F => ?_) F)
  refine wp_iconst (v := 0) (pc := 25) dX8_findWay_25 (by decide) ?_
  refine wp_istore (pc := 26) dX8_findWay_26 (Nat.le_of_ble_eq_true rfl) rfl ?_
  show wp l M_X8_findWay (d + 1) 0 0 _ [some (.ref h), some (.long x1), none, some (.int x3), some (.int x4), some (.int 0), none, none, none, none, none] _ 0 0 kd _ _ mr _
  exact wp_less (L' := [some (.ref h), some (.long x1), none, some (.int x3), some (.int x4), some (.int 0), none, none, none, none, none]) ⟨rfl, ⟨rfl, ⟨rfl, ⟨rfl, ⟨rfl, trivial⟩⟩⟩⟩⟩ F
/-- comeTo(II)V -/
theorem w_X8_comeTo {l : Launch} {d : Nat} {kd : pm_K} {mr : pm_R} {h : Nat} {x1 : Int32} {x2 : Int32} {mi : pm_I} {ml : pm_L} {K : pm_I → pm_L → Prop} (th : TX8s kd mr h)
    (F : vp_in x1 128 ∧ ((¬ (mi (h + 2) (Int32.toNatClampNeg x1)) = (-1) → K mi ml) ∧ ((mi (h + 2) (Int32.toNatClampNeg x1)) = (-1) → ((128 ≤ (mi h 4) → K mi ml) ∧ (¬ 128 ≤ (mi h 4) → vp_in x1 128 ∧ vp_in (mi h 4) 128 ∧ K (pm_up (pm_up (pm_up mi (h + 2) (Int32.toNatClampNeg x1) x2) (h + 1) (Int32.toNatClampNeg (mi h 4)) x1) h 4 ((mi h 4) + 1)) ml))))) :
    wV l M_X8_comeTo d [.ref h, .int x1, .int x2] kd mr mi ml K := by
  show wp l M_X8_comeTo d 0 0 0 [some (.ref h), some (.int x1), some (.int x2)] [] 0 0 kd mi ml mr _
  refine wp_aload_n (pc := 0) dX8_comeTo_0 rfl ?_
  refine wp_getR (pc := 1) dX8_comeTo_1 fl_X8_15 rfl (TX8s_k th) (TX8s_r1 th) ?_
  refine wp_iload_n (pc := 4) dX8_comeTo_4 rfl ?_
  refine wp_iald (pc := 5) dX8_comeTo_5 (TX8s_a1 th) F.1 ?_
  have F := F.2
  refine wp_iconst (v := -1) (pc := 6) dX8_comeTo_6 (by decide) ?_
  refine wp_icmp_ne (tgt := 49) (pc := 7) dX8_comeTo_7 (by decide) (fun c1 => ?_) (fun c1 => ?_)
  · have F := F.1 c1
    exact r_V (pc := 49) dX8_comeTo_49 rfl F
  · have F := F.2 c1
    refine wp_aload_n (pc := 10) dX8_comeTo_10 rfl ?_
    refine wp_getI (pc := 11) dX8_comeTo_11 fl_X8_85 rfl (TX8s_k th) ?_
    refine wp_aload_n (pc := 14) dX8_comeTo_14 rfl ?_
    refine wp_getR (pc := 15) dX8_comeTo_15 fl_X8_9 rfl (TX8s_k th) (TX8s_r0 th) ?_
    refine wp_alen (v := 128) (pc := 18) dX8_comeTo_18 (by decide) (TX8s_a0 th) rfl ?_
    refine wp_icmp_ge (tgt := 49) (pc := 19) dX8_comeTo_19 (by decide) (fun c2 => ?_) (fun c2 => ?_)
    · have F := F.1 c2
      exact r_V (pc := 49) dX8_comeTo_49 rfl F
    · have F := F.2 c2
      refine wp_aload_n (pc := 22) dX8_comeTo_22 rfl ?_
      refine wp_getR (pc := 23) dX8_comeTo_23 fl_X8_15 rfl (TX8s_k th) (TX8s_r1 th) ?_
      refine wp_iload_n (pc := 26) dX8_comeTo_26 rfl ?_
      refine wp_iload_n (pc := 27) dX8_comeTo_27 rfl ?_
      refine wp_iast (pc := 28) dX8_comeTo_28 (TX8s_a1 th) F.1 ?_
      have F := F.2
      refine wp_aload_n (pc := 29) dX8_comeTo_29 rfl ?_
      refine wp_getR (pc := 30) dX8_comeTo_30 fl_X8_9 rfl (TX8s_k th) (TX8s_r0 th) ?_
      refine wp_aload_n (pc := 33) dX8_comeTo_33 rfl ?_
      refine wp_getI (pc := 34) dX8_comeTo_34 fl_X8_85 rfl (TX8s_k th) ?_
      refine t_I (show ((pm_up mi (h + 2) (Int32.toNatClampNeg x1) x2) h 4) = (mi h 4) from pm_up_k _ _ (by omega)) ?_
      refine wp_iload_n (pc := 37) dX8_comeTo_37 rfl ?_
      refine wp_iast (pc := 38) dX8_comeTo_38 (TX8s_a0 th) F.1 ?_
      have F := F.2
      refine wp_aload_n (pc := 39) dX8_comeTo_39 rfl ?_
      refine wp_dup (pc := 40) dX8_comeTo_40 rfl ?_
      refine wp_getI (pc := 41) dX8_comeTo_41 fl_X8_85 rfl (TX8s_k th) ?_
      refine t_I (show ((pm_up (pm_up mi (h + 2) (Int32.toNatClampNeg x1) x2) (h + 1) (Int32.toNatClampNeg (mi h 4)) x1) h 4) = (mi h 4) from (pm_up_k _ _ (by omega)).trans (pm_up_k _ _ (by omega))) ?_
      refine wp_iconst (v := 1) (pc := 44) dX8_comeTo_44 (by decide) ?_
      refine wp_iadd (pc := 45) dX8_comeTo_45 ?_
      refine wp_putI (pc := 46) dX8_comeTo_46 fl_X8_85 rfl rfl (TX8s_k th) ?_
      exact r_V (pc := 49) dX8_comeTo_49 rfl F
def c_X8_layWay_141 (l : Launch) (d : Nat) (kd : pm_K) (mr : pm_R) (h : Nat) (x1 : Int32) (x4 : Int32) (x5 : Int32) (mi : pm_I) (ml : pm_L) (K : pm_I → pm_L → Prop) : Prop := wp l M_X8_layWay d 0 0 141 [some (.ref h), some (.int x1), none, none, some (.int x4), some (.int x5), none, none, none] [] 0 0 kd mi ml mr (qV kd mr K)
def c_X8_layWay_5 (l : Launch) (d : Nat) (kd : pm_K) (mr : pm_R) (h : Nat) (x1 : Int32) (x3 : Int32) (x4 : Int32) (mi : pm_I) (ml : pm_L) (K : pm_I → pm_L → Prop) : Prop := wp l M_X8_layWay d 0 0 5 [some (.ref h), some (.int x1), none, some (.int x3), some (.int x4), none, none, none, none] [] 0 0 kd mi ml mr (qV kd mr K)
theorem w_X8_layWay_5 {l : Launch} {d : Nat} {kd : pm_K} {mr : pm_R} {h : Nat} {x1 : Int32} {x3 : Int32} {x4 : Int32} {mi : pm_I} {ml : pm_L} {K : pm_I → pm_L → Prop} (th : TX8s kd mr h)
    (F : ((128 ≤ x4 → K mi ml) ∧ (¬ 128 ≤ x4 → ((x3 = (64 + x1) → K mi ml) ∧ (¬ x3 = (64 + x1) → ((x3 < 0 → K mi ml) ∧ (¬ x3 < 0 → vp_in x3 128 ∧ ((0 ≤ (mi (h + 2) (Int32.toNatClampNeg x3)) → ((¬ (x3 - x3 / 64 * 64) = ((mi (h + 2) (Int32.toNatClampNeg x3)) - (mi (h + 2) (Int32.toNatClampNeg x3)) / 64 * 64) → (((!decide (64 ≤ x3)) = false → wI l M_X8_directionOf d [.int (x3 - x3 / 64 * 64), .int ((mi (h + 2) (Int32.toNatClampNeg x3)) - (mi (h + 2) (Int32.toNatClampNeg x3)) / 64 * 64)] kd mr mi ml (fun r10 mi11 ml12 => vp_in r10 4 ∧ wL l M_X11_only d [.int (x3 - x3 / 64 * 64)] kd mr mi11 ml12 (fun r13 mi14 ml15 => vp_in r10 4 ∧ c_X8_layWay_141 l (d + 1) kd mr h x1 x4 (mi (h + 2) (Int32.toNatClampNeg x3)) mi14 (pm_up ml15 (h + 3) (Int32.toNatClampNeg r10) ((ml12 (h + 3) (Int32.toNatClampNeg r10)) &&& (r13 ^^^ (-1)))) K))) ∧ ((!decide (64 ≤ x3)) = true → wI l M_X8_directionOf d [.int ((mi (h + 2) (Int32.toNatClampNeg x3)) - (mi (h + 2) (Int32.toNatClampNeg x3)) / 64 * 64), .int (x3 - x3 / 64 * 64)] kd mr mi ml (fun r16 mi17 ml18 => vp_in r16 4 ∧ wL l M_X11_only d [.int ((mi (h + 2) (Int32.toNatClampNeg x3)) - (mi (h + 2) (Int32.toNatClampNeg x3)) / 64 * 64)] kd mr mi17 ml18 (fun r19 mi20 ml21 => vp_in r16 4 ∧ c_X8_layWay_141 l (d + 1) kd mr h x1 x4 (mi (h + 2) (Int32.toNatClampNeg x3)) mi20 (pm_up ml21 (h + 3) (Int32.toNatClampNeg r16) ((ml18 (h + 3) (Int32.toNatClampNeg r16)) ||| r19)) K))))) ∧ ((x3 - x3 / 64 * 64) = ((mi (h + 2) (Int32.toNatClampNeg x3)) - (mi (h + 2) (Int32.toNatClampNeg x3)) / 64 * 64) → wL l M_X11_only d [.int (x3 - x3 / 64 * 64)] kd mr mi ml (fun r22 mi23 ml24 => c_X8_layWay_141 l (d + 1) kd mr h x1 x4 (mi (h + 2) (Int32.toNatClampNeg x3)) mi23 (pm_up ml24 h 3 ((ml h 3) ^^^ r22)) K)))) ∧ (¬ 0 ≤ (mi (h + 2) (Int32.toNatClampNeg x3)) → K mi ml))))))))) :
    c_X8_layWay_5 l (d + 1) kd mr h x1 x3 x4 mi ml K := by
  show wp l M_X8_layWay (d + 1) 0 0 5 [some (.ref h), some (.int x1), none, some (.int x3), some (.int x4), none, none, none, none] [] 0 0 kd mi ml mr _
  refine wp_iload (pc := 5) dX8_layWay_5 rfl ?_
  refine wp_sipush (v := 128) (pc := 7) dX8_layWay_7 (by decide) ?_
  refine wp_icmp_ge (tgt := 150) (pc := 10) dX8_layWay_10 (by decide) (fun c1 => ?_) (fun c1 => ?_)
  · have F := F.1 c1
    exact r_V (pc := 150) dX8_layWay_150 rfl F
  · have F := F.2 c1
    refine wp_iload_n (pc := 13) dX8_layWay_13 rfl ?_
    refine wp_bipush (v := 64) (pc := 14) dX8_layWay_14 (by decide) ?_
    refine wp_iload_n (pc := 16) dX8_layWay_16 rfl ?_
    refine wp_iadd (pc := 17) dX8_layWay_17 ?_
    refine wp_icmp_eq (tgt := 150) (pc := 18) dX8_layWay_18 (by decide) (fun c2 => ?_) (fun c2 => ?_)
    · have F := F.1 c2
      exact r_V (pc := 150) dX8_layWay_150 rfl F
    · have F := F.2 c2
      refine wp_iload_n (pc := 21) dX8_layWay_21 rfl ?_
      refine wp_if_lt (tgt := 150) (pc := 22) dX8_layWay_22 (by decide) (fun c3 => ?_) (fun c3 => ?_)
      · have F := F.1 c3
        exact r_V (pc := 150) dX8_layWay_150 rfl F
      · have F := F.2 c3
        refine wp_aload_n (pc := 25) dX8_layWay_25 rfl ?_
        refine wp_getR (pc := 26) dX8_layWay_26 fl_X8_15 rfl (TX8s_k th) (TX8s_r1 th) ?_
        refine wp_iload_n (pc := 29) dX8_layWay_29 rfl ?_
        refine wp_iald (pc := 30) dX8_layWay_30 (TX8s_a1 th) F.1 ?_
        have F := F.2
        refine wp_istore (pc := 31) dX8_layWay_31 (Nat.le_of_ble_eq_true rfl) rfl ?_
        show wp l M_X8_layWay (d + 1) 0 0 _ [some (.ref h), some (.int x1), none, some (.int x3), some (.int x4), some (.int (mi (h + 2) (Int32.toNatClampNeg x3))), none, none, none] _ 0 0 kd _ _ mr _
        refine wp_iload (pc := 33) dX8_layWay_33 rfl ?_
        refine wp_if_ge (tgt := 39) (pc := 35) dX8_layWay_35 (by decide) (fun c4 => ?_) (fun c4 => ?_)
        · have F := F.1 c4
          refine wp_iload_n (pc := 39) dX8_layWay_39 rfl ?_
          refine wp_bipush (v := 64) (pc := 40) dX8_layWay_40 (by decide) ?_
          refine wp_irem (pc := 42) dX8_layWay_42 (by decide) ?_
          refine wp_istore (pc := 43) dX8_layWay_43 (Nat.le_of_ble_eq_true rfl) rfl ?_
          show wp l M_X8_layWay (d + 1) 0 0 _ [some (.ref h), some (.int x1), none, some (.int x3), some (.int x4), some (.int (mi (h + 2) (Int32.toNatClampNeg x3))), some (.int (x3 - x3 / 64 * 64)), none, none] _ 0 0 kd _ _ mr _
          refine wp_iload (pc := 45) dX8_layWay_45 rfl ?_
          refine wp_bipush (v := 64) (pc := 47) dX8_layWay_47 (by decide) ?_
          refine wp_irem (pc := 49) dX8_layWay_49 (by decide) ?_
          refine wp_istore (pc := 50) dX8_layWay_50 (Nat.le_of_ble_eq_true rfl) rfl ?_
          show wp l M_X8_layWay (d + 1) 0 0 _ [some (.ref h), some (.int x1), none, some (.int x3), some (.int x4), some (.int (mi (h + 2) (Int32.toNatClampNeg x3))), some (.int (x3 - x3 / 64 * 64)), some (.int ((mi (h + 2) (Int32.toNatClampNeg x3)) - (mi (h + 2) (Int32.toNatClampNeg x3)) / 64 * 64)), none] _ 0 0 kd _ _ mr _
          refine wp_iload_n (pc := 52) dX8_layWay_52 rfl ?_
          refine wp_bipush (v := 64) (pc := 53) dX8_layWay_53 (by decide) ?_
          suffices J5 : ∀ v6 : Int32, v6 = (b2i (!decide (64 ≤ x3))) → wp l M_X8_layWay (d + 1) 0 0 63 [some (.ref h), some (.int x1), none, some (.int x3), some (.int x4), some (.int (mi (h + 2) (Int32.toNatClampNeg x3))), some (.int (x3 - x3 / 64 * 64)), some (.int ((mi (h + 2) (Int32.toNatClampNeg x3)) - (mi (h + 2) (Int32.toNatClampNeg x3)) / 64 * 64)), none] [.int v6] 0 0 kd mi ml mr _ by
              refine wp_icmp_ge (tgt := 62) (pc := 55) dX8_layWay_55 (by decide) (fun c7 => ?_) (fun c7 => ?_)
              · refine wp_iconst (v := 0) (pc := 62) dX8_layWay_62 (by decide) ?_
                exact J5 _ (by simp only [eq_true c7, if_true, if_false, decide_true, decide_false, Bool.not_true, Bool.not_false, Bool.true_and, Bool.false_and, Bool.true_or, Bool.false_or, b2i_t, b2i_f, ite_true, ite_false, not_true_eq_false, not_false_eq_true, reduceCtorEq, decide_eq_true_eq])
              · refine wp_iconst (v := 1) (pc := 58) dX8_layWay_58 (by decide) ?_
                refine wp_goto (tgt := 63) (pc := 59) dX8_layWay_59 (by decide) ?_
                exact J5 _ (by simp only [c7, if_true, if_false, decide_true, decide_false, Bool.not_true, Bool.not_false, Bool.true_and, Bool.false_and, Bool.true_or, Bool.false_or, b2i_t, b2i_f, ite_true, ite_false, not_true_eq_false, not_false_eq_true, reduceCtorEq, decide_eq_true_eq])
          intro v6 ev6
          subst ev6
          refine wp_istore (pc := 63) dX8_layWay_63 (Nat.le_of_ble_eq_true rfl) rfl ?_
          show wp l M_X8_layWay (d + 1) 0 0 _ [some (.ref h), some (.int x1), none, some (.int x3), some (.int x4), some (.int (mi (h + 2) (Int32.toNatClampNeg x3))), some (.int (x3 - x3 / 64 * 64)), some (.int ((mi (h + 2) (Int32.toNatClampNeg x3)) - (mi (h + 2) (Int32.toNatClampNeg x3)) / 64 * 64)), some (.int (b2i (!decide (64 ≤ x3))))] _ 0 0 kd _ _ mr _
          refine wp_iload (pc := 65) dX8_layWay_65 rfl ?_
          refine wp_iload (pc := 67) dX8_layWay_67 rfl ?_
          refine wp_icmp_ne (tgt := 89) (pc := 69) dX8_layWay_69 (by decide) (fun c8 => ?_) (fun c8 => ?_)
          · have F := F.1 c8
            refine wp_iload (pc := 89) dX8_layWay_89 rfl ?_
            refine b_eq (tgt := 117) (pc := 91) dX8_layWay_91 (by decide) (fun c9 => ?_) (fun c9 => ?_)
            · have F := F.1 c9
              refine wp_aload_n (pc := 117) dX8_layWay_117 rfl ?_
              refine wp_getR (pc := 118) dX8_layWay_118 fl_X8_18 rfl (TX8s_k th) (TX8s_r2 th) ?_
              refine wp_iload (pc := 121) dX8_layWay_121 rfl ?_
              refine wp_iload (pc := 123) dX8_layWay_123 rfl ?_
              refine csI [.int (x3 - x3 / 64 * 64), .int ((mi (h + 2) (Int32.toNatClampNeg x3)) - (mi (h + 2) (Int32.toNatClampNeg x3)) / 64 * 64)] [.ref (h + 3)] (pc := 125) dX8_layWay_125 ml_X8_100 st_X8_directionOf rfl rfl (Nat.le_of_ble_eq_true rfl) (Nat.le_of_ble_eq_true rfl) (wI.mono (fun r10 mi11 ml12 F => ?_) F)
              refine wp_dup2 (pc := 128) dX8_layWay_128 rfl rfl ?_
              refine wp_lald (pc := 129) dX8_layWay_129 (TX8s_a2 th) F.1 ?_
              have F := F.2
              refine wp_iload (pc := 130) dX8_layWay_130 rfl ?_
              refine csL [.int (x3 - x3 / 64 * 64)] [.long (ml12 (h + 3) (Int32.toNatClampNeg r10)), .int r10, .ref (h + 3)] (pc := 132) dX8_layWay_132 ml_X8_35 st_X11_only rfl rfl (Nat.le_of_ble_eq_true rfl) (Nat.le_of_ble_eq_true rfl) (wL.mono (fun r13 mi14 ml15 F => ?_) F)
              refine wp_ldc2 (v := -1) (pc := 135) dX8_layWay_135 (tb_5 159 rfl rfl) ?_
              refine wp_lxor (pc := 138) dX8_layWay_138 ?_
              refine wp_land (pc := 139) dX8_layWay_139 ?_
              refine wp_last (pc := 140) dX8_layWay_140 (TX8s_a2 th) F.1 ?_
              have F := F.2
              exact wp_less (L' := [some (.ref h), some (.int x1), none, none, some (.int x4), some (.int (mi (h + 2) (Int32.toNatClampNeg x3))), none, none, none]) ⟨rfl, ⟨rfl, ⟨rfl, ⟨rfl, trivial⟩⟩⟩⟩ F
            · have F := F.2 c9
              refine wp_aload_n (pc := 94) dX8_layWay_94 rfl ?_
              refine wp_getR (pc := 95) dX8_layWay_95 fl_X8_18 rfl (TX8s_k th) (TX8s_r2 th) ?_
              refine wp_iload (pc := 98) dX8_layWay_98 rfl ?_
              refine wp_iload (pc := 100) dX8_layWay_100 rfl ?_
              refine csI [.int ((mi (h + 2) (Int32.toNatClampNeg x3)) - (mi (h + 2) (Int32.toNatClampNeg x3)) / 64 * 64), .int (x3 - x3 / 64 * 64)] [.ref (h + 3)] (pc := 102) dX8_layWay_102 ml_X8_100 st_X8_directionOf rfl rfl (Nat.le_of_ble_eq_true rfl) (Nat.le_of_ble_eq_true rfl) (wI.mono (fun r16 mi17 ml18 F => ?_) F)
              refine wp_dup2 (pc := 105) dX8_layWay_105 rfl rfl ?_
              refine wp_lald (pc := 106) dX8_layWay_106 (TX8s_a2 th) F.1 ?_
              have F := F.2
              refine wp_iload (pc := 107) dX8_layWay_107 rfl ?_
              refine csL [.int ((mi (h + 2) (Int32.toNatClampNeg x3)) - (mi (h + 2) (Int32.toNatClampNeg x3)) / 64 * 64)] [.long (ml18 (h + 3) (Int32.toNatClampNeg r16)), .int r16, .ref (h + 3)] (pc := 109) dX8_layWay_109 ml_X8_35 st_X11_only rfl rfl (Nat.le_of_ble_eq_true rfl) (Nat.le_of_ble_eq_true rfl) (wL.mono (fun r19 mi20 ml21 F => ?_) F)
              refine wp_lor (pc := 112) dX8_layWay_112 ?_
              refine wp_last (pc := 113) dX8_layWay_113 (TX8s_a2 th) F.1 ?_
              have F := F.2
              refine wp_goto (tgt := 141) (pc := 114) dX8_layWay_114 (by decide) ?_
              exact wp_less (L' := [some (.ref h), some (.int x1), none, none, some (.int x4), some (.int (mi (h + 2) (Int32.toNatClampNeg x3))), none, none, none]) ⟨rfl, ⟨rfl, ⟨rfl, ⟨rfl, trivial⟩⟩⟩⟩ F
          · have F := F.2 c8
            refine wp_aload_n (pc := 72) dX8_layWay_72 rfl ?_
            refine wp_dup (pc := 73) dX8_layWay_73 rfl ?_
            refine wp_getL (pc := 74) dX8_layWay_74 fl_X8_70 rfl (TX8s_k th) ?_
            refine wp_iload (pc := 77) dX8_layWay_77 rfl ?_
            refine csL [.int (x3 - x3 / 64 * 64)] [.long (ml h 3), .ref h] (pc := 79) dX8_layWay_79 ml_X8_35 st_X11_only rfl rfl (Nat.le_of_ble_eq_true rfl) (Nat.le_of_ble_eq_true rfl) (wL.mono (fun r22 mi23 ml24 F => ?_) F)
            refine wp_lxor (pc := 82) dX8_layWay_82 ?_
            refine wp_putL (pc := 83) dX8_layWay_83 fl_X8_70 rfl rfl (TX8s_k th) ?_
            refine wp_goto (tgt := 141) (pc := 86) dX8_layWay_86 (by decide) ?_
            exact wp_less (L' := [some (.ref h), some (.int x1), none, none, some (.int x4), some (.int (mi (h + 2) (Int32.toNatClampNeg x3))), none, none, none]) ⟨rfl, ⟨rfl, ⟨rfl, ⟨rfl, trivial⟩⟩⟩⟩ F
        · have F := F.2 c4
          exact r_V (pc := 38) dX8_layWay_38 rfl F
theorem w_X8_layWay_141 {l : Launch} {d : Nat} {kd : pm_K} {mr : pm_R} {h : Nat} {x1 : Int32} {x4 : Int32} {x5 : Int32} {mi : pm_I} {ml : pm_L} {K : pm_I → pm_L → Prop} (th : TX8s kd mr h)
    (F : c_X8_layWay_5 l (d + 1) kd mr h x1 x5 (x4 + 1) mi ml K) :
    c_X8_layWay_141 l (d + 1) kd mr h x1 x4 x5 mi ml K := by
  show wp l M_X8_layWay (d + 1) 0 0 141 [some (.ref h), some (.int x1), none, none, some (.int x4), some (.int x5), none, none, none] [] 0 0 kd mi ml mr _
  refine wp_iload (pc := 141) dX8_layWay_141 rfl ?_
  refine wp_istore_n (pc := 143) dX8_layWay_143 (Nat.le_of_ble_eq_true rfl) rfl ?_
  show wp l M_X8_layWay (d + 1) 0 0 _ [some (.ref h), some (.int x1), none, some (.int x5), some (.int x4), some (.int x5), none, none, none] _ 0 0 kd _ _ mr _
  refine wp_iinc (v := (x4 + 1)) (pc := 144) dX8_layWay_144 rfl rfl rfl ?_
  show wp l M_X8_layWay (d + 1) 0 0 _ [some (.ref h), some (.int x1), none, some (.int x5), some (.int (x4 + 1)), some (.int x5), none, none, none] _ 0 0 kd _ _ mr _
  refine wp_goto (tgt := 5) (pc := 147) dX8_layWay_147 (by decide) ?_
  exact wp_less (L' := [some (.ref h), some (.int x1), none, some (.int x5), some (.int (x4 + 1)), none, none, none, none]) ⟨rfl, ⟨rfl, ⟨rfl, ⟨rfl, trivial⟩⟩⟩⟩ F
/-- layWay(II)V -/
theorem w_X8_layWay {l : Launch} {d : Nat} {kd : pm_K} {mr : pm_R} {h : Nat} {x1 : Int32} {x2 : Int32} {mi : pm_I} {ml : pm_L} {K : pm_I → pm_L → Prop} (th : TX8s kd mr h)
    (F : c_X8_layWay_5 l (d + 1) kd mr h x1 x2 0 mi ml K) :
    wV l M_X8_layWay (d + 1) [.ref h, .int x1, .int x2] kd mr mi ml K := by
  show wp l M_X8_layWay (d + 1) 0 0 0 [some (.ref h), some (.int x1), some (.int x2), none, none, none, none, none, none] [] 0 0 kd mi ml mr _
  refine wp_iload_n (pc := 0) dX8_layWay_0 rfl ?_
  refine wp_istore_n (pc := 1) dX8_layWay_1 (Nat.le_of_ble_eq_true rfl) rfl ?_
  show wp l M_X8_layWay (d + 1) 0 0 _ [some (.ref h), some (.int x1), some (.int x2), some (.int x2), none, none, none, none, none] _ 0 0 kd _ _ mr _
  refine wp_iconst (v := 0) (pc := 2) dX8_layWay_2 (by decide) ?_
  refine wp_istore (pc := 3) dX8_layWay_3 (Nat.le_of_ble_eq_true rfl) rfl ?_
  show wp l M_X8_layWay (d + 1) 0 0 _ [some (.ref h), some (.int x1), some (.int x2), some (.int x2), some (.int 0), none, none, none, none] _ 0 0 kd _ _ mr _
  exact wp_less (L' := [some (.ref h), some (.int x1), none, some (.int x2), some (.int 0), none, none, none, none]) ⟨rfl, ⟨rfl, ⟨rfl, ⟨rfl, trivial⟩⟩⟩⟩ F
/-- directionOf(II)I -/
theorem w_X8_directionOf {l : Launch} {d : Nat} {kd : pm_K} {mr : pm_R}  {x0 : Int32} {x1 : Int32} {mi : pm_I} {ml : pm_L} {K : Int32 → pm_I → pm_L → Prop} 
    (F : ((((x1 - x0)).toInt = -8 → K 0 mi ml) ∧ (¬ ((x1 - x0)).toInt = -8 → ((((x1 - x0)).toInt = 1 → K 1 mi ml) ∧ (¬ ((x1 - x0)).toInt = 1 → ((((x1 - x0)).toInt = 8 → K 2 mi ml) ∧ (¬ ((x1 - x0)).toInt = 8 → K 3 mi ml))))))) :
    wI l M_X8_directionOf d [.int x0, .int x1] kd mr mi ml K := by
  show wp l M_X8_directionOf d 0 0 0 [some (.int x0), some (.int x1)] [] 0 0 kd mi ml mr _
  refine wp_iload_n (pc := 0) dX8_directionOf_0 rfl ?_
  refine wp_iload_n (pc := 1) dX8_directionOf_1 rfl ?_
  refine wp_isub (pc := 2) dX8_directionOf_2 ?_
  by_cases c1 : ((x1 - x0)).toInt = -8
  · have F := F.1 c1
    refine wp_lookup (tgt := 36) (off := 33) (pc := 3) dX8_directionOf_3 (by decide) (by rw [c1]; decide) (by decide) ?_
    refine wp_iconst (v := 0) (pc := 36) dX8_directionOf_36 (by decide) ?_
    exact r_I (pc := 37) dX8_directionOf_37 rfl F
  have F := F.2 c1
  by_cases c2 : ((x1 - x0)).toInt = 1
  · have F := F.1 c2
    refine wp_lookup (tgt := 38) (off := 35) (pc := 3) dX8_directionOf_3 (by decide) (by rw [c2]; decide) (by decide) ?_
    refine wp_iconst (v := 1) (pc := 38) dX8_directionOf_38 (by decide) ?_
    exact r_I (pc := 39) dX8_directionOf_39 rfl F
  have F := F.2 c2
  by_cases c3 : ((x1 - x0)).toInt = 8
  · have F := F.1 c3
    refine wp_lookup (tgt := 40) (off := 37) (pc := 3) dX8_directionOf_3 (by decide) (by rw [c3]; decide) (by decide) ?_
    refine wp_iconst (v := 2) (pc := 40) dX8_directionOf_40 (by decide) ?_
    exact r_I (pc := 41) dX8_directionOf_41 rfl F
  have F := F.2 c3
  refine wp_lookup (tgt := 42) (off := 39) (pc := 3) dX8_directionOf_3 (by decide) (by have nc1 : ¬ (-8 : Int) = ((x1 - x0)).toInt := fun z => c1 z.symm; have nc2 : ¬ (1 : Int) = ((x1 - x0)).toInt := fun z => c2 z.symm; have nc3 : ¬ (8 : Int) = ((x1 - x0)).toInt := fun z => c3 z.symm; simp only [Op.lookupswitch.offset, nc1, nc2, nc3, if_false]) (by decide) ?_
  refine wp_iconst (v := 3) (pc := 42) dX8_directionOf_42 (by decide) ?_
  exact r_I (pc := 43) dX8_directionOf_43 rfl F
def c_X8_shortestVisit_104 (l : Launch) (d : Nat) (kd : pm_K) (mr : pm_R) (h : Nat) (o1 : Nat) (x3 : Int32) (x4 : Int32) (x5 : Int32) (mi : pm_I) (ml : pm_L) (K : Int32 → pm_I → pm_L → Prop) : Prop := wp l M_X8_shortestVisit d 0 0 104 [some (.ref h), none, none, some (.int x3), some (.int x4), some (.int x5)] [] 0 0 kd mi ml mr (qI kd mr K)
def c_X8_shortestVisit_74 (l : Launch) (d : Nat) (kd : pm_K) (mr : pm_R) (h : Nat) (o1 : Nat) (x3 : Int32) (x4 : Int32) (x5 : Int32) (mi : pm_I) (ml : pm_L) (K : Int32 → pm_I → pm_L → Prop) : Prop := wp l M_X8_shortestVisit d 0 0 74 [some (.ref h), none, none, some (.int x3), some (.int x4), some (.int x5)] [] 0 0 kd mi ml mr (qI kd mr K)
def c_X8_shortestVisit_36 (l : Launch) (d : Nat) (kd : pm_K) (mr : pm_R) (h : Nat) (o1 : Nat) (x3 : Int32) (x4 : Int32) (x5 : Int32) (mi : pm_I) (ml : pm_L) (K : Int32 → pm_I → pm_L → Prop) : Prop := wp l M_X8_shortestVisit d 0 0 36 [some (.ref h), none, none, some (.int x3), some (.int x4), some (.int x5)] [] 0 0 kd mi ml mr (qI kd mr K)
def c_X8_shortestVisit_25 (l : Launch) (d : Nat) (kd : pm_K) (mr : pm_R) (h : Nat) (o1 : Nat) (x3 : Int32) (x4 : Int32) (mi : pm_I) (ml : pm_L) (K : Int32 → pm_I → pm_L → Prop) : Prop := wp l M_X8_shortestVisit d 0 0 25 [some (.ref h), none, none, some (.int x3), some (.int x4), none] [] 0 0 kd mi ml mr (qI kd mr K)
theorem w_X8_shortestVisit_25 {l : Launch} {d : Nat} {kd : pm_K} {mr : pm_R} {h : Nat} {o1 : Nat} {x3 : Int32} {x4 : Int32} {mi : pm_I} {ml : pm_L} {K : Int32 → pm_I → pm_L → Prop} (th : TX8s kd mr h) (to1 : TX0s kd mr o1)
    (F : ((((1 : Int32) <<< (x3 &&& 31)) ≤ x4 → vp_in ((((1 : Int32) <<< (x3 &&& 31)) - 1) * 6) 384 ∧ c_X8_shortestVisit_104 l (d + 1) kd mr h o1 x3 (mi (h + 6) (Int32.toNatClampNeg ((((1 : Int32) <<< (x3 &&& 31)) - 1) * 6))) 1 mi ml K) ∧ (¬ ((1 : Int32) <<< (x3 &&& 31)) ≤ x4 → c_X8_shortestVisit_36 l (d + 1) kd mr h o1 x3 x4 0 mi ml K))) :
    c_X8_shortestVisit_25 l (d + 1) kd mr h o1 x3 x4 mi ml K := by
  show wp l M_X8_shortestVisit (d + 1) 0 0 25 [some (.ref h), none, none, some (.int x3), some (.int x4), none] [] 0 0 kd mi ml mr _
  refine wp_iload (pc := 25) dX8_shortestVisit_25 rfl ?_
  refine wp_iconst (v := 1) (pc := 27) dX8_shortestVisit_27 (by decide) ?_
  refine wp_iload_n (pc := 28) dX8_shortestVisit_28 rfl ?_
  refine wp_ishl (pc := 29) dX8_shortestVisit_29 ?_
  refine wp_icmp_ge (tgt := 86) (pc := 30) dX8_shortestVisit_30 (by decide) (fun c6 => ?_) (fun c6 => ?_)
  · have F := F.1 c6
    refine wp_aload_n (pc := 86) dX8_shortestVisit_86 rfl ?_
    refine wp_getR (pc := 87) dX8_shortestVisit_87 fl_X8_28 rfl (TX8s_k th) (TX8s_r7 th) ?_
    refine wp_iconst (v := 1) (pc := 90) dX8_shortestVisit_90 (by decide) ?_
    refine wp_iload_n (pc := 91) dX8_shortestVisit_91 rfl ?_
    refine wp_ishl (pc := 92) dX8_shortestVisit_92 ?_
    refine wp_iconst (v := 1) (pc := 93) dX8_shortestVisit_93 (by decide) ?_
    refine wp_isub (pc := 94) dX8_shortestVisit_94 ?_
    refine wp_bipush (v := 6) (pc := 95) dX8_shortestVisit_95 (by decide) ?_
    refine wp_imul (pc := 97) dX8_shortestVisit_97 ?_
    refine wp_iald (pc := 98) dX8_shortestVisit_98 (TX8s_a7 th) F.1 ?_
    have F := F.2
    refine wp_istore (pc := 99) dX8_shortestVisit_99 (Nat.le_of_ble_eq_true rfl) rfl ?_
    show wp l M_X8_shortestVisit (d + 1) 0 0 _ [some (.ref h), none, none, some (.int x3), some (.int (mi (h + 6) (Int32.toNatClampNeg ((((1 : Int32) <<< (x3 &&& 31)) - 1) * 6)))), none] _ 0 0 kd _ _ mr _
    refine wp_iconst (v := 1) (pc := 101) dX8_shortestVisit_101 (by decide) ?_
    refine wp_istore (pc := 102) dX8_shortestVisit_102 (Nat.le_of_ble_eq_true rfl) rfl ?_
    show wp l M_X8_shortestVisit (d + 1) 0 0 _ [some (.ref h), none, none, some (.int x3), some (.int (mi (h + 6) (Int32.toNatClampNeg ((((1 : Int32) <<< (x3 &&& 31)) - 1) * 6)))), some (.int 1)] _ 0 0 kd _ _ mr _
    exact wp_less (L' := [some (.ref h), none, none, some (.int x3), some (.int (mi (h + 6) (Int32.toNatClampNeg ((((1 : Int32) <<< (x3 &&& 31)) - 1) * 6)))), some (.int 1)]) ⟨rfl, ⟨rfl, ⟨rfl, ⟨rfl, trivial⟩⟩⟩⟩ F
  · have F := F.2 c6
    refine wp_iconst (v := 0) (pc := 33) dX8_shortestVisit_33 (by decide) ?_
    refine wp_istore (pc := 34) dX8_shortestVisit_34 (Nat.le_of_ble_eq_true rfl) rfl ?_
    show wp l M_X8_shortestVisit (d + 1) 0 0 _ [some (.ref h), none, none, some (.int x3), some (.int x4), some (.int 0)] _ 0 0 kd _ _ mr _
    exact wp_less (L' := [some (.ref h), none, none, some (.int x3), some (.int x4), some (.int 0)]) ⟨rfl, ⟨rfl, ⟨rfl, ⟨rfl, trivial⟩⟩⟩⟩ F
theorem w_X8_shortestVisit_36 {l : Launch} {d : Nat} {kd : pm_K} {mr : pm_R} {h : Nat} {o1 : Nat} {x3 : Int32} {x4 : Int32} {x5 : Int32} {mi : pm_I} {ml : pm_L} {K : Int32 → pm_I → pm_L → Prop} (th : TX8s kd mr h) (to1 : TX0s kd mr o1)
    (F : ((x3 ≤ x5 → c_X8_shortestVisit_25 l (d + 1) kd mr h o1 x3 (x4 + 1) mi ml K) ∧ (¬ x3 ≤ x5 → ((((x4 >>> (x5 &&& 31)) &&& 1) = 0 → c_X8_shortestVisit_74 l (d + 1) kd mr h o1 x3 x4 x5 mi ml K) ∧ (¬ ((x4 >>> (x5 &&& 31)) &&& 1) = 0 → wI l M_X8_shortestTo d [.ref h, .int x4, .int x5, .int x3] kd mr mi ml (fun r9 mi10 ml11 => vp_in ((x4 * 6) + x5) 384 ∧ c_X8_shortestVisit_74 l (d + 1) kd mr h o1 x3 x4 x5 (pm_up mi10 (h + 6) (Int32.toNatClampNeg ((x4 * 6) + x5)) r9) ml11 K)))))) :
    c_X8_shortestVisit_36 l (d + 1) kd mr h o1 x3 x4 x5 mi ml K := by
  show wp l M_X8_shortestVisit (d + 1) 0 0 36 [some (.ref h), none, none, some (.int x3), some (.int x4), some (.int x5)] [] 0 0 kd mi ml mr _
  refine wp_iload (pc := 36) dX8_shortestVisit_36 rfl ?_
  refine wp_iload_n (pc := 38) dX8_shortestVisit_38 rfl ?_
  refine wp_icmp_ge (tgt := 80) (pc := 39) dX8_shortestVisit_39 (by decide) (fun c7 => ?_) (fun c7 => ?_)
  · have F := F.1 c7
    refine wp_iinc (v := (x4 + 1)) (pc := 80) dX8_shortestVisit_80 rfl rfl rfl ?_
    show wp l M_X8_shortestVisit (d + 1) 0 0 _ [some (.ref h), none, none, some (.int x3), some (.int (x4 + 1)), some (.int x5)] _ 0 0 kd _ _ mr _
    refine wp_goto (tgt := 25) (pc := 83) dX8_shortestVisit_83 (by decide) ?_
    exact wp_less (L' := [some (.ref h), none, none, some (.int x3), some (.int (x4 + 1)), none]) ⟨rfl, ⟨rfl, ⟨rfl, trivial⟩⟩⟩ F
  · have F := F.2 c7
    refine wp_iload (pc := 42) dX8_shortestVisit_42 rfl ?_
    refine wp_iload (pc := 44) dX8_shortestVisit_44 rfl ?_
    refine wp_ishr (pc := 46) dX8_shortestVisit_46 ?_
    refine wp_iconst (v := 1) (pc := 47) dX8_shortestVisit_47 (by decide) ?_
    refine wp_iand (pc := 48) dX8_shortestVisit_48 ?_
    refine wp_if_eq (tgt := 74) (pc := 49) dX8_shortestVisit_49 (by decide) (fun c8 => ?_) (fun c8 => ?_)
    · have F := F.1 c8
      exact wp_less (L' := [some (.ref h), none, none, some (.int x3), some (.int x4), some (.int x5)]) ⟨rfl, ⟨rfl, ⟨rfl, ⟨rfl, trivial⟩⟩⟩⟩ F
    · have F := F.2 c8
      refine wp_aload_n (pc := 52) dX8_shortestVisit_52 rfl ?_
      refine wp_getR (pc := 53) dX8_shortestVisit_53 fl_X8_28 rfl (TX8s_k th) (TX8s_r7 th) ?_
      refine wp_iload (pc := 56) dX8_shortestVisit_56 rfl ?_
      refine wp_bipush (v := 6) (pc := 58) dX8_shortestVisit_58 (by decide) ?_
      refine wp_imul (pc := 60) dX8_shortestVisit_60 ?_
      refine wp_iload (pc := 61) dX8_shortestVisit_61 rfl ?_
      refine wp_iadd (pc := 63) dX8_shortestVisit_63 ?_
      refine wp_aload_n (pc := 64) dX8_shortestVisit_64 rfl ?_
      refine wp_iload (pc := 65) dX8_shortestVisit_65 rfl ?_
      refine wp_iload (pc := 67) dX8_shortestVisit_67 rfl ?_
      refine wp_iload_n (pc := 69) dX8_shortestVisit_69 rfl ?_
      refine cvI [.int x4, .int x5, .int x3] [.int ((x4 * 6) + x5), .ref (h + 6)] (pc := 70) dX8_shortestVisit_70 ml_X8_112 iv_X8_shortestTo (TX8s_k th) (cl_X8 rfl) rfl rfl (Nat.le_of_ble_eq_true rfl) (Nat.le_of_ble_eq_true rfl) (wI.mono (fun r9 mi10 ml11 F => ?_) F)
      refine wp_iast (pc := 73) dX8_shortestVisit_73 (TX8s_a7 th) F.1 ?_
      have F := F.2
      exact wp_less (L' := [some (.ref h), none, none, some (.int x3), some (.int x4), some (.int x5)]) ⟨rfl, ⟨rfl, ⟨rfl, ⟨rfl, trivial⟩⟩⟩⟩ F
theorem w_X8_shortestVisit_74 {l : Launch} {d : Nat} {kd : pm_K} {mr : pm_R} {h : Nat} {o1 : Nat} {x3 : Int32} {x4 : Int32} {x5 : Int32} {mi : pm_I} {ml : pm_L} {K : Int32 → pm_I → pm_L → Prop} (th : TX8s kd mr h) (to1 : TX0s kd mr o1)
    (F : c_X8_shortestVisit_36 l (d + 1) kd mr h o1 x3 x4 (x5 + 1) mi ml K) :
    c_X8_shortestVisit_74 l (d + 1) kd mr h o1 x3 x4 x5 mi ml K := by
  show wp l M_X8_shortestVisit (d + 1) 0 0 74 [some (.ref h), none, none, some (.int x3), some (.int x4), some (.int x5)] [] 0 0 kd mi ml mr _
  refine wp_iinc (v := (x5 + 1)) (pc := 74) dX8_shortestVisit_74 rfl rfl rfl ?_
  show wp l M_X8_shortestVisit (d + 1) 0 0 _ [some (.ref h), none, none, some (.int x3), some (.int x4), some (.int (x5 + 1))] _ 0 0 kd _ _ mr _
  refine wp_goto (tgt := 36) (pc := 77) dX8_shortestVisit_77 (by decide) ?_
  exact wp_less (L' := [some (.ref h), none, none, some (.int x3), some (.int x4), some (.int (x5 + 1))]) ⟨rfl, ⟨rfl, ⟨rfl, ⟨rfl, trivial⟩⟩⟩⟩ F
theorem w_X8_shortestVisit_104 {l : Launch} {d : Nat} {kd : pm_K} {mr : pm_R} {h : Nat} {o1 : Nat} {x3 : Int32} {x4 : Int32} {x5 : Int32} {mi : pm_I} {ml : pm_L} {K : Int32 → pm_I → pm_L → Prop} (th : TX8s kd mr h) (to1 : TX0s kd mr o1)
    (F : ((x3 ≤ x5 → K x4 mi ml) ∧ (¬ x3 ≤ x5 → vp_in (((((1 : Int32) <<< (x3 &&& 31)) - 1) * 6) + x5) 384 ∧ c_X8_shortestVisit_104 l (d + 1) kd mr h o1 x3 (if (mi (h + 6) (Int32.toNatClampNeg (((((1 : Int32) <<< (x3 &&& 31)) - 1) * 6) + x5))) < x4 then (mi (h + 6) (Int32.toNatClampNeg (((((1 : Int32) <<< (x3 &&& 31)) - 1) * 6) + x5))) else x4) (x5 + 1) mi ml K))) :
    c_X8_shortestVisit_104 l (d + 1) kd mr h o1 x3 x4 x5 mi ml K := by
  show wp l M_X8_shortestVisit (d + 1) 0 0 104 [some (.ref h), none, none, some (.int x3), some (.int x4), some (.int x5)] [] 0 0 kd mi ml mr _
  refine wp_iload (pc := 104) dX8_shortestVisit_104 rfl ?_
  refine wp_iload_n (pc := 106) dX8_shortestVisit_106 rfl ?_
  refine wp_icmp_ge (tgt := 139) (pc := 107) dX8_shortestVisit_107 (by decide) (fun c12 => ?_) (fun c12 => ?_)
  · have F := F.1 c12
    refine wp_iload (pc := 139) dX8_shortestVisit_139 rfl ?_
    exact r_I (pc := 141) dX8_shortestVisit_141 rfl F
  · have F := F.2 c12
    refine wp_iload (pc := 110) dX8_shortestVisit_110 rfl ?_
    refine wp_aload_n (pc := 112) dX8_shortestVisit_112 rfl ?_
    refine wp_getR (pc := 113) dX8_shortestVisit_113 fl_X8_28 rfl (TX8s_k th) (TX8s_r7 th) ?_
    refine wp_iconst (v := 1) (pc := 116) dX8_shortestVisit_116 (by decide) ?_
    refine wp_iload_n (pc := 117) dX8_shortestVisit_117 rfl ?_
    refine wp_ishl (pc := 118) dX8_shortestVisit_118 ?_
    refine wp_iconst (v := 1) (pc := 119) dX8_shortestVisit_119 (by decide) ?_
    refine wp_isub (pc := 120) dX8_shortestVisit_120 ?_
    refine wp_bipush (v := 6) (pc := 121) dX8_shortestVisit_121 (by decide) ?_
    refine wp_imul (pc := 123) dX8_shortestVisit_123 ?_
    refine wp_iload (pc := 124) dX8_shortestVisit_124 rfl ?_
    refine wp_iadd (pc := 126) dX8_shortestVisit_126 ?_
    refine wp_iald (pc := 127) dX8_shortestVisit_127 (TX8s_a7 th) F.1 ?_
    have F := F.2
    refine wp_min (pc := 128) dX8_shortestVisit_128 ⟨tb_5 226 rfl rfl, tb_2 149 rfl rfl, tb_1 14 rfl rfl, tb_2 150 rfl rfl⟩ (Nat.succ_pos d) (Nat.le_of_ble_eq_true rfl) ⟨Nat.le_refl 0, Nat.le_refl 0⟩ ?_
    refine wp_istore (pc := 131) dX8_shortestVisit_131 (Nat.le_of_ble_eq_true rfl) rfl ?_
    show wp l M_X8_shortestVisit (d + 1) 0 0 _ [some (.ref h), none, none, some (.int x3), some (.int (if (mi (h + 6) (Int32.toNatClampNeg (((((1 : Int32) <<< (x3 &&& 31)) - 1) * 6) + x5))) < x4 then (mi (h + 6) (Int32.toNatClampNeg (((((1 : Int32) <<< (x3 &&& 31)) - 1) * 6) + x5))) else x4)), some (.int x5)] _ 0 0 kd _ _ mr _
    refine wp_iinc (v := (x5 + 1)) (pc := 133) dX8_shortestVisit_133 rfl rfl rfl ?_
    show wp l M_X8_shortestVisit (d + 1) 0 0 _ [some (.ref h), none, none, some (.int x3), some (.int (if (mi (h + 6) (Int32.toNatClampNeg (((((1 : Int32) <<< (x3 &&& 31)) - 1) * 6) + x5))) < x4 then (mi (h + 6) (Int32.toNatClampNeg (((((1 : Int32) <<< (x3 &&& 31)) - 1) * 6) + x5))) else x4)), some (.int (x5 + 1))] _ 0 0 kd _ _ mr _
    refine wp_goto (tgt := 104) (pc := 136) dX8_shortestVisit_136 (by decide) ?_
    exact wp_less (L' := [some (.ref h), none, none, some (.int x3), some (.int (if (mi (h + 6) (Int32.toNatClampNeg (((((1 : Int32) <<< (x3 &&& 31)) - 1) * 6) + x5))) < x4 then (mi (h + 6) (Int32.toNatClampNeg (((((1 : Int32) <<< (x3 &&& 31)) - 1) * 6) + x5))) else x4)), some (.int (x5 + 1))]) ⟨rfl, ⟨rfl, ⟨rfl, ⟨rfl, trivial⟩⟩⟩⟩ F
/-- shortestVisit(LCityChords$City;I)I -/
theorem w_X8_shortestVisit {l : Launch} {d : Nat} {kd : pm_K} {mr : pm_R} {h : Nat} {o1 : Nat} {x2 : Int32} {mi : pm_I} {ml : pm_L} {K : Int32 → pm_I → pm_L → Prop} (th : TX8s kd mr h) (to1 : TX0s kd mr o1)
    (F : wB l M_X8_measure d [.ref h, .ref o1, .int x2] kd mr mi ml (fun r1 mi2 ml3 => ((r1 = true → ((¬ (mi o1 5) = 0 → c_X8_shortestVisit_25 l (d + 1) kd mr h o1 (mi o1 5) 1 mi2 ml3 K) ∧ ((mi o1 5) = 0 → K 0 mi2 ml3))) ∧ (r1 = false → K (-1) mi2 ml3)))) :
    wI l M_X8_shortestVisit (d + 1) [.ref h, .ref o1, .int x2] kd mr mi ml K := by
  show wp l M_X8_shortestVisit (d + 1) 0 0 0 [some (.ref h), some (.ref o1), some (.int x2), none, none, none] [] 0 0 kd mi ml mr _
  refine wp_aload_n (pc := 0) dX8_shortestVisit_0 rfl ?_
  refine wp_getI (pc := 1) dX8_shortestVisit_1 fl_X8_103 rfl (TX0s_k to1) ?_
  refine wp_istore_n (pc := 4) dX8_shortestVisit_4 (Nat.le_of_ble_eq_true rfl) rfl ?_
  show wp l M_X8_shortestVisit (d + 1) 0 0 _ [some (.ref h), some (.ref o1), some (.int x2), some (.int (mi o1 5)), none, none] _ 0 0 kd _ _ mr _
  refine wp_aload_n (pc := 5) dX8_shortestVisit_5 rfl ?_
  refine wp_aload_n (pc := 6) dX8_shortestVisit_6 rfl ?_
  refine wp_iload_n (pc := 7) dX8_shortestVisit_7 rfl ?_
  refine cvB [.ref o1, .int x2] [] (pc := 8) dX8_shortestVisit_8 ml_X8_108 iv_X8_measure (TX8s_k th) (cl_X8 rfl) rfl rfl (Nat.le_of_ble_eq_true rfl) (Nat.le_of_ble_eq_true rfl) (wB.mono (fun r1 mi2 ml3 F => ?_) F)
  refine b_ne (tgt := 16) (pc := 11) dX8_shortestVisit_11 (by decide) (fun c4 => ?_) (fun c4 => ?_)
  · have F := F.1 c4
    refine wp_iload_n (pc := 16) dX8_shortestVisit_16 rfl ?_
    refine wp_if_ne (tgt := 22) (pc := 17) dX8_shortestVisit_17 (by decide) (fun c5 => ?_) (fun c5 => ?_)
    · have F := F.1 c5
      refine wp_iconst (v := 1) (pc := 22) dX8_shortestVisit_22 (by decide) ?_
      refine wp_istore (pc := 23) dX8_shortestVisit_23 (Nat.le_of_ble_eq_true rfl) rfl ?_
      show wp l M_X8_shortestVisit (d + 1) 0 0 _ [some (.ref h), some (.ref o1), some (.int x2), some (.int (mi o1 5)), some (.int 1), none] _ 0 0 kd _ _ mr _
      exact wp_less (L' := [some (.ref h), none, none, some (.int (mi o1 5)), some (.int 1), none]) ⟨rfl, ⟨rfl, ⟨rfl, trivial⟩⟩⟩ F
    · have F := F.2 c5
      refine wp_iconst (v := 0) (pc := 20) dX8_shortestVisit_20 (by decide) ?_
      exact r_I (pc := 21) dX8_shortestVisit_21 rfl F
  · have F := F.2 c4
    refine wp_iconst (v := -1) (pc := 14) dX8_shortestVisit_14 (by decide) ?_
    exact r_I (pc := 15) dX8_shortestVisit_15 rfl F
def c_X8_measure_47 (l : Launch) (d : Nat) (kd : pm_K) (mr : pm_R) (h : Nat) (o1 : Nat) (x3 : Int64) (x5 : Int32) (x6 : Int32) (x7 : Int32) (mi : pm_I) (ml : pm_L) (K : Bool → pm_I → pm_L → Prop) : Prop := wp l M_X8_measure d 0 0 47 [some (.ref h), none, none, some (.long x3), none, some (.int x5), some (.int x6), some (.int x7), none] [] 0 0 kd mi ml mr (qB kd mr K)
def c_X8_measure_37 (l : Launch) (d : Nat) (kd : pm_K) (mr : pm_R) (h : Nat) (o1 : Nat) (x3 : Int64) (x5 : Int32) (x6 : Int32) (mi : pm_I) (ml : pm_L) (K : Bool → pm_I → pm_L → Prop) : Prop := wp l M_X8_measure d 0 0 37 [some (.ref h), none, none, some (.long x3), none, some (.int x5), some (.int x6), none, none] [] 0 0 kd mi ml mr (qB kd mr K)
theorem w_X8_measure_37 {l : Launch} {d : Nat} {kd : pm_K} {mr : pm_R} {h : Nat} {o1 : Nat} {x3 : Int64} {x5 : Int32} {x6 : Int32} {mi : pm_I} {ml : pm_L} {K : Bool → pm_I → pm_L → Prop} (th : TX8s kd mr h) (to1 : TX0s kd mr o1)
    (F : ((x5 < x6 → K true mi ml) ∧ (¬ x5 < x6 → c_X8_measure_47 l (d + 1) kd mr h o1 x3 x5 x6 0 mi ml K))) :
    c_X8_measure_37 l (d + 1) kd mr h o1 x3 x5 x6 mi ml K := by
  show wp l M_X8_measure (d + 1) 0 0 37 [some (.ref h), none, none, some (.long x3), none, some (.int x5), some (.int x6), none, none] [] 0 0 kd mi ml mr _
  refine wp_iload (pc := 37) dX8_measure_37 rfl ?_
  refine wp_iload (pc := 39) dX8_measure_39 rfl ?_
  refine wp_icmp_gt (tgt := 131) (pc := 41) dX8_measure_41 (by decide) (fun c5 => ?_) (fun c5 => ?_)
  · have F := F.1 c5
    refine wp_iconst (v := 1) (pc := 131) dX8_measure_131 (by decide) ?_
    exact r_Bx (pc := 132) dX8_measure_132 rfl rfl F
  · have F := F.2 c5
    refine wp_iconst (v := 0) (pc := 44) dX8_measure_44 (by decide) ?_
    refine wp_istore (pc := 45) dX8_measure_45 (Nat.le_of_ble_eq_true rfl) rfl ?_
    show wp l M_X8_measure (d + 1) 0 0 _ [some (.ref h), none, none, some (.long x3), none, some (.int x5), some (.int x6), some (.int 0), none] _ 0 0 kd _ _ mr _
    exact wp_less (L' := [some (.ref h), none, none, some (.long x3), none, some (.int x5), some (.int x6), some (.int 0), none]) ⟨rfl, ⟨rfl, ⟨rfl, ⟨rfl, ⟨rfl, trivial⟩⟩⟩⟩⟩ F
theorem w_X8_measure_47 {l : Launch} {d : Nat} {kd : pm_K} {mr : pm_R} {h : Nat} {o1 : Nat} {x3 : Int64} {x5 : Int32} {x6 : Int32} {x7 : Int32} {mi : pm_I} {ml : pm_L} {K : Bool → pm_I → pm_L → Prop} (th : TX8s kd mr h) (to1 : TX0s kd mr o1)
    (F : ((x6 < x7 → c_X8_measure_37 l (d + 1) kd mr h o1 x3 x5 (x6 + 1) mi ml K) ∧ (¬ x6 < x7 → vp_in x6 7 ∧ vp_in x7 7 ∧ wI l M_X8_fewestSteps d [.ref h, .long x3, .int (mi (h + 4) (Int32.toNatClampNeg x6)), .int (mi (h + 4) (Int32.toNatClampNeg x7))] kd mr mi ml (fun r7 mi8 ml9 => ((¬ r7 = (-1) → vp_in ((x6 * 7) + x7) 49 ∧ vp_in ((x7 * 7) + x6) 49 ∧ c_X8_measure_47 l (d + 1) kd mr h o1 x3 x5 x6 (x7 + 1) (pm_up (pm_up mi8 (h + 5) (Int32.toNatClampNeg ((x6 * 7) + x7)) r7) (h + 5) (Int32.toNatClampNeg ((x7 * 7) + x6)) r7) ml9 K) ∧ (r7 = (-1) → K false mi8 ml9)))))) :
    c_X8_measure_47 l (d + 1) kd mr h o1 x3 x5 x6 x7 mi ml K := by
  show wp l M_X8_measure (d + 1) 0 0 47 [some (.ref h), none, none, some (.long x3), none, some (.int x5), some (.int x6), some (.int x7), none] [] 0 0 kd mi ml mr _
  refine wp_iload (pc := 47) dX8_measure_47 rfl ?_
  refine wp_iload (pc := 49) dX8_measure_49 rfl ?_
  refine wp_icmp_gt (tgt := 125) (pc := 51) dX8_measure_51 (by decide) (fun c6 => ?_) (fun c6 => ?_)
  · have F := F.1 c6
    refine wp_iinc (v := (x6 + 1)) (pc := 125) dX8_measure_125 rfl rfl rfl ?_
    show wp l M_X8_measure (d + 1) 0 0 _ [some (.ref h), none, none, some (.long x3), none, some (.int x5), some (.int (x6 + 1)), some (.int x7), none] _ 0 0 kd _ _ mr _
    refine wp_goto (tgt := 37) (pc := 128) dX8_measure_128 (by decide) ?_
    exact wp_less (L' := [some (.ref h), none, none, some (.long x3), none, some (.int x5), some (.int (x6 + 1)), none, none]) ⟨rfl, ⟨rfl, ⟨rfl, ⟨rfl, trivial⟩⟩⟩⟩ F
  · have F := F.2 c6
    refine wp_aload_n (pc := 54) dX8_measure_54 rfl ?_
    refine wp_lload_n (pc := 55) dX8_measure_55 rfl ?_
    refine wp_aload_n (pc := 56) dX8_measure_56 rfl ?_
    refine wp_getR (pc := 57) dX8_measure_57 fl_X8_22 rfl (TX8s_k th) (TX8s_r5 th) ?_
    refine wp_iload (pc := 60) dX8_measure_60 rfl ?_
    refine wp_iald (pc := 62) dX8_measure_62 (TX8s_a5 th) F.1 ?_
    have F := F.2
    refine wp_aload_n (pc := 63) dX8_measure_63 rfl ?_
    refine wp_getR (pc := 64) dX8_measure_64 fl_X8_22 rfl (TX8s_k th) (TX8s_r5 th) ?_
    refine wp_iload (pc := 67) dX8_measure_67 rfl ?_
    refine wp_iald (pc := 69) dX8_measure_69 (TX8s_a5 th) F.1 ?_
    have F := F.2
    refine cvI [.long x3, .int (mi (h + 4) (Int32.toNatClampNeg x6)), .int (mi (h + 4) (Int32.toNatClampNeg x7))] [] (pc := 70) dX8_measure_70 ml_X8_132 iv_X8_fewestSteps (TX8s_k th) (cl_X8 rfl) rfl rfl (Nat.le_of_ble_eq_true rfl) (Nat.le_of_ble_eq_true rfl) (wI.mono (fun r7 mi8 ml9 F => ?_) F)
    refine wp_istore (pc := 73) dX8_measure_73 (Nat.le_of_ble_eq_true rfl) rfl ?_
    show wp l M_X8_measure (d + 1) 0 0 _ [some (.ref h), none, none, some (.long x3), none, some (.int x5), some (.int x6), some (.int x7), some (.int r7)] _ 0 0 kd _ _ mr _
    refine wp_iload (pc := 75) dX8_measure_75 rfl ?_
    refine wp_iconst (v := -1) (pc := 77) dX8_measure_77 (by decide) ?_
    refine wp_icmp_ne (tgt := 83) (pc := 78) dX8_measure_78 (by decide) (fun c10 => ?_) (fun c10 => ?_)
    · have F := F.1 c10
      refine wp_aload_n (pc := 83) dX8_measure_83 rfl ?_
      refine wp_getR (pc := 84) dX8_measure_84 fl_X8_25 rfl (TX8s_k th) (TX8s_r6 th) ?_
      refine wp_iload (pc := 87) dX8_measure_87 rfl ?_
      refine wp_aload_n (pc := 89) dX8_measure_89 rfl ?_
      refine wp_getR (pc := 90) dX8_measure_90 fl_X8_22 rfl (TX8s_k th) (TX8s_r5 th) ?_
      refine wp_alen (v := 7) (pc := 93) dX8_measure_93 (by decide) (TX8s_a5 th) rfl ?_
      refine wp_imul (pc := 94) dX8_measure_94 ?_
      refine wp_iload (pc := 95) dX8_measure_95 rfl ?_
      refine wp_iadd (pc := 97) dX8_measure_97 ?_
      refine wp_iload (pc := 98) dX8_measure_98 rfl ?_
      refine wp_iast (pc := 100) dX8_measure_100 (TX8s_a6 th) F.1 ?_
      have F := F.2
      refine wp_aload_n (pc := 101) dX8_measure_101 rfl ?_
      refine wp_getR (pc := 102) dX8_measure_102 fl_X8_25 rfl (TX8s_k th) (TX8s_r6 th) ?_
      refine wp_iload (pc := 105) dX8_measure_105 rfl ?_
      refine wp_aload_n (pc := 107) dX8_measure_107 rfl ?_
      refine wp_getR (pc := 108) dX8_measure_108 fl_X8_22 rfl (TX8s_k th) (TX8s_r5 th) ?_
      refine wp_alen (v := 7) (pc := 111) dX8_measure_111 (by decide) (TX8s_a5 th) rfl ?_
      refine wp_imul (pc := 112) dX8_measure_112 ?_
      refine wp_iload (pc := 113) dX8_measure_113 rfl ?_
      refine wp_iadd (pc := 115) dX8_measure_115 ?_
      refine wp_iload (pc := 116) dX8_measure_116 rfl ?_
      refine wp_iast (pc := 118) dX8_measure_118 (TX8s_a6 th) F.1 ?_
      have F := F.2
      refine wp_iinc (v := (x7 + 1)) (pc := 119) dX8_measure_119 rfl rfl rfl ?_
      show wp l M_X8_measure (d + 1) 0 0 _ [some (.ref h), none, none, some (.long x3), none, some (.int x5), some (.int x6), some (.int (x7 + 1)), some (.int r7)] _ 0 0 kd _ _ mr _
      refine wp_goto (tgt := 47) (pc := 122) dX8_measure_122 (by decide) ?_
      exact wp_less (L' := [some (.ref h), none, none, some (.long x3), none, some (.int x5), some (.int x6), some (.int (x7 + 1)), none]) ⟨rfl, ⟨rfl, ⟨rfl, ⟨rfl, ⟨rfl, trivial⟩⟩⟩⟩⟩ F
    · have F := F.2 c10
      refine wp_iconst (v := 0) (pc := 81) dX8_measure_81 (by decide) ?_
      exact r_Bx (pc := 82) dX8_measure_82 rfl rfl F
/-- measure(LCityChords$City;I)Z -/
theorem w_X8_measure {l : Launch} {d : Nat} {kd : pm_K} {mr : pm_R} {h : Nat} {o1 : Nat} {x2 : Int32} {mi : pm_I} {ml : pm_L} {K : Bool → pm_I → pm_L → Prop} (th : TX8s kd mr h) (to1 : TX0s kd mr o1)
    (F : wL l M_X0_open d [.ref o1] kd mr mi ml (fun r1 mi2 ml3 => (¬ (0 : Int32) < 0 ∧ ¬ (0 : Int32) < 0 ∧ ¬ (mi2 o1 5) < 0 ∧ (Int32.toNatClampNeg (0 : Int32)) + (Int32.toNatClampNeg (mi2 o1 5)) ≤ 6 ∧ (Int32.toNatClampNeg (0 : Int32)) + (Int32.toNatClampNeg (mi2 o1 5)) ≤ 7) ∧ ∀ mi4 : pm_I, mi4 = (pm_ur mi2 (h + 4) (va_cpy (mi2 (o1 + 4)) (mi2 (h + 4)) (Int32.toNatClampNeg (0 : Int32)) (Int32.toNatClampNeg (0 : Int32)) (Int32.toNatClampNeg (mi2 o1 5)))) → vp_in (mi2 o1 5) 7 ∧ c_X8_measure_37 l (d + 1) kd mr h o1 r1 (mi2 o1 5) 0 (pm_up mi4 (h + 4) (Int32.toNatClampNeg (mi2 o1 5)) x2) ml3 K)) :
    wB l M_X8_measure (d + 1) [.ref h, .ref o1, .int x2] kd mr mi ml K := by
  show wp l M_X8_measure (d + 1) 0 0 0 [some (.ref h), some (.ref o1), some (.int x2), none, none, none, none, none, none] [] 0 0 kd mi ml mr _
  refine wp_aload_n (pc := 0) dX8_measure_0 rfl ?_
  refine cvL [] [] (pc := 1) dX8_measure_1 ml_X8_119 iv_X0_open (TX0s_k to1) (cl_X0 rfl) rfl rfl (Nat.le_of_ble_eq_true rfl) (Nat.le_of_ble_eq_true rfl) (wL.mono (fun r1 mi2 ml3 F => ?_) F)
  refine wp_lstore_n (pc := 4) dX8_measure_4 (Nat.le_of_ble_eq_true rfl) rfl ?_
  show wp l M_X8_measure (d + 1) 0 0 _ [some (.ref h), some (.ref o1), some (.int x2), some (.long r1), none, none, none, none, none] _ 0 0 kd _ _ mr _
  refine wp_aload_n (pc := 5) dX8_measure_5 rfl ?_
  refine wp_getI (pc := 6) dX8_measure_6 fl_X8_103 rfl (TX0s_k to1) ?_
  refine wp_istore (pc := 9) dX8_measure_9 (Nat.le_of_ble_eq_true rfl) rfl ?_
  show wp l M_X8_measure (d + 1) 0 0 _ [some (.ref h), some (.ref o1), some (.int x2), some (.long r1), none, some (.int (mi2 o1 5)), none, none, none] _ 0 0 kd _ _ mr _
  refine wp_aload_n (pc := 11) dX8_measure_11 rfl ?_
  refine wp_getR (pc := 12) dX8_measure_12 fl_X8_123 rfl (TX0s_k to1) (TX0s_r9 to1) ?_
  refine wp_iconst (v := 0) (pc := 15) dX8_measure_15 (by decide) ?_
  refine wp_aload_n (pc := 16) dX8_measure_16 rfl ?_
  refine wp_getR (pc := 17) dX8_measure_17 fl_X8_22 rfl (TX8s_k th) (TX8s_r5 th) ?_
  refine wp_iconst (v := 0) (pc := 20) dX8_measure_20 (by decide) ?_
  refine wp_iload (pc := 21) dX8_measure_21 rfl ?_
  refine wp_copy (pc := 23) dX8_measure_23 ⟨tb_5 220 rfl rfl, tb_2 233 rfl rfl, tb_2 232 rfl rfl, tb_1 16 rfl rfl⟩ (Nat.succ_pos d) (Nat.le_of_ble_eq_true rfl) (by decide) (TX0s_a9 to1) (TX8s_a5 th) F.1.1 F.1.2.1 F.1.2.2.1 F.1.2.2.2.1 F.1.2.2.2.2 ?_
  have F := F.2
  generalize emi4 : (pm_ur mi2 (h + 4) (va_cpy (mi2 (o1 + 4)) (mi2 (h + 4)) (Int32.toNatClampNeg (0 : Int32)) (Int32.toNatClampNeg (0 : Int32)) (Int32.toNatClampNeg (mi2 o1 5)))) = mi4
  have F := F mi4 emi4.symm
  refine wp_aload_n (pc := 26) dX8_measure_26 rfl ?_
  refine wp_getR (pc := 27) dX8_measure_27 fl_X8_22 rfl (TX8s_k th) (TX8s_r5 th) ?_
  refine wp_iload (pc := 30) dX8_measure_30 rfl ?_
  refine wp_iload_n (pc := 32) dX8_measure_32 rfl ?_
  refine wp_iast (pc := 33) dX8_measure_33 (TX8s_a5 th) F.1 ?_
  have F := F.2
  refine wp_iconst (v := 0) (pc := 34) dX8_measure_34 (by decide) ?_
  refine wp_istore (pc := 35) dX8_measure_35 (Nat.le_of_ble_eq_true rfl) rfl ?_
  show wp l M_X8_measure (d + 1) 0 0 _ [some (.ref h), some (.ref o1), some (.int x2), some (.long r1), none, some (.int (mi2 o1 5)), some (.int 0), none, none] _ 0 0 kd _ _ mr _
  exact wp_less (L' := [some (.ref h), none, none, some (.long r1), none, some (.int (mi2 o1 5)), some (.int 0), none, none]) ⟨rfl, ⟨rfl, ⟨rfl, ⟨rfl, trivial⟩⟩⟩⟩ F
def c_X8_shortestTo_102 (l : Launch) (d : Nat) (kd : pm_K) (mr : pm_R) (h : Nat) (x2 : Int32) (x3 : Int32) (x4 : Int32) (x5 : Int32) (x6 : Int32) (mi : pm_I) (ml : pm_L) (K : Int32 → pm_I → pm_L → Prop) : Prop := wp l M_X8_shortestTo d 0 0 102 [some (.ref h), none, some (.int x2), some (.int x3), some (.int x4), some (.int x5), some (.int x6), none] [] 0 0 kd mi ml mr (qI kd mr K)
def c_X8_shortestTo_100 (l : Launch) (d : Nat) (kd : pm_K) (mr : pm_R) (h : Nat) (x2 : Int32) (x3 : Int32) (x4 : Int32) (x6 : Int32) (s0 : Int32) (mi : pm_I) (ml : pm_L) (K : Int32 → pm_I → pm_L → Prop) : Prop := wp l M_X8_shortestTo d 0 0 100 [some (.ref h), none, some (.int x2), some (.int x3), some (.int x4), none, some (.int x6), none] [.int s0] 0 0 kd mi ml mr (qI kd mr K)
def c_X8_shortestTo_35 (l : Launch) (d : Nat) (kd : pm_K) (mr : pm_R) (h : Nat) (x2 : Int32) (x3 : Int32) (x4 : Int32) (x5 : Int32) (x6 : Int32) (mi : pm_I) (ml : pm_L) (K : Int32 → pm_I → pm_L → Prop) : Prop := wp l M_X8_shortestTo d 0 0 35 [some (.ref h), none, some (.int x2), some (.int x3), some (.int x4), some (.int x5), some (.int x6), none] [] 0 0 kd mi ml mr (qI kd mr K)
theorem w_X8_shortestTo_35 {l : Launch} {d : Nat} {kd : pm_K} {mr : pm_R} {h : Nat} {x2 : Int32} {x3 : Int32} {x4 : Int32} {x5 : Int32} {x6 : Int32} {mi : pm_I} {ml : pm_L} {K : Int32 → pm_I → pm_L → Prop} (th : TX8s kd mr h)
    (F : ((x3 ≤ x6 → K x5 mi ml) ∧ (¬ x3 ≤ x6 → ((((x4 >>> (x6 &&& 31)) &&& 1) = 0 → c_X8_shortestTo_102 l (d + 1) kd mr h x2 x3 x4 x5 x6 mi ml K) ∧ (¬ ((x4 >>> (x6 &&& 31)) &&& 1) = 0 → vp_in ((x4 * 6) + x6) 384 ∧ vp_in ((x6 * 7) + x2) 49 ∧ ((¬ x5 = (-1) → c_X8_shortestTo_100 l (d + 1) kd mr h x2 x3 x4 x6 (if ((mi (h + 6) (Int32.toNatClampNeg ((x4 * 6) + x6))) + (mi (h + 5) (Int32.toNatClampNeg ((x6 * 7) + x2)))) < x5 then ((mi (h + 6) (Int32.toNatClampNeg ((x4 * 6) + x6))) + (mi (h + 5) (Int32.toNatClampNeg ((x6 * 7) + x2)))) else x5) mi ml K) ∧ (x5 = (-1) → c_X8_shortestTo_100 l (d + 1) kd mr h x2 x3 x4 x6 ((mi (h + 6) (Int32.toNatClampNeg ((x4 * 6) + x6))) + (mi (h + 5) (Int32.toNatClampNeg ((x6 * 7) + x2)))) mi ml K))))))) :
    c_X8_shortestTo_35 l (d + 1) kd mr h x2 x3 x4 x5 x6 mi ml K := by
  show wp l M_X8_shortestTo (d + 1) 0 0 35 [some (.ref h), none, some (.int x2), some (.int x3), some (.int x4), some (.int x5), some (.int x6), none] [] 0 0 kd mi ml mr _
  refine wp_iload (pc := 35) dX8_shortestTo_35 rfl ?_
  refine wp_iload_n (pc := 37) dX8_shortestTo_37 rfl ?_
  refine wp_icmp_ge (tgt := 108) (pc := 38) dX8_shortestTo_38 (by decide) (fun c2 => ?_) (fun c2 => ?_)
  · have F := F.1 c2
    refine wp_iload (pc := 108) dX8_shortestTo_108 rfl ?_
    exact r_I (pc := 110) dX8_shortestTo_110 rfl F
  · have F := F.2 c2
    refine wp_iload (pc := 41) dX8_shortestTo_41 rfl ?_
    refine wp_iload (pc := 43) dX8_shortestTo_43 rfl ?_
    refine wp_ishr (pc := 45) dX8_shortestTo_45 ?_
    refine wp_iconst (v := 1) (pc := 46) dX8_shortestTo_46 (by decide) ?_
    refine wp_iand (pc := 47) dX8_shortestTo_47 ?_
    refine wp_if_eq (tgt := 102) (pc := 48) dX8_shortestTo_48 (by decide) (fun c3 => ?_) (fun c3 => ?_)
    · have F := F.1 c3
      exact wp_less (L' := [some (.ref h), none, some (.int x2), some (.int x3), some (.int x4), some (.int x5), some (.int x6), none]) ⟨rfl, ⟨rfl, ⟨rfl, ⟨rfl, ⟨rfl, ⟨rfl, trivial⟩⟩⟩⟩⟩⟩ F
    · have F := F.2 c3
      refine wp_aload_n (pc := 51) dX8_shortestTo_51 rfl ?_
      refine wp_getR (pc := 52) dX8_shortestTo_52 fl_X8_28 rfl (TX8s_k th) (TX8s_r7 th) ?_
      refine wp_iload (pc := 55) dX8_shortestTo_55 rfl ?_
      refine wp_bipush (v := 6) (pc := 57) dX8_shortestTo_57 (by decide) ?_
      refine wp_imul (pc := 59) dX8_shortestTo_59 ?_
      refine wp_iload (pc := 60) dX8_shortestTo_60 rfl ?_
      refine wp_iadd (pc := 62) dX8_shortestTo_62 ?_
      refine wp_iald (pc := 63) dX8_shortestTo_63 (TX8s_a7 th) F.1 ?_
      have F := F.2
      refine wp_aload_n (pc := 64) dX8_shortestTo_64 rfl ?_
      refine wp_getR (pc := 65) dX8_shortestTo_65 fl_X8_25 rfl (TX8s_k th) (TX8s_r6 th) ?_
      refine wp_iload (pc := 68) dX8_shortestTo_68 rfl ?_
      refine wp_aload_n (pc := 70) dX8_shortestTo_70 rfl ?_
      refine wp_getR (pc := 71) dX8_shortestTo_71 fl_X8_22 rfl (TX8s_k th) (TX8s_r5 th) ?_
      refine wp_alen (v := 7) (pc := 74) dX8_shortestTo_74 (by decide) (TX8s_a5 th) rfl ?_
      refine wp_imul (pc := 75) dX8_shortestTo_75 ?_
      refine wp_iload_n (pc := 76) dX8_shortestTo_76 rfl ?_
      refine wp_iadd (pc := 77) dX8_shortestTo_77 ?_
      refine wp_iald (pc := 78) dX8_shortestTo_78 (TX8s_a6 th) F.1 ?_
      have F := F.2
      refine wp_iadd (pc := 79) dX8_shortestTo_79 ?_
      refine wp_istore (pc := 80) dX8_shortestTo_80 (Nat.le_of_ble_eq_true rfl) rfl ?_
      show wp l M_X8_shortestTo (d + 1) 0 0 _ [some (.ref h), none, some (.int x2), some (.int x3), some (.int x4), some (.int x5), some (.int x6), some (.int ((mi (h + 6) (Int32.toNatClampNeg ((x4 * 6) + x6))) + (mi (h + 5) (Int32.toNatClampNeg ((x6 * 7) + x2)))))] _ 0 0 kd _ _ mr _
      refine wp_iload (pc := 82) dX8_shortestTo_82 rfl ?_
      refine wp_iconst (v := -1) (pc := 84) dX8_shortestTo_84 (by decide) ?_
      refine wp_icmp_ne (tgt := 93) (pc := 85) dX8_shortestTo_85 (by decide) (fun c4 => ?_) (fun c4 => ?_)
      · have F := F.1 c4
        refine wp_iload (pc := 93) dX8_shortestTo_93 rfl ?_
        refine wp_iload (pc := 95) dX8_shortestTo_95 rfl ?_
        refine wp_min (pc := 97) dX8_shortestTo_97 ⟨tb_5 226 rfl rfl, tb_2 149 rfl rfl, tb_1 14 rfl rfl, tb_2 150 rfl rfl⟩ (Nat.succ_pos d) (Nat.le_of_ble_eq_true rfl) ⟨Nat.le_refl 0, Nat.le_refl 0⟩ ?_
        exact wp_less (L' := [some (.ref h), none, some (.int x2), some (.int x3), some (.int x4), none, some (.int x6), none]) ⟨rfl, ⟨rfl, ⟨rfl, ⟨rfl, ⟨rfl, trivial⟩⟩⟩⟩⟩ F
      · have F := F.2 c4
        refine wp_iload (pc := 88) dX8_shortestTo_88 rfl ?_
        refine wp_goto (tgt := 100) (pc := 90) dX8_shortestTo_90 (by decide) ?_
        exact wp_less (L' := [some (.ref h), none, some (.int x2), some (.int x3), some (.int x4), none, some (.int x6), none]) ⟨rfl, ⟨rfl, ⟨rfl, ⟨rfl, ⟨rfl, trivial⟩⟩⟩⟩⟩ F
theorem w_X8_shortestTo_100 {l : Launch} {d : Nat} {kd : pm_K} {mr : pm_R} {h : Nat} {x2 : Int32} {x3 : Int32} {x4 : Int32} {x6 : Int32} {s0 : Int32} {mi : pm_I} {ml : pm_L} {K : Int32 → pm_I → pm_L → Prop} (th : TX8s kd mr h)
    (F : c_X8_shortestTo_102 l (d + 1) kd mr h x2 x3 x4 s0 x6 mi ml K) :
    c_X8_shortestTo_100 l (d + 1) kd mr h x2 x3 x4 x6 s0 mi ml K := by
  show wp l M_X8_shortestTo (d + 1) 0 0 100 [some (.ref h), none, some (.int x2), some (.int x3), some (.int x4), none, some (.int x6), none] [.int s0] 0 0 kd mi ml mr _
  refine wp_istore (pc := 100) dX8_shortestTo_100 (Nat.le_of_ble_eq_true rfl) rfl ?_
  show wp l M_X8_shortestTo (d + 1) 0 0 _ [some (.ref h), none, some (.int x2), some (.int x3), some (.int x4), some (.int s0), some (.int x6), none] _ 0 0 kd _ _ mr _
  exact wp_less (L' := [some (.ref h), none, some (.int x2), some (.int x3), some (.int x4), some (.int s0), some (.int x6), none]) ⟨rfl, ⟨rfl, ⟨rfl, ⟨rfl, ⟨rfl, ⟨rfl, trivial⟩⟩⟩⟩⟩⟩ F
theorem w_X8_shortestTo_102 {l : Launch} {d : Nat} {kd : pm_K} {mr : pm_R} {h : Nat} {x2 : Int32} {x3 : Int32} {x4 : Int32} {x5 : Int32} {x6 : Int32} {mi : pm_I} {ml : pm_L} {K : Int32 → pm_I → pm_L → Prop} (th : TX8s kd mr h)
    (F : c_X8_shortestTo_35 l (d + 1) kd mr h x2 x3 x4 x5 (x6 + 1) mi ml K) :
    c_X8_shortestTo_102 l (d + 1) kd mr h x2 x3 x4 x5 x6 mi ml K := by
  show wp l M_X8_shortestTo (d + 1) 0 0 102 [some (.ref h), none, some (.int x2), some (.int x3), some (.int x4), some (.int x5), some (.int x6), none] [] 0 0 kd mi ml mr _
  refine wp_iinc (v := (x6 + 1)) (pc := 102) dX8_shortestTo_102 rfl rfl rfl ?_
  show wp l M_X8_shortestTo (d + 1) 0 0 _ [some (.ref h), none, some (.int x2), some (.int x3), some (.int x4), some (.int x5), some (.int (x6 + 1)), none] _ 0 0 kd _ _ mr _
  refine wp_goto (tgt := 35) (pc := 105) dX8_shortestTo_105 (by decide) ?_
  exact wp_less (L' := [some (.ref h), none, some (.int x2), some (.int x3), some (.int x4), some (.int x5), some (.int (x6 + 1)), none]) ⟨rfl, ⟨rfl, ⟨rfl, ⟨rfl, ⟨rfl, ⟨rfl, trivial⟩⟩⟩⟩⟩⟩ F
/-- shortestTo(III)I -/
theorem w_X8_shortestTo {l : Launch} {d : Nat} {kd : pm_K} {mr : pm_R} {h : Nat} {x1 : Int32} {x2 : Int32} {x3 : Int32} {mi : pm_I} {ml : pm_L} {K : Int32 → pm_I → pm_L → Prop} (th : TX8s kd mr h)
    (F : ((¬ (x1 &&& (((1 : Int32) <<< (x2 &&& 31)) ^^^ (-1))) = 0 → c_X8_shortestTo_35 l (d + 1) kd mr h x2 x3 (x1 &&& (((1 : Int32) <<< (x2 &&& 31)) ^^^ (-1))) (-1) 0 mi ml K) ∧ ((x1 &&& (((1 : Int32) <<< (x2 &&& 31)) ^^^ (-1))) = 0 → vp_in ((x3 * 7) + x2) 49 ∧ K (mi (h + 5) (Int32.toNatClampNeg ((x3 * 7) + x2))) mi ml))) :
    wI l M_X8_shortestTo (d + 1) [.ref h, .int x1, .int x2, .int x3] kd mr mi ml K := by
  show wp l M_X8_shortestTo (d + 1) 0 0 0 [some (.ref h), some (.int x1), some (.int x2), some (.int x3), none, none, none, none] [] 0 0 kd mi ml mr _
  refine wp_iload_n (pc := 0) dX8_shortestTo_0 rfl ?_
  refine wp_iconst (v := 1) (pc := 1) dX8_shortestTo_1 (by decide) ?_
  refine wp_iload_n (pc := 2) dX8_shortestTo_2 rfl ?_
  refine wp_ishl (pc := 3) dX8_shortestTo_3 ?_
  refine wp_iconst (v := -1) (pc := 4) dX8_shortestTo_4 (by decide) ?_
  refine wp_ixor (pc := 5) dX8_shortestTo_5 ?_
  refine wp_iand (pc := 6) dX8_shortestTo_6 ?_
  refine wp_istore (pc := 7) dX8_shortestTo_7 (Nat.le_of_ble_eq_true rfl) rfl ?_
  show wp l M_X8_shortestTo (d + 1) 0 0 _ [some (.ref h), some (.int x1), some (.int x2), some (.int x3), some (.int (x1 &&& (((1 : Int32) <<< (x2 &&& 31)) ^^^ (-1)))), none, none, none] _ 0 0 kd _ _ mr _
  refine wp_iload (pc := 9) dX8_shortestTo_9 rfl ?_
  refine wp_if_ne (tgt := 29) (pc := 11) dX8_shortestTo_11 (by decide) (fun c1 => ?_) (fun c1 => ?_)
  · have F := F.1 c1
    refine wp_iconst (v := -1) (pc := 29) dX8_shortestTo_29 (by decide) ?_
    refine wp_istore (pc := 30) dX8_shortestTo_30 (Nat.le_of_ble_eq_true rfl) rfl ?_
    show wp l M_X8_shortestTo (d + 1) 0 0 _ [some (.ref h), some (.int x1), some (.int x2), some (.int x3), some (.int (x1 &&& (((1 : Int32) <<< (x2 &&& 31)) ^^^ (-1)))), some (.int (-1)), none, none] _ 0 0 kd _ _ mr _
    refine wp_iconst (v := 0) (pc := 32) dX8_shortestTo_32 (by decide) ?_
    refine wp_istore (pc := 33) dX8_shortestTo_33 (Nat.le_of_ble_eq_true rfl) rfl ?_
    show wp l M_X8_shortestTo (d + 1) 0 0 _ [some (.ref h), some (.int x1), some (.int x2), some (.int x3), some (.int (x1 &&& (((1 : Int32) <<< (x2 &&& 31)) ^^^ (-1)))), some (.int (-1)), some (.int 0), none] _ 0 0 kd _ _ mr _
    exact wp_less (L' := [some (.ref h), none, some (.int x2), some (.int x3), some (.int (x1 &&& (((1 : Int32) <<< (x2 &&& 31)) ^^^ (-1)))), some (.int (-1)), some (.int 0), none]) ⟨rfl, ⟨rfl, ⟨rfl, ⟨rfl, ⟨rfl, ⟨rfl, trivial⟩⟩⟩⟩⟩⟩ F
  · have F := F.2 c1
    refine wp_aload_n (pc := 14) dX8_shortestTo_14 rfl ?_
    refine wp_getR (pc := 15) dX8_shortestTo_15 fl_X8_25 rfl (TX8s_k th) (TX8s_r6 th) ?_
    refine wp_iload_n (pc := 18) dX8_shortestTo_18 rfl ?_
    refine wp_aload_n (pc := 19) dX8_shortestTo_19 rfl ?_
    refine wp_getR (pc := 20) dX8_shortestTo_20 fl_X8_22 rfl (TX8s_k th) (TX8s_r5 th) ?_
    refine wp_alen (v := 7) (pc := 23) dX8_shortestTo_23 (by decide) (TX8s_a5 th) rfl ?_
    refine wp_imul (pc := 24) dX8_shortestTo_24 ?_
    refine wp_iload_n (pc := 25) dX8_shortestTo_25 rfl ?_
    refine wp_iadd (pc := 26) dX8_shortestTo_26 ?_
    refine wp_iald (pc := 27) dX8_shortestTo_27 (TX8s_a6 th) F.1 ?_
    have F := F.2
    exact r_I (pc := 28) dX8_shortestTo_28 rfl F
