/-! block lemmas, by program (gen/mkw.py) -/
/-- feed(IIIII)I -/
theorem w_X12_feed {l : Launch} {d : Nat} {kd : pm_K} {mr : pm_R} {h : Nat} {x1 : Int32} {x2 : Int32} {x3 : Int32} {x4 : Int32} {x5 : Int32} {mi : pm_I} {ml : pm_L} {K : Int32 → pm_I → pm_L → Prop} (th : TX12s kd mr h)
    (F : ((((mi (h + 2) (Int32.toNatClampNeg 0)) + 20) ≤ 600 → wV l M_X12_four d [.ref h, .int x1] kd mr (pm_up mi h 0 0) ml (fun mi3 ml4 => wV l M_X12_four d [.ref h, .int x2] kd mr mi3 ml4 (fun mi6 ml7 => wV l M_X12_four d [.ref h, .int x3] kd mr mi6 ml7 (fun mi9 ml10 => wV l M_X12_four d [.ref h, .int x4] kd mr mi9 ml10 (fun mi12 ml13 => wV l M_X12_four d [.ref h, .int x5] kd mr mi12 ml13 (fun mi15 ml16 => K (mi15 (h + 2) (Int32.toNatClampNeg 0)) mi15 ml16)))))) ∧ (¬ ((mi (h + 2) (Int32.toNatClampNeg 0)) + 20) ≤ 600 → K (-1) (pm_up mi h 0 0) ml))) :
    wI l M_X12_feed (d + 1) [.ref h, .int x1, .int x2, .int x3, .int x4, .int x5] kd mr mi ml K := by
  show wp l M_X12_feed (d + 1) 0 0 0 [some (.ref h), some (.int x1), some (.int x2), some (.int x3), some (.int x4), some (.int x5)] [] 0 0 kd mi ml mr _
  refine wp_aload_n (pc := 0) dX12_feed_0 rfl ?_
  refine wp_iconst (v := 0) (pc := 1) dX12_feed_1 (by decide) ?_
  refine wp_putI (pc := 2) dX12_feed_2 fl_X12_107 rfl rfl (TX12s_k th) ?_
  refine wp_aload_n (pc := 5) dX12_feed_5 rfl ?_
  refine wp_getR (pc := 6) dX12_feed_6 fl_X12_13 rfl (TX12s_k th) (TX12s_r2 th) ?_
  refine wp_iconst (v := 0) (pc := 9) dX12_feed_9 (by decide) ?_
  refine wp_iald (pc := 10) dX12_feed_10 (TX12s_a2 th) (vp_dec (by decide)) ?_
  refine t_I (show ((pm_up mi h 0 0) (h + 2) (Int32.toNatClampNeg 0)) = (mi (h + 2) (Int32.toNatClampNeg 0)) from pm_up_k _ _ (by omega)) ?_
  refine wp_bipush (v := 20) (pc := 11) dX12_feed_11 (by decide) ?_
  refine wp_iadd (pc := 13) dX12_feed_13 ?_
  refine wp_sipush (v := 600) (pc := 14) dX12_feed_14 (by decide) ?_
  refine wp_icmp_le (tgt := 22) (pc := 17) dX12_feed_17 (by decide) (fun c1 => ?_) (fun c1 => ?_)
  · have F := F.1 c1
    refine wp_aload_n (pc := 22) dX12_feed_22 rfl ?_
    refine wp_iload_n (pc := 23) dX12_feed_23 rfl ?_
    refine cvV [.int x1] [] (pc := 24) dX12_feed_24 ml_X12_123 iv_X12_four (TX12s_k th) (cl_X12 rfl) rfl rfl (Nat.le_of_ble_eq_true rfl) (Nat.le_of_ble_eq_true rfl) (wV.mono (fun mi3 ml4 F => ?_) F)
    refine wp_aload_n (pc := 27) dX12_feed_27 rfl ?_
    refine wp_iload_n (pc := 28) dX12_feed_28 rfl ?_
    refine cvV [.int x2] [] (pc := 29) dX12_feed_29 ml_X12_123 iv_X12_four (TX12s_k th) (cl_X12 rfl) rfl rfl (Nat.le_of_ble_eq_true rfl) (Nat.le_of_ble_eq_true rfl) (wV.mono (fun mi6 ml7 F => ?_) F)
    refine wp_aload_n (pc := 32) dX12_feed_32 rfl ?_
    refine wp_iload_n (pc := 33) dX12_feed_33 rfl ?_
    refine cvV [.int x3] [] (pc := 34) dX12_feed_34 ml_X12_123 iv_X12_four (TX12s_k th) (cl_X12 rfl) rfl rfl (Nat.le_of_ble_eq_true rfl) (Nat.le_of_ble_eq_true rfl) (wV.mono (fun mi9 ml10 F => ?_) F)
    refine wp_aload_n (pc := 37) dX12_feed_37 rfl ?_
    refine wp_iload (pc := 38) dX12_feed_38 rfl ?_
    refine cvV [.int x4] [] (pc := 40) dX12_feed_40 ml_X12_123 iv_X12_four (TX12s_k th) (cl_X12 rfl) rfl rfl (Nat.le_of_ble_eq_true rfl) (Nat.le_of_ble_eq_true rfl) (wV.mono (fun mi12 ml13 F => ?_) F)
    refine wp_aload_n (pc := 43) dX12_feed_43 rfl ?_
    refine wp_iload (pc := 44) dX12_feed_44 rfl ?_
    refine cvV [.int x5] [] (pc := 46) dX12_feed_46 ml_X12_123 iv_X12_four (TX12s_k th) (cl_X12 rfl) rfl rfl (Nat.le_of_ble_eq_true rfl) (Nat.le_of_ble_eq_true rfl) (wV.mono (fun mi15 ml16 F => ?_) F)
    refine wp_aload_n (pc := 49) dX12_feed_49 rfl ?_
    refine wp_getR (pc := 50) dX12_feed_50 fl_X12_13 rfl (TX12s_k th) (TX12s_r2 th) ?_
    refine wp_iconst (v := 0) (pc := 53) dX12_feed_53 (by decide) ?_
    refine wp_iald (pc := 54) dX12_feed_54 (TX12s_a2 th) (vp_dec (by decide)) ?_
    exact r_I (pc := 55) dX12_feed_55 rfl F
  · have F := F.2 c1
    refine wp_iconst (v := -1) (pc := 20) dX12_feed_20 (by decide) ?_
    exact r_I (pc := 21) dX12_feed_21 rfl F
def c_X12_four_3 (l : Launch) (d : Nat) (kd : pm_K) (mr : pm_R) (h : Nat) (x1 : Int32) (x2 : Int32) (mi : pm_I) (ml : pm_L) (K : pm_I → pm_L → Prop) : Prop := wp l M_X12_four d 0 0 3 [some (.ref h), some (.int x1), some (.int x2)] [] 0 0 kd mi ml mr (qV kd mr K)
theorem w_X12_four_3 {l : Launch} {d : Nat} {kd : pm_K} {mr : pm_R} {h : Nat} {x1 : Int32} {x2 : Int32} {mi : pm_I} {ml : pm_L} {K : pm_I → pm_L → Prop} (th : TX12s kd mr h)
    (F : ((x2 < 0 → K mi ml) ∧ (¬ x2 < 0 → vp_in (mi (h + 2) (Int32.toNatClampNeg 0)) 2400 ∧ c_X12_four_3 l d kd mr h x1 (x2 + (-8)) (pm_up (pm_up mi (h + 1) (Int32.toNatClampNeg (mi (h + 2) (Int32.toNatClampNeg 0))) ((Int32.toInt8 ((Int32.toInt8 (x1 >>> (x2 &&& 31))).toInt32)).toInt32)) (h + 2) (Int32.toNatClampNeg 0) ((mi (h + 2) (Int32.toNatClampNeg 0)) + 1)) ml K))) :
    c_X12_four_3 l d kd mr h x1 x2 mi ml K := by
  show wp l M_X12_four d 0 0 3 [some (.ref h), some (.int x1), some (.int x2)] [] 0 0 kd mi ml mr _
  refine wp_iload_n (pc := 3) dX12_four_3 rfl ?_
  refine wp_if_lt (tgt := 38) (pc := 4) dX12_four_4 (by decide) (fun c1 => ?_) (fun c1 => ?_)
  · have F := F.1 c1
    exact r_V (pc := 38) dX12_four_38 rfl F
  · have F := F.2 c1
    refine wp_aload_n (pc := 7) dX12_four_7 rfl ?_
    refine wp_getR (pc := 8) dX12_four_8 fl_X12_7 rfl (TX12s_k th) (TX12s_r1 th) ?_
    refine wp_aload_n (pc := 11) dX12_four_11 rfl ?_
    refine wp_getR (pc := 12) dX12_four_12 fl_X12_13 rfl (TX12s_k th) (TX12s_r2 th) ?_
    refine wp_iconst (v := 0) (pc := 15) dX12_four_15 (by decide) ?_
    refine wp_iald (pc := 16) dX12_four_16 (TX12s_a2 th) (vp_dec (by decide)) ?_
    refine wp_iload_n (pc := 17) dX12_four_17 rfl ?_
    refine wp_iload_n (pc := 18) dX12_four_18 rfl ?_
    refine wp_ishr (pc := 19) dX12_four_19 ?_
    refine wp_i2b (pc := 20) dX12_four_20 ?_
    refine wp_bast (pc := 21) dX12_four_21 (TX12s_a1 th) F.1 ?_
    have F := F.2
    refine wp_aload_n (pc := 22) dX12_four_22 rfl ?_
    refine wp_getR (pc := 23) dX12_four_23 fl_X12_13 rfl (TX12s_k th) (TX12s_r2 th) ?_
    refine wp_iconst (v := 0) (pc := 26) dX12_four_26 (by decide) ?_
    refine wp_dup2 (pc := 27) dX12_four_27 rfl rfl ?_
    refine wp_iald (pc := 28) dX12_four_28 (TX12s_a2 th) (vp_dec (by decide)) ?_
    refine t_I (show ((pm_up mi (h + 1) (Int32.toNatClampNeg (mi (h + 2) (Int32.toNatClampNeg 0))) ((Int32.toInt8 ((Int32.toInt8 (x1 >>> (x2 &&& 31))).toInt32)).toInt32)) (h + 2) (Int32.toNatClampNeg 0)) = (mi (h + 2) (Int32.toNatClampNeg 0)) from pm_up_k _ _ (by omega)) ?_
    refine wp_iconst (v := 1) (pc := 29) dX12_four_29 (by decide) ?_
    refine wp_iadd (pc := 30) dX12_four_30 ?_
    refine wp_iast (pc := 31) dX12_four_31 (TX12s_a2 th) (vp_dec (by decide)) ?_
    refine wp_iinc (v := (x2 + (-8))) (pc := 32) dX12_four_32 rfl rfl rfl ?_
    show wp l M_X12_four d 0 0 _ [some (.ref h), some (.int x1), some (.int (x2 + (-8)))] _ 0 0 kd _ _ mr _
    refine wp_goto (tgt := 3) (pc := 35) dX12_four_35 (by decide) ?_
    exact wp_less (L' := [some (.ref h), some (.int x1), some (.int (x2 + (-8)))]) ⟨rfl, ⟨rfl, ⟨rfl, trivial⟩⟩⟩ F
/-- four(I)V -/
theorem w_X12_four {l : Launch} {d : Nat} {kd : pm_K} {mr : pm_R} {h : Nat} {x1 : Int32} {mi : pm_I} {ml : pm_L} {K : pm_I → pm_L → Prop} (th : TX12s kd mr h)
    (F : c_X12_four_3 l d kd mr h x1 24 mi ml K) :
    wV l M_X12_four d [.ref h, .int x1] kd mr mi ml K := by
  show wp l M_X12_four d 0 0 0 [some (.ref h), some (.int x1), none] [] 0 0 kd mi ml mr _
  refine wp_bipush (v := 24) (pc := 0) dX12_four_0 (by decide) ?_
  refine wp_istore_n (pc := 2) dX12_four_2 (Nat.le_of_ble_eq_true rfl) rfl ?_
  show wp l M_X12_four d 0 0 _ [some (.ref h), some (.int x1), some (.int 24)] _ 0 0 kd _ _ mr _
  exact wp_less (L' := [some (.ref h), some (.int x1), some (.int 24)]) ⟨rfl, ⟨rfl, ⟨rfl, trivial⟩⟩⟩ F
/-- end(I)I -/
theorem w_X12_end {l : Launch} {d : Nat} {kd : pm_K} {mr : pm_R} {h : Nat} {x1 : Int32} {mi : pm_I} {ml : pm_L} {K : Int32 → pm_I → pm_L → Prop} (th : TX12s kd mr h)
    (F : wB l M_X12_in d [.int x1, .int 0, .int (mi (h + 2) (Int32.toNatClampNeg 0))] kd mr (pm_up mi h 0 0) ml (fun r1 mi2 ml3 => ((r1 = true → K x1 (pm_up mi2 (h + 2) (Int32.toNatClampNeg 0) x1) ml3) ∧ (r1 = false → K (-1) mi2 ml3)))) :
    wI l M_X12_end (d + 1) [.ref h, .int x1] kd mr mi ml K := by
  show wp l M_X12_end (d + 1) 0 0 0 [some (.ref h), some (.int x1)] [] 0 0 kd mi ml mr _
  refine wp_aload_n (pc := 0) dX12_end_0 rfl ?_
  refine wp_iconst (v := 0) (pc := 1) dX12_end_1 (by decide) ?_
  refine wp_putI (pc := 2) dX12_end_2 fl_X12_107 rfl rfl (TX12s_k th) ?_
  refine wp_iload_n (pc := 5) dX12_end_5 rfl ?_
  refine wp_iconst (v := 0) (pc := 6) dX12_end_6 (by decide) ?_
  refine wp_aload_n (pc := 7) dX12_end_7 rfl ?_
  refine wp_getR (pc := 8) dX12_end_8 fl_X12_13 rfl (TX12s_k th) (TX12s_r2 th) ?_
  refine wp_iconst (v := 0) (pc := 11) dX12_end_11 (by decide) ?_
  refine wp_iald (pc := 12) dX12_end_12 (TX12s_a2 th) (vp_dec (by decide)) ?_
  refine t_I (show ((pm_up mi h 0 0) (h + 2) (Int32.toNatClampNeg 0)) = (mi (h + 2) (Int32.toNatClampNeg 0)) from pm_up_k _ _ (by omega)) ?_
  refine csB [.int x1, .int 0, .int (mi (h + 2) (Int32.toNatClampNeg 0))] [] (pc := 13) dX12_end_13 ml_X12_119 st_X12_in rfl rfl (Nat.le_of_ble_eq_true rfl) (Nat.le_of_ble_eq_true rfl) (wB.mono (fun r1 mi2 ml3 F => ?_) F)
  refine b_ne (tgt := 21) (pc := 16) dX12_end_16 (by decide) (fun c4 => ?_) (fun c4 => ?_)
  · have F := F.1 c4
    refine wp_aload_n (pc := 21) dX12_end_21 rfl ?_
    refine wp_getR (pc := 22) dX12_end_22 fl_X12_13 rfl (TX12s_k th) (TX12s_r2 th) ?_
    refine wp_iconst (v := 0) (pc := 25) dX12_end_25 (by decide) ?_
    refine wp_iload_n (pc := 26) dX12_end_26 rfl ?_
    refine wp_iast (pc := 27) dX12_end_27 (TX12s_a2 th) (vp_dec (by decide)) ?_
    refine wp_iload_n (pc := 28) dX12_end_28 rfl ?_
    exact r_I (pc := 29) dX12_end_29 rfl F
  · have F := F.2 c4
    refine wp_iconst (v := -1) (pc := 19) dX12_end_19 (by decide) ?_
    exact r_I (pc := 20) dX12_end_20 rfl F
/-- in(III)Z -/
theorem w_X12_in {l : Launch} {d : Nat} {kd : pm_K} {mr : pm_R}  {x0 : Int32} {x1 : Int32} {x2 : Int32} {mi : pm_I} {ml : pm_L} {K : Bool → pm_I → pm_L → Prop} 
    (F : K (!decide (x0 < x1) && (!decide (x2 < x0))) mi ml) :
    wB l M_X12_in d [.int x0, .int x1, .int x2] kd mr mi ml K := by
  show wp l M_X12_in d 0 0 0 [some (.int x0), some (.int x1), some (.int x2)] [] 0 0 kd mi ml mr _
  refine wp_iload_n (pc := 0) dX12_in_0 rfl ?_
  refine wp_iload_n (pc := 1) dX12_in_1 rfl ?_
  suffices J1 : ∀ v2 : Int32, v2 = (b2i (!decide (x0 < x1) && (!decide (x2 < x0)))) → wp l M_X12_in d 0 0 15 [some (.int x0), some (.int x1), some (.int x2)] [.int v2] 0 0 kd mi ml mr _ by
      refine wp_icmp_lt (tgt := 14) (pc := 2) dX12_in_2 (by decide) (fun c3 => ?_) (fun c3 => ?_)
      · refine wp_iconst (v := 0) (pc := 14) dX12_in_14 (by decide) ?_
        exact J1 _ (by simp only [eq_true c3, if_true, if_false, decide_true, decide_false, Bool.not_true, Bool.not_false, Bool.true_and, Bool.false_and, Bool.true_or, Bool.false_or, b2i_t, b2i_f, ite_true, ite_false, not_true_eq_false, not_false_eq_true, reduceCtorEq, decide_eq_true_eq])
      · refine wp_iload_n (pc := 5) dX12_in_5 rfl ?_
        refine wp_iload_n (pc := 6) dX12_in_6 rfl ?_
        refine wp_icmp_gt (tgt := 14) (pc := 7) dX12_in_7 (by decide) (fun c4 => ?_) (fun c4 => ?_)
        · refine wp_iconst (v := 0) (pc := 14) dX12_in_14 (by decide) ?_
          exact J1 _ (by simp only [c3, eq_true c4, if_true, if_false, decide_true, decide_false, Bool.not_true, Bool.not_false, Bool.true_and, Bool.false_and, Bool.true_or, Bool.false_or, b2i_t, b2i_f, ite_true, ite_false, not_true_eq_false, not_false_eq_true, reduceCtorEq, decide_eq_true_eq])
        · refine wp_iconst (v := 1) (pc := 10) dX12_in_10 (by decide) ?_
          refine wp_goto (tgt := 15) (pc := 11) dX12_in_11 (by decide) ?_
          exact J1 _ (by simp only [c3, c4, if_true, if_false, decide_true, decide_false, Bool.not_true, Bool.not_false, Bool.true_and, Bool.false_and, Bool.true_or, Bool.false_or, b2i_t, b2i_f, ite_true, ite_false, not_true_eq_false, not_false_eq_true, reduceCtorEq, decide_eq_true_eq])
  intro v2 ev2
  subst ev2
  exact r_B (pc := 15) dX12_in_15 rfl F
def c_X12_text_100 (l : Launch) (d : Nat) (kd : pm_K) (mr : pm_R) (h : Nat) (x1 : Int32) (x2 : Int32) (s0 : Int32) (mi : pm_I) (ml : pm_L) (K : Int32 → pm_I → pm_L → Prop) : Prop := wp l M_X12_text d 0 0 100 [some (.ref h), some (.int x1), some (.int x2), none] [.int s0] 0 0 kd mi ml mr (qI kd mr K)
def c_X12_text_75 (l : Launch) (d : Nat) (kd : pm_K) (mr : pm_R) (h : Nat) (x1 : Int32) (x2 : Int32) (mi : pm_I) (ml : pm_L) (K : Int32 → pm_I → pm_L → Prop) : Prop := wp l M_X12_text d 0 0 75 [some (.ref h), some (.int x1), some (.int x2), none] [] 0 0 kd mi ml mr (qI kd mr K)
theorem w_X12_text_75 {l : Launch} {d : Nat} {kd : pm_K} {mr : pm_R} {h : Nat} {x1 : Int32} {x2 : Int32} {mi : pm_I} {ml : pm_L} {K : Int32 → pm_I → pm_L → Prop} (th : TX12s kd mr h)
    (F : wB l M_X12_readText d [.ref h, .int x1] kd mr mi ml (fun r11 mi12 ml13 => ((r11 = true → ((¬ x2 = (-1) → c_X12_text_100 l (d + 1) kd mr h x1 x2 x2 mi12 ml13 K) ∧ (x2 = (-1) → vp_in x1 16 ∧ c_X12_text_100 l (d + 1) kd mr h x1 x2 (mi12 (h + 5) (Int32.toNatClampNeg x1)) mi12 ml13 K))) ∧ (r11 = false → K (-1) mi12 ml13)))) :
    c_X12_text_75 l (d + 1) kd mr h x1 x2 mi ml K := by
  show wp l M_X12_text (d + 1) 0 0 75 [some (.ref h), some (.int x1), some (.int x2), none] [] 0 0 kd mi ml mr _
  refine wp_aload_n (pc := 75) dX12_text_75 rfl ?_
  refine wp_iload_n (pc := 76) dX12_text_76 rfl ?_
  refine cvB [.int x1] [] (pc := 77) dX12_text_77 ml_X12_315 iv_X12_readText (TX12s_k th) (cl_X12 rfl) rfl rfl (Nat.le_of_ble_eq_true rfl) (Nat.le_of_ble_eq_true rfl) (wB.mono (fun r11 mi12 ml13 F => ?_) F)
  refine b_ne (tgt := 85) (pc := 80) dX12_text_80 (by decide) (fun c14 => ?_) (fun c14 => ?_)
  · have F := F.1 c14
    refine wp_iload_n (pc := 85) dX12_text_85 rfl ?_
    refine wp_iconst (v := -1) (pc := 86) dX12_text_86 (by decide) ?_
    refine wp_icmp_ne (tgt := 99) (pc := 87) dX12_text_87 (by decide) (fun c15 => ?_) (fun c15 => ?_)
    · have F := F.1 c15
      refine wp_iload_n (pc := 99) dX12_text_99 rfl ?_
      exact wp_less (L' := [some (.ref h), some (.int x1), some (.int x2), none]) ⟨rfl, ⟨rfl, ⟨rfl, trivial⟩⟩⟩ F
    · have F := F.2 c15
      refine wp_aload_n (pc := 90) dX12_text_90 rfl ?_
      refine wp_getR (pc := 91) dX12_text_91 fl_X12_23 rfl (TX12s_k th) (TX12s_r5 th) ?_
      refine wp_iload_n (pc := 94) dX12_text_94 rfl ?_
      refine wp_iald (pc := 95) dX12_text_95 (TX12s_a5 th) F.1 ?_
      have F := F.2
      refine wp_goto (tgt := 100) (pc := 96) dX12_text_96 (by decide) ?_
      exact wp_less (L' := [some (.ref h), some (.int x1), some (.int x2), none]) ⟨rfl, ⟨rfl, ⟨rfl, trivial⟩⟩⟩ F
  · have F := F.2 c14
    refine wp_iconst (v := -1) (pc := 83) dX12_text_83 (by decide) ?_
    exact r_I (pc := 84) dX12_text_84 rfl F
theorem w_X12_text_100 {l : Launch} {d : Nat} {kd : pm_K} {mr : pm_R} {h : Nat} {x1 : Int32} {x2 : Int32} {s0 : Int32} {mi : pm_I} {ml : pm_L} {K : Int32 → pm_I → pm_L → Prop} (th : TX12s kd mr h)
    (F : vp_in x1 16 ∧ vp_in x1 16 ∧ wV l M_X12_storeAll d [.ref h, .int x1, .int s0] kd mr (pm_up mi (h + 5) (Int32.toNatClampNeg x1) ((mi (h + 5) (Int32.toNatClampNeg x1)) + (b2i (decide (x2 = (-1)))))) ml (fun mi20 ml21 => K s0 mi20 ml21)) :
    c_X12_text_100 l (d + 1) kd mr h x1 x2 s0 mi ml K := by
  show wp l M_X12_text (d + 1) 0 0 100 [some (.ref h), some (.int x1), some (.int x2), none] [.int s0] 0 0 kd mi ml mr _
  refine wp_istore_n (pc := 100) dX12_text_100 (Nat.le_of_ble_eq_true rfl) rfl ?_
  show wp l M_X12_text (d + 1) 0 0 _ [some (.ref h), some (.int x1), some (.int x2), some (.int s0)] _ 0 0 kd _ _ mr _
  refine wp_aload_n (pc := 101) dX12_text_101 rfl ?_
  refine wp_getR (pc := 102) dX12_text_102 fl_X12_23 rfl (TX12s_k th) (TX12s_r5 th) ?_
  refine wp_iload_n (pc := 105) dX12_text_105 rfl ?_
  refine wp_dup2 (pc := 106) dX12_text_106 rfl rfl ?_
  refine wp_iald (pc := 107) dX12_text_107 (TX12s_a5 th) F.1 ?_
  have F := F.2
  refine wp_iload_n (pc := 108) dX12_text_108 rfl ?_
  refine wp_iconst (v := -1) (pc := 109) dX12_text_109 (by decide) ?_
  suffices J16 : ∀ v17 : Int32, v17 = (b2i (decide (x2 = (-1)))) → wp l M_X12_text (d + 1) 0 0 118 [some (.ref h), some (.int x1), some (.int x2), some (.int s0)] [.int v17, .int (mi (h + 5) (Int32.toNatClampNeg x1)), .int x1, .ref (h + 5)] 0 0 kd mi ml mr _ by
      refine wp_icmp_ne (tgt := 117) (pc := 110) dX12_text_110 (by decide) (fun c18 => ?_) (fun c18 => ?_)
      · refine wp_iconst (v := 0) (pc := 117) dX12_text_117 (by decide) ?_
        exact J16 _ (by simp only [c18, if_true, if_false, decide_true, decide_false, Bool.not_true, Bool.not_false, Bool.true_and, Bool.false_and, Bool.true_or, Bool.false_or, b2i_t, b2i_f, ite_true, ite_false, not_true_eq_false, not_false_eq_true, reduceCtorEq, decide_eq_true_eq])
      · refine wp_iconst (v := 1) (pc := 113) dX12_text_113 (by decide) ?_
        refine wp_goto (tgt := 118) (pc := 114) dX12_text_114 (by decide) ?_
        exact J16 _ (by simp only [eq_true c18, if_true, if_false, decide_true, decide_false, Bool.not_true, Bool.not_false, Bool.true_and, Bool.false_and, Bool.true_or, Bool.false_or, b2i_t, b2i_f, ite_true, ite_false, not_true_eq_false, not_false_eq_true, reduceCtorEq, decide_eq_true_eq])
  intro v17 ev17
  subst ev17
  refine wp_iadd (pc := 118) dX12_text_118 ?_
  refine wp_iast (pc := 119) dX12_text_119 (TX12s_a5 th) F.1 ?_
  have F := F.2
  refine wp_aload_n (pc := 120) dX12_text_120 rfl ?_
  refine wp_iload_n (pc := 121) dX12_text_121 rfl ?_
  refine wp_iload_n (pc := 122) dX12_text_122 rfl ?_
  refine cvV [.int x1, .int s0] [] (pc := 123) dX12_text_123 ml_X12_318 iv_X12_storeAll (TX12s_k th) (cl_X12 rfl) rfl rfl (Nat.le_of_ble_eq_true rfl) (Nat.le_of_ble_eq_true rfl) (wV.mono (fun mi20 ml21 F => ?_) F)
  refine wp_iload_n (pc := 126) dX12_text_126 rfl ?_
  exact r_I (pc := 127) dX12_text_127 rfl F
/-- text(II)I -/
theorem w_X12_text {l : Launch} {d : Nat} {kd : pm_K} {mr : pm_R} {h : Nat} {x1 : Int32} {x2 : Int32} {mi : pm_I} {ml : pm_L} {K : Int32 → pm_I → pm_L → Prop} (th : TX12s kd mr h)
    (F : wB l M_X12_in d [.int x1, .int 0, .int 3] kd mr (pm_up (pm_up (pm_up (pm_up (pm_up mi h 0 0) h 11 (mi (h + 2) (Int32.toNatClampNeg 0))) (h + 2) (Int32.toNatClampNeg 0) 0) (h + 3) (Int32.toNatClampNeg 0) 0) (h + 4) (Int32.toNatClampNeg 0) (-1)) ml (fun r1 mi2 ml3 => ((r1 = false → K (-2) mi2 ml3) ∧ (r1 = true → ((¬ x2 = (-1) → wB l M_X12_is d [.ref h, .int x1, .int x2] kd mr mi2 ml3 (fun r6 mi7 ml8 => ((r6 = true → c_X12_text_75 l (d + 1) kd mr h x1 x2 mi7 ml8 K) ∧ (r6 = false → K (-2) mi7 ml8)))) ∧ (x2 = (-1) → vp_in x1 16 ∧ ((¬ (mi2 (h + 5) (Int32.toNatClampNeg x1)) = 2 → c_X12_text_75 l (d + 1) kd mr h x1 x2 mi2 ml3 K) ∧ ((mi2 (h + 5) (Int32.toNatClampNeg x1)) = 2 → K (-2) mi2 ml3)))))))) :
    wI l M_X12_text (d + 1) [.ref h, .int x1, .int x2] kd mr mi ml K := by
  show wp l M_X12_text (d + 1) 0 0 0 [some (.ref h), some (.int x1), some (.int x2), none] [] 0 0 kd mi ml mr _
  refine wp_aload_n (pc := 0) dX12_text_0 rfl ?_
  refine wp_iconst (v := 0) (pc := 1) dX12_text_1 (by decide) ?_
  refine wp_putI (pc := 2) dX12_text_2 fl_X12_107 rfl rfl (TX12s_k th) ?_
  refine wp_aload_n (pc := 5) dX12_text_5 rfl ?_
  refine wp_aload_n (pc := 6) dX12_text_6 rfl ?_
  refine wp_getR (pc := 7) dX12_text_7 fl_X12_13 rfl (TX12s_k th) (TX12s_r2 th) ?_
  refine wp_iconst (v := 0) (pc := 10) dX12_text_10 (by decide) ?_
  refine wp_iald (pc := 11) dX12_text_11 (TX12s_a2 th) (vp_dec (by decide)) ?_
  refine t_I (show ((pm_up mi h 0 0) (h + 2) (Int32.toNatClampNeg 0)) = (mi (h + 2) (Int32.toNatClampNeg 0)) from pm_up_k _ _ (by omega)) ?_
  refine wp_putI (pc := 12) dX12_text_12 fl_X12_130 rfl rfl (TX12s_k th) ?_
  refine wp_aload_n (pc := 15) dX12_text_15 rfl ?_
  refine wp_getR (pc := 16) dX12_text_16 fl_X12_13 rfl (TX12s_k th) (TX12s_r2 th) ?_
  refine wp_iconst (v := 0) (pc := 19) dX12_text_19 (by decide) ?_
  refine wp_iconst (v := 0) (pc := 20) dX12_text_20 (by decide) ?_
  refine wp_iast (pc := 21) dX12_text_21 (TX12s_a2 th) (vp_dec (by decide)) ?_
  refine wp_aload_n (pc := 22) dX12_text_22 rfl ?_
  refine wp_getR (pc := 23) dX12_text_23 fl_X12_17 rfl (TX12s_k th) (TX12s_r3 th) ?_
  refine wp_iconst (v := 0) (pc := 26) dX12_text_26 (by decide) ?_
  refine wp_iconst (v := 0) (pc := 27) dX12_text_27 (by decide) ?_
  refine wp_iast (pc := 28) dX12_text_28 (TX12s_a3 th) (vp_dec (by decide)) ?_
  refine wp_aload_n (pc := 29) dX12_text_29 rfl ?_
  refine wp_getR (pc := 30) dX12_text_30 fl_X12_20 rfl (TX12s_k th) (TX12s_r4 th) ?_
  refine wp_iconst (v := 0) (pc := 33) dX12_text_33 (by decide) ?_
  refine wp_iconst (v := -1) (pc := 34) dX12_text_34 (by decide) ?_
  refine wp_iast (pc := 35) dX12_text_35 (TX12s_a4 th) (vp_dec (by decide)) ?_
  refine wp_iload_n (pc := 36) dX12_text_36 rfl ?_
  refine wp_iconst (v := 0) (pc := 37) dX12_text_37 (by decide) ?_
  refine wp_iconst (v := 3) (pc := 38) dX12_text_38 (by decide) ?_
  refine csB [.int x1, .int 0, .int 3] [] (pc := 39) dX12_text_39 ml_X12_119 st_X12_in rfl rfl (Nat.le_of_ble_eq_true rfl) (Nat.le_of_ble_eq_true rfl) (wB.mono (fun r1 mi2 ml3 F => ?_) F)
  refine b_eq (tgt := 72) (pc := 42) dX12_text_42 (by decide) (fun c4 => ?_) (fun c4 => ?_)
  · have F := F.1 c4
    refine wp_bipush (v := -2) (pc := 72) dX12_text_72 (by decide) ?_
    exact r_I (pc := 74) dX12_text_74 rfl F
  · have F := F.2 c4
    refine wp_iload_n (pc := 45) dX12_text_45 rfl ?_
    refine wp_iconst (v := -1) (pc := 46) dX12_text_46 (by decide) ?_
    refine wp_icmp_ne (tgt := 63) (pc := 47) dX12_text_47 (by decide) (fun c5 => ?_) (fun c5 => ?_)
    · have F := F.1 c5
      refine wp_aload_n (pc := 63) dX12_text_63 rfl ?_
      refine wp_iload_n (pc := 64) dX12_text_64 rfl ?_
      refine wp_iload_n (pc := 65) dX12_text_65 rfl ?_
      refine cvB [.int x1, .int x2] [] (pc := 66) dX12_text_66 ml_X12_312 iv_X12_is (TX12s_k th) (cl_X12 rfl) rfl rfl (Nat.le_of_ble_eq_true rfl) (Nat.le_of_ble_eq_true rfl) (wB.mono (fun r6 mi7 ml8 F => ?_) F)
      refine b_ne (tgt := 75) (pc := 69) dX12_text_69 (by decide) (fun c9 => ?_) (fun c9 => ?_)
      · have F := F.1 c9
        exact wp_less (L' := [some (.ref h), some (.int x1), some (.int x2), none]) ⟨rfl, ⟨rfl, ⟨rfl, trivial⟩⟩⟩ F
      · have F := F.2 c9
        refine wp_bipush (v := -2) (pc := 72) dX12_text_72 (by decide) ?_
        exact r_I (pc := 74) dX12_text_74 rfl F
    · have F := F.2 c5
      refine wp_aload_n (pc := 50) dX12_text_50 rfl ?_
      refine wp_getR (pc := 51) dX12_text_51 fl_X12_23 rfl (TX12s_k th) (TX12s_r5 th) ?_
      refine wp_iload_n (pc := 54) dX12_text_54 rfl ?_
      refine wp_iald (pc := 55) dX12_text_55 (TX12s_a5 th) F.1 ?_
      have F := F.2
      refine wp_iconst (v := 2) (pc := 56) dX12_text_56 (by decide) ?_
      refine wp_icmp_ne (tgt := 75) (pc := 57) dX12_text_57 (by decide) (fun c10 => ?_) (fun c10 => ?_)
      · have F := F.1 c10
        exact wp_less (L' := [some (.ref h), some (.int x1), some (.int x2), none]) ⟨rfl, ⟨rfl, ⟨rfl, trivial⟩⟩⟩ F
      · have F := F.2 c10
        refine wp_goto (tgt := 72) (pc := 60) dX12_text_60 (by decide) ?_
        refine wp_bipush (v := -2) (pc := 72) dX12_text_72 (by decide) ?_
        exact r_I (pc := 74) dX12_text_74 rfl F
/-- is(II)Z -/
theorem w_X12_is {l : Launch} {d : Nat} {kd : pm_K} {mr : pm_R} {h : Nat} {x1 : Int32} {x2 : Int32} {mi : pm_I} {ml : pm_L} {K : Bool → pm_I → pm_L → Prop} (th : TX12s kd mr h)
    (F : vp_in x1 16 ∧ wB l M_X12_in d [.int x2, .int 0, .int ((mi (h + 5) (Int32.toNatClampNeg x1)) - 1)] kd mr mi ml (fun r1 mi2 ml3 => K r1 mi2 ml3)) :
    wB l M_X12_is (d + 1) [.ref h, .int x1, .int x2] kd mr mi ml K := by
  show wp l M_X12_is (d + 1) 0 0 0 [some (.ref h), some (.int x1), some (.int x2)] [] 0 0 kd mi ml mr _
  refine wp_iload_n (pc := 0) dX12_is_0 rfl ?_
  refine wp_iconst (v := 0) (pc := 1) dX12_is_1 (by decide) ?_
  refine wp_aload_n (pc := 2) dX12_is_2 rfl ?_
  refine wp_getR (pc := 3) dX12_is_3 fl_X12_23 rfl (TX12s_k th) (TX12s_r5 th) ?_
  refine wp_iload_n (pc := 6) dX12_is_6 rfl ?_
  refine wp_iald (pc := 7) dX12_is_7 (TX12s_a5 th) F.1 ?_
  have F := F.2
  refine wp_iconst (v := 1) (pc := 8) dX12_is_8 (by decide) ?_
  refine wp_isub (pc := 9) dX12_is_9 ?_
  refine csB [.int x2, .int 0, .int ((mi (h + 5) (Int32.toNatClampNeg x1)) - 1)] [] (pc := 10) dX12_is_10 ml_X12_119 st_X12_in rfl rfl (Nat.le_of_ble_eq_true rfl) (Nat.le_of_ble_eq_true rfl) (wB.mono (fun r1 mi2 ml3 F => ?_) F)
  exact r_B (pc := 13) dX12_is_13 rfl F
def c_X12_readText_56 (l : Launch) (d : Nat) (kd : pm_K) (mr : pm_R) (h : Nat) (x2 : Int32) (mi : pm_I) (ml : pm_L) (K : Bool → pm_I → pm_L → Prop) : Prop := wp l M_X12_readText d 0 0 56 [some (.ref h), none, some (.int x2)] [] 0 0 kd mi ml mr (qB kd mr K)
theorem w_X12_readText_56 {l : Launch} {d : Nat} {kd : pm_K} {mr : pm_R} {h : Nat} {x2 : Int32} {mi : pm_I} {ml : pm_L} {K : Bool → pm_I → pm_L → Prop} (th : TX12s kd mr h)
    (F : K (decide ((if x2 = 0 then (1 : Int32) else (mi h 17)) = 0)) (pm_up (pm_up mi (h + 3) (Int32.toNatClampNeg 0) (if x2 = 0 then (1 : Int32) else (mi h 17))) (h + 4) (Int32.toNatClampNeg 0) (if x2 = 0 then (mi h 16) else (if (mi h 17) ≤ 0 then ((-1) : Int32) else (mi h 18)))) ml) :
    c_X12_readText_56 l (d + 1) kd mr h x2 mi ml K := by
  show wp l M_X12_readText (d + 1) 0 0 56 [some (.ref h), none, some (.int x2)] [] 0 0 kd mi ml mr _
  refine wp_aload_n (pc := 56) dX12_readText_56 rfl ?_
  refine wp_getR (pc := 57) dX12_readText_57 fl_X12_17 rfl (TX12s_k th) (TX12s_r3 th) ?_
  refine wp_iconst (v := 0) (pc := 60) dX12_readText_60 (by decide) ?_
  refine wp_iload_n (pc := 61) dX12_readText_61 rfl ?_
  suffices J15 : ∀ v16 : Int32, v16 = (if x2 = 0 then (1 : Int32) else (mi h 17)) → wp l M_X12_readText (d + 1) 0 0 73 [some (.ref h), none, some (.int x2)] [.int v16, .int 0, .ref (h + 3)] 0 0 kd mi ml mr _ by
      refine wp_if_eq (tgt := 72) (pc := 62) dX12_readText_62 (by decide) (fun c17 => ?_) (fun c17 => ?_)
      · refine wp_iconst (v := 1) (pc := 72) dX12_readText_72 (by decide) ?_
        exact J15 _ (by simp only [eq_true c17, if_true, if_false, decide_true, decide_false, Bool.not_true, Bool.not_false, Bool.true_and, Bool.false_and, Bool.true_or, Bool.false_or, b2i_t, b2i_f, ite_true, ite_false, not_true_eq_false, not_false_eq_true, reduceCtorEq, decide_eq_true_eq])
      · refine wp_aload_n (pc := 65) dX12_readText_65 rfl ?_
        refine wp_getI (pc := 66) dX12_readText_66 fl_X12_153 rfl (TX12s_k th) ?_
        refine wp_goto (tgt := 73) (pc := 69) dX12_readText_69 (by decide) ?_
        exact J15 _ (by simp only [c17, if_true, if_false, decide_true, decide_false, Bool.not_true, Bool.not_false, Bool.true_and, Bool.false_and, Bool.true_or, Bool.false_or, b2i_t, b2i_f, ite_true, ite_false, not_true_eq_false, not_false_eq_true, reduceCtorEq, decide_eq_true_eq])
  intro v16 ev16
  subst ev16
  refine wp_iast (pc := 73) dX12_readText_73 (TX12s_a3 th) (vp_dec (by decide)) ?_
  refine wp_aload_n (pc := 74) dX12_readText_74 rfl ?_
  refine wp_getR (pc := 75) dX12_readText_75 fl_X12_20 rfl (TX12s_k th) (TX12s_r4 th) ?_
  refine wp_iconst (v := 0) (pc := 78) dX12_readText_78 (by decide) ?_
  refine wp_iload_n (pc := 79) dX12_readText_79 rfl ?_
  suffices J18 : ∀ v19 : Int32, v19 = (if x2 = 0 then (mi h 16) else (if (mi h 17) ≤ 0 then ((-1) : Int32) else (mi h 18))) → wp l M_X12_readText (d + 1) 0 0 105 [some (.ref h), none, some (.int x2)] [.int v19, .int 0, .ref (h + 4)] 0 0 kd (pm_up mi (h + 3) (Int32.toNatClampNeg 0) (if x2 = 0 then (1 : Int32) else (mi h 17))) ml mr _ by
      refine wp_if_ne (tgt := 90) (pc := 80) dX12_readText_80 (by decide) (fun c20 => ?_) (fun c20 => ?_)
      · refine wp_aload_n (pc := 90) dX12_readText_90 rfl ?_
        refine wp_getI (pc := 91) dX12_readText_91 fl_X12_153 rfl (TX12s_k th) ?_
        refine t_I (show ((pm_up mi (h + 3) (Int32.toNatClampNeg 0) (if x2 = 0 then (1 : Int32) else (mi h 17))) h 17) = (mi h 17) from pm_up_k _ _ (by omega)) ?_
        refine wp_if_le (tgt := 104) (pc := 94) dX12_readText_94 (by decide) (fun c21 => ?_) (fun c21 => ?_)
        · refine wp_iconst (v := -1) (pc := 104) dX12_readText_104 (by decide) ?_
          exact J18 _ (by simp only [c20, eq_true c21, if_true, if_false, decide_true, decide_false, Bool.not_true, Bool.not_false, Bool.true_and, Bool.false_and, Bool.true_or, Bool.false_or, b2i_t, b2i_f, ite_true, ite_false, not_true_eq_false, not_false_eq_true, reduceCtorEq, decide_eq_true_eq])
        · refine wp_aload_n (pc := 97) dX12_readText_97 rfl ?_
          refine wp_getI (pc := 98) dX12_readText_98 fl_X12_156 rfl (TX12s_k th) ?_
          refine t_I (show ((pm_up mi (h + 3) (Int32.toNatClampNeg 0) (if x2 = 0 then (1 : Int32) else (mi h 17))) h 18) = (mi h 18) from pm_up_k _ _ (by omega)) ?_
          refine wp_goto (tgt := 105) (pc := 101) dX12_readText_101 (by decide) ?_
          exact J18 _ (by simp only [c20, c21, if_true, if_false, decide_true, decide_false, Bool.not_true, Bool.not_false, Bool.true_and, Bool.false_and, Bool.true_or, Bool.false_or, b2i_t, b2i_f, ite_true, ite_false, not_true_eq_false, not_false_eq_true, reduceCtorEq, decide_eq_true_eq])
      · refine wp_aload_n (pc := 83) dX12_readText_83 rfl ?_
        refine wp_getI (pc := 84) dX12_readText_84 fl_X12_150 rfl (TX12s_k th) ?_
        refine t_I (show ((pm_up mi (h + 3) (Int32.toNatClampNeg 0) (if x2 = 0 then (1 : Int32) else (mi h 17))) h 16) = (mi h 16) from pm_up_k _ _ (by omega)) ?_
        refine wp_goto (tgt := 105) (pc := 87) dX12_readText_87 (by decide) ?_
        exact J18 _ (by simp only [eq_true c20, if_true, if_false, decide_true, decide_false, Bool.not_true, Bool.not_false, Bool.true_and, Bool.false_and, Bool.true_or, Bool.false_or, b2i_t, b2i_f, ite_true, ite_false, not_true_eq_false, not_false_eq_true, reduceCtorEq, decide_eq_true_eq])
  intro v19 ev19
  subst ev19
  refine wp_iast (pc := 105) dX12_readText_105 (TX12s_a4 th) (vp_dec (by decide)) ?_
  refine wp_aload_n (pc := 106) dX12_readText_106 rfl ?_
  refine wp_getR (pc := 107) dX12_readText_107 fl_X12_17 rfl (TX12s_k th) (TX12s_r3 th) ?_
  refine wp_iconst (v := 0) (pc := 110) dX12_readText_110 (by decide) ?_
  refine wp_iald (pc := 111) dX12_readText_111 (TX12s_a3 th) (vp_dec (by decide)) ?_
  refine t_I (show ((pm_up (pm_up mi (h + 3) (Int32.toNatClampNeg 0) (if x2 = 0 then (1 : Int32) else (mi h 17))) (h + 4) (Int32.toNatClampNeg 0) (if x2 = 0 then (mi h 16) else (if (mi h 17) ≤ 0 then ((-1) : Int32) else (mi h 18)))) (h + 3) (Int32.toNatClampNeg 0)) = (if x2 = 0 then (1 : Int32) else (mi h 17)) from (pm_up_k _ _ (by omega)).trans (pm_up_s _ _ _ _)) ?_
  suffices J22 : ∀ v23 : Int32, v23 = (b2i (decide ((if x2 = 0 then (1 : Int32) else (mi h 17)) = 0))) → wp l M_X12_readText (d + 1) 0 0 120 [some (.ref h), none, some (.int x2)] [.int v23] 0 0 kd (pm_up (pm_up mi (h + 3) (Int32.toNatClampNeg 0) (if x2 = 0 then (1 : Int32) else (mi h 17))) (h + 4) (Int32.toNatClampNeg 0) (if x2 = 0 then (mi h 16) else (if (mi h 17) ≤ 0 then ((-1) : Int32) else (mi h 18)))) ml mr _ by
      refine wp_if_ne (tgt := 119) (pc := 112) dX12_readText_112 (by decide) (fun c24 => ?_) (fun c24 => ?_)
      · refine wp_iconst (v := 0) (pc := 119) dX12_readText_119 (by decide) ?_
        exact J22 _ (by simp only [c24, if_true, if_false, decide_true, decide_false, Bool.not_true, Bool.not_false, Bool.true_and, Bool.false_and, Bool.true_or, Bool.false_or, b2i_t, b2i_f, ite_true, ite_false, not_true_eq_false, not_false_eq_true, reduceCtorEq, decide_eq_true_eq])
      · refine wp_iconst (v := 1) (pc := 115) dX12_readText_115 (by decide) ?_
        refine wp_goto (tgt := 120) (pc := 116) dX12_readText_116 (by decide) ?_
        exact J22 _ (by simp only [eq_true c24, if_true, if_false, decide_true, decide_false, Bool.not_true, Bool.not_false, Bool.true_and, Bool.false_and, Bool.true_or, Bool.false_or, b2i_t, b2i_f, ite_true, ite_false, not_true_eq_false, not_false_eq_true, reduceCtorEq, decide_eq_true_eq])
  intro v23 ev23
  subst ev23
  exact r_B (pc := 120) dX12_readText_120 rfl F
/-- readText(I)Z -/
theorem w_X12_readText {l : Launch} {d : Nat} {kd : pm_K} {mr : pm_R} {h : Nat} {x1 : Int32} {mi : pm_I} {ml : pm_L} {K : Bool → pm_I → pm_L → Prop} (th : TX12s kd mr h)
    (F : wV l M_X12_blank d [.ref h, .int x1] kd mr mi ml (fun mi2 ml3 => wV l M_X12_token d [.ref h] kd mr (pm_up (pm_up (pm_up (pm_up (pm_up mi2 h 21 (-1)) h 22 (-1)) h 23 (-1)) h 10 0) h 17 0) ml3 (fun mi5 ml6 => wB l M_X12_lines d [.ref h, .int x1] kd mr mi5 ml6 (fun r7 mi8 ml9 => ((r7 = false → c_X12_readText_56 l (d + 1) kd mr h (b2i r7) mi8 ml9 K) ∧ (r7 = true → ((¬ (mi8 h 17) = 0 → c_X12_readText_56 l (d + 1) kd mr h (b2i r7) mi8 ml9 K) ∧ ((mi8 h 17) = 0 → wV l M_X12_atEnd d [.ref h, .int x1] kd mr mi8 ml9 (fun mi13 ml14 => c_X12_readText_56 l (d + 1) kd mr h (b2i r7) mi13 ml14 K))))))))) :
    wB l M_X12_readText (d + 1) [.ref h, .int x1] kd mr mi ml K := by
  show wp l M_X12_readText (d + 1) 0 0 0 [some (.ref h), some (.int x1), none] [] 0 0 kd mi ml mr _
  refine wp_aload_n (pc := 0) dX12_readText_0 rfl ?_
  refine wp_iload_n (pc := 1) dX12_readText_1 rfl ?_
  refine cvV [.int x1] [] (pc := 2) dX12_readText_2 ml_X12_299 iv_X12_blank (TX12s_k th) (cl_X12 rfl) rfl rfl (Nat.le_of_ble_eq_true rfl) (Nat.le_of_ble_eq_true rfl) (wV.mono (fun mi2 ml3 F => ?_) F)
  refine wp_aload_n (pc := 5) dX12_readText_5 rfl ?_
  refine wp_iconst (v := -1) (pc := 6) dX12_readText_6 (by decide) ?_
  refine wp_putI (pc := 7) dX12_readText_7 fl_X12_177 rfl rfl (TX12s_k th) ?_
  refine wp_aload_n (pc := 10) dX12_readText_10 rfl ?_
  refine wp_iconst (v := -1) (pc := 11) dX12_readText_11 (by decide) ?_
  refine wp_putI (pc := 12) dX12_readText_12 fl_X12_184 rfl rfl (TX12s_k th) ?_
  refine wp_aload_n (pc := 15) dX12_readText_15 rfl ?_
  refine wp_iconst (v := -1) (pc := 16) dX12_readText_16 (by decide) ?_
  refine wp_putI (pc := 17) dX12_readText_17 fl_X12_272 rfl rfl (TX12s_k th) ?_
  refine wp_aload_n (pc := 20) dX12_readText_20 rfl ?_
  refine wp_iconst (v := 0) (pc := 21) dX12_readText_21 (by decide) ?_
  refine wp_putI (pc := 22) dX12_readText_22 fl_X12_127 rfl rfl (TX12s_k th) ?_
  refine wp_aload_n (pc := 25) dX12_readText_25 rfl ?_
  refine wp_iconst (v := 0) (pc := 26) dX12_readText_26 (by decide) ?_
  refine wp_putI (pc := 27) dX12_readText_27 fl_X12_153 rfl rfl (TX12s_k th) ?_
  refine wp_aload_n (pc := 30) dX12_readText_30 rfl ?_
  refine cvV [] [] (pc := 31) dX12_readText_31 ml_X12_171 iv_X12_token (TX12s_k th) (cl_X12 rfl) rfl rfl (Nat.le_of_ble_eq_true rfl) (Nat.le_of_ble_eq_true rfl) (wV.mono (fun mi5 ml6 F => ?_) F)
  refine wp_aload_n (pc := 34) dX12_readText_34 rfl ?_
  refine wp_iload_n (pc := 35) dX12_readText_35 rfl ?_
  refine cvB [.int x1] [] (pc := 36) dX12_readText_36 ml_X12_302 iv_X12_lines (TX12s_k th) (cl_X12 rfl) rfl rfl (Nat.le_of_ble_eq_true rfl) (Nat.le_of_ble_eq_true rfl) (wB.mono (fun r7 mi8 ml9 F => ?_) F)
  refine wp_istore_n (pc := 39) dX12_readText_39 (Nat.le_of_ble_eq_true rfl) rfl ?_
  show wp l M_X12_readText (d + 1) 0 0 _ [some (.ref h), some (.int x1), some (.int (b2i r7))] _ 0 0 kd _ _ mr _
  refine wp_iload_n (pc := 40) dX12_readText_40 rfl ?_
  refine b_eq (tgt := 56) (pc := 41) dX12_readText_41 (by decide) (fun c10 => ?_) (fun c10 => ?_)
  · have F := F.1 c10
    exact wp_less (L' := [some (.ref h), none, some (.int (b2i r7))]) ⟨rfl, ⟨rfl, trivial⟩⟩ F
  · have F := F.2 c10
    refine wp_aload_n (pc := 44) dX12_readText_44 rfl ?_
    refine wp_getI (pc := 45) dX12_readText_45 fl_X12_153 rfl (TX12s_k th) ?_
    refine wp_if_ne (tgt := 56) (pc := 48) dX12_readText_48 (by decide) (fun c11 => ?_) (fun c11 => ?_)
    · have F := F.1 c11
      exact wp_less (L' := [some (.ref h), none, some (.int (b2i r7))]) ⟨rfl, ⟨rfl, trivial⟩⟩ F
    · have F := F.2 c11
      refine wp_aload_n (pc := 51) dX12_readText_51 rfl ?_
      refine wp_iload_n (pc := 52) dX12_readText_52 rfl ?_
      refine cvV [.int x1] [] (pc := 53) dX12_readText_53 ml_X12_305 iv_X12_atEnd (TX12s_k th) (cl_X12 rfl) rfl rfl (Nat.le_of_ble_eq_true rfl) (Nat.le_of_ble_eq_true rfl) (wV.mono (fun mi13 ml14 F => ?_) F)
      exact wp_less (L' := [some (.ref h), none, some (.int (b2i r7))]) ⟨rfl, ⟨rfl, trivial⟩⟩ F
def c_X12_blank_70 (l : Launch) (d : Nat) (kd : pm_K) (mr : pm_R) (h : Nat) (x1 : Int32) (mi : pm_I) (ml : pm_L) (K : pm_I → pm_L → Prop) : Prop := wp l M_X12_blank d 0 0 70 [some (.ref h), some (.int x1), none] [] 0 0 kd mi ml mr (qV kd mr K)
def c_X12_blank_50 (l : Launch) (d : Nat) (kd : pm_K) (mr : pm_R) (h : Nat) (x1 : Int32) (x2 : Int32) (mi : pm_I) (ml : pm_L) (K : pm_I → pm_L → Prop) : Prop := wp l M_X12_blank d 0 0 50 [some (.ref h), some (.int x1), some (.int x2)] [] 0 0 kd mi ml mr (qV kd mr K)
def c_X12_blank_2 (l : Launch) (d : Nat) (kd : pm_K) (mr : pm_R) (h : Nat) (x1 : Int32) (x2 : Int32) (mi : pm_I) (ml : pm_L) (K : pm_I → pm_L → Prop) : Prop := wp l M_X12_blank d 0 0 2 [some (.ref h), some (.int x1), some (.int x2)] [] 0 0 kd mi ml mr (qV kd mr K)
theorem w_X12_blank_2 {l : Launch} {d : Nat} {kd : pm_K} {mr : pm_R} {h : Nat} {x1 : Int32} {x2 : Int32} {mi : pm_I} {ml : pm_L} {K : pm_I → pm_L → Prop} (th : TX12s kd mr h)
    (F : ((121 ≤ x2 → ((¬ x1 = 0 → c_X12_blank_70 l d kd mr h x1 mi ml K) ∧ (x1 = 0 → c_X12_blank_50 l d kd mr h x1 0 (pm_up (pm_up (pm_up mi (h + 10) (Int32.toNatClampNeg 0) 6) (h + 10) (Int32.toNatClampNeg 1) 6) (h + 10) (Int32.toNatClampNeg 2) 4) ml K))) ∧ (¬ 121 ≤ x2 → vp_in x2 121 ∧ c_X12_blank_2 l d kd mr h x1 (x2 + 1) (pm_up mi (h + 10) (Int32.toNatClampNeg x2) 0) ml K))) :
    c_X12_blank_2 l d kd mr h x1 x2 mi ml K := by
  show wp l M_X12_blank d 0 0 2 [some (.ref h), some (.int x1), some (.int x2)] [] 0 0 kd mi ml mr _
  refine wp_iload_n (pc := 2) dX12_blank_2 rfl ?_
  refine wp_bipush (v := 121) (pc := 3) dX12_blank_3 (by decide) ?_
  refine wp_icmp_ge (tgt := 21) (pc := 5) dX12_blank_5 (by decide) (fun c1 => ?_) (fun c1 => ?_)
  · have F := F.1 c1
    refine wp_iload_n (pc := 21) dX12_blank_21 rfl ?_
    refine wp_if_ne (tgt := 70) (pc := 22) dX12_blank_22 (by decide) (fun c2 => ?_) (fun c2 => ?_)
    · have F := F.1 c2
      exact wp_less (L' := [some (.ref h), some (.int x1), none]) ⟨rfl, ⟨rfl, trivial⟩⟩ F
    · have F := F.2 c2
      refine wp_aload_n (pc := 25) dX12_blank_25 rfl ?_
      refine wp_getR (pc := 26) dX12_blank_26 fl_X12_38 rfl (TX12s_k th) (TX12s_r19 th) ?_
      refine wp_iconst (v := 0) (pc := 29) dX12_blank_29 (by decide) ?_
      refine wp_bipush (v := 6) (pc := 30) dX12_blank_30 (by decide) ?_
      refine wp_iast (pc := 32) dX12_blank_32 (TX12s_a19 th) (vp_dec (by decide)) ?_
      refine wp_aload_n (pc := 33) dX12_blank_33 rfl ?_
      refine wp_getR (pc := 34) dX12_blank_34 fl_X12_38 rfl (TX12s_k th) (TX12s_r19 th) ?_
      refine wp_iconst (v := 1) (pc := 37) dX12_blank_37 (by decide) ?_
      refine wp_bipush (v := 6) (pc := 38) dX12_blank_38 (by decide) ?_
      refine wp_iast (pc := 40) dX12_blank_40 (TX12s_a19 th) (vp_dec (by decide)) ?_
      refine wp_aload_n (pc := 41) dX12_blank_41 rfl ?_
      refine wp_getR (pc := 42) dX12_blank_42 fl_X12_38 rfl (TX12s_k th) (TX12s_r19 th) ?_
      refine wp_iconst (v := 2) (pc := 45) dX12_blank_45 (by decide) ?_
      refine wp_iconst (v := 4) (pc := 46) dX12_blank_46 (by decide) ?_
      refine wp_iast (pc := 47) dX12_blank_47 (TX12s_a19 th) (vp_dec (by decide)) ?_
      refine wp_iconst (v := 0) (pc := 48) dX12_blank_48 (by decide) ?_
      refine wp_istore_n (pc := 49) dX12_blank_49 (Nat.le_of_ble_eq_true rfl) rfl ?_
      show wp l M_X12_blank d 0 0 _ [some (.ref h), some (.int x1), some (.int 0)] _ 0 0 kd _ _ mr _
      exact wp_less (L' := [some (.ref h), some (.int x1), some (.int 0)]) ⟨rfl, ⟨rfl, ⟨rfl, trivial⟩⟩⟩ F
  · have F := F.2 c1
    refine wp_aload_n (pc := 8) dX12_blank_8 rfl ?_
    refine wp_getR (pc := 9) dX12_blank_9 fl_X12_38 rfl (TX12s_k th) (TX12s_r19 th) ?_
    refine wp_iload_n (pc := 12) dX12_blank_12 rfl ?_
    refine wp_iconst (v := 0) (pc := 13) dX12_blank_13 (by decide) ?_
    refine wp_iast (pc := 14) dX12_blank_14 (TX12s_a19 th) F.1 ?_
    have F := F.2
    refine wp_iinc (v := (x2 + 1)) (pc := 15) dX12_blank_15 rfl rfl rfl ?_
    show wp l M_X12_blank d 0 0 _ [some (.ref h), some (.int x1), some (.int (x2 + 1))] _ 0 0 kd _ _ mr _
    refine wp_goto (tgt := 2) (pc := 18) dX12_blank_18 (by decide) ?_
    exact wp_less (L' := [some (.ref h), some (.int x1), some (.int (x2 + 1))]) ⟨rfl, ⟨rfl, ⟨rfl, trivial⟩⟩⟩ F
theorem w_X12_blank_50 {l : Launch} {d : Nat} {kd : pm_K} {mr : pm_R} {h : Nat} {x1 : Int32} {x2 : Int32} {mi : pm_I} {ml : pm_L} {K : pm_I → pm_L → Prop} (th : TX12s kd mr h)
    (F : ((4 ≤ x2 → c_X12_blank_70 l d kd mr h x1 mi ml K) ∧ (¬ 4 ≤ x2 → vp_in (5 + x2) 121 ∧ c_X12_blank_50 l d kd mr h x1 (x2 + 1) (pm_up mi (h + 10) (Int32.toNatClampNeg (5 + x2)) 3) ml K))) :
    c_X12_blank_50 l d kd mr h x1 x2 mi ml K := by
  show wp l M_X12_blank d 0 0 50 [some (.ref h), some (.int x1), some (.int x2)] [] 0 0 kd mi ml mr _
  refine wp_iload_n (pc := 50) dX12_blank_50 rfl ?_
  refine wp_iconst (v := 4) (pc := 51) dX12_blank_51 (by decide) ?_
  refine wp_icmp_ge (tgt := 70) (pc := 52) dX12_blank_52 (by decide) (fun c3 => ?_) (fun c3 => ?_)
  · have F := F.1 c3
    exact wp_less (L' := [some (.ref h), some (.int x1), none]) ⟨rfl, ⟨rfl, trivial⟩⟩ F
  · have F := F.2 c3
    refine wp_aload_n (pc := 55) dX12_blank_55 rfl ?_
    refine wp_getR (pc := 56) dX12_blank_56 fl_X12_38 rfl (TX12s_k th) (TX12s_r19 th) ?_
    refine wp_iconst (v := 5) (pc := 59) dX12_blank_59 (by decide) ?_
    refine wp_iload_n (pc := 60) dX12_blank_60 rfl ?_
    refine wp_iadd (pc := 61) dX12_blank_61 ?_
    refine wp_iconst (v := 3) (pc := 62) dX12_blank_62 (by decide) ?_
    refine wp_iast (pc := 63) dX12_blank_63 (TX12s_a19 th) F.1 ?_
    have F := F.2
    refine wp_iinc (v := (x2 + 1)) (pc := 64) dX12_blank_64 rfl rfl rfl ?_
    show wp l M_X12_blank d 0 0 _ [some (.ref h), some (.int x1), some (.int (x2 + 1))] _ 0 0 kd _ _ mr _
    refine wp_goto (tgt := 50) (pc := 67) dX12_blank_67 (by decide) ?_
    exact wp_less (L' := [some (.ref h), some (.int x1), some (.int (x2 + 1))]) ⟨rfl, ⟨rfl, ⟨rfl, trivial⟩⟩⟩ F
theorem w_X12_blank_70 {l : Launch} {d : Nat} {kd : pm_K} {mr : pm_R} {h : Nat} {x1 : Int32} {mi : pm_I} {ml : pm_L} {K : pm_I → pm_L → Prop} (th : TX12s kd mr h)
    (F : ((¬ x1 = 2 → K mi ml) ∧ (x1 = 2 → K (pm_up (pm_up mi (h + 10) (Int32.toNatClampNeg 0) 4) (h + 10) (Int32.toNatClampNeg 1) (-1)) ml))) :
    c_X12_blank_70 l d kd mr h x1 mi ml K := by
  show wp l M_X12_blank d 0 0 70 [some (.ref h), some (.int x1), none] [] 0 0 kd mi ml mr _
  refine wp_iload_n (pc := 70) dX12_blank_70 rfl ?_
  refine wp_iconst (v := 2) (pc := 71) dX12_blank_71 (by decide) ?_
  refine wp_icmp_ne (tgt := 89) (pc := 72) dX12_blank_72 (by decide) (fun c4 => ?_) (fun c4 => ?_)
  · have F := F.1 c4
    exact r_V (pc := 89) dX12_blank_89 rfl F
  · have F := F.2 c4
    refine wp_aload_n (pc := 75) dX12_blank_75 rfl ?_
    refine wp_getR (pc := 76) dX12_blank_76 fl_X12_38 rfl (TX12s_k th) (TX12s_r19 th) ?_
    refine wp_iconst (v := 0) (pc := 79) dX12_blank_79 (by decide) ?_
    refine wp_iconst (v := 4) (pc := 80) dX12_blank_80 (by decide) ?_
    refine wp_iast (pc := 81) dX12_blank_81 (TX12s_a19 th) (vp_dec (by decide)) ?_
    refine wp_aload_n (pc := 82) dX12_blank_82 rfl ?_
    refine wp_getR (pc := 83) dX12_blank_83 fl_X12_38 rfl (TX12s_k th) (TX12s_r19 th) ?_
    refine wp_iconst (v := 1) (pc := 86) dX12_blank_86 (by decide) ?_
    refine wp_iconst (v := -1) (pc := 87) dX12_blank_87 (by decide) ?_
    refine wp_iast (pc := 88) dX12_blank_88 (TX12s_a19 th) (vp_dec (by decide)) ?_
    exact r_V (pc := 89) dX12_blank_89 rfl F
/-- blank(I)V -/
theorem w_X12_blank {l : Launch} {d : Nat} {kd : pm_K} {mr : pm_R} {h : Nat} {x1 : Int32} {mi : pm_I} {ml : pm_L} {K : pm_I → pm_L → Prop} (th : TX12s kd mr h)
    (F : c_X12_blank_2 l d kd mr h x1 0 mi ml K) :
    wV l M_X12_blank d [.ref h, .int x1] kd mr mi ml K := by
  show wp l M_X12_blank d 0 0 0 [some (.ref h), some (.int x1), none] [] 0 0 kd mi ml mr _
  refine wp_iconst (v := 0) (pc := 0) dX12_blank_0 (by decide) ?_
  refine wp_istore_n (pc := 1) dX12_blank_1 (Nat.le_of_ble_eq_true rfl) rfl ?_
  show wp l M_X12_blank d 0 0 _ [some (.ref h), some (.int x1), some (.int 0)] _ 0 0 kd _ _ mr _
  exact wp_less (L' := [some (.ref h), some (.int x1), some (.int 0)]) ⟨rfl, ⟨rfl, ⟨rfl, trivial⟩⟩⟩ F
def c_X12_token_0 (l : Launch) (d : Nat) (kd : pm_K) (mr : pm_R) (h : Nat)  (mi : pm_I) (ml : pm_L) (K : pm_I → pm_L → Prop) : Prop := wp l M_X12_token d 0 0 0 [some (.ref h), none, none] [] 0 0 kd mi ml mr (qV kd mr K)
def c_X12_token_18 (l : Launch) (d : Nat) (kd : pm_K) (mr : pm_R) (h : Nat)  (mi : pm_I) (ml : pm_L) (K : pm_I → pm_L → Prop) : Prop := wp l M_X12_token d 0 0 18 [some (.ref h), none, none] [] 0 0 kd mi ml mr (qV kd mr K)
def c_X12_token_205 (l : Launch) (d : Nat) (kd : pm_K) (mr : pm_R) (h : Nat) (x2 : Int32) (s0 : Int32) (mi : pm_I) (ml : pm_L) (K : pm_I → pm_L → Prop) : Prop := wp l M_X12_token d 0 0 205 [some (.ref h), none, some (.int x2)] [.int s0, .ref h] 0 0 kd mi ml mr (qV kd mr K)
def c_X12_token_163 (l : Launch) (d : Nat) (kd : pm_K) (mr : pm_R) (h : Nat) (x2 : Int32) (mi : pm_I) (ml : pm_L) (K : pm_I → pm_L → Prop) : Prop := wp l M_X12_token d 0 0 163 [some (.ref h), none, some (.int x2)] [] 0 0 kd mi ml mr (qV kd mr K)
def c_X12_token_74 (l : Launch) (d : Nat) (kd : pm_K) (mr : pm_R) (h : Nat) (x2 : Int32) (mi : pm_I) (ml : pm_L) (K : pm_I → pm_L → Prop) : Prop := wp l M_X12_token d 0 0 74 [some (.ref h), none, some (.int x2)] [] 0 0 kd mi ml mr (qV kd mr K)
theorem w_X12_token_74 {l : Launch} {d : Nat} {kd : pm_K} {mr : pm_R} {h : Nat} {x2 : Int32} {mi : pm_I} {ml : pm_L} {K : pm_I → pm_L → Prop} (th : TX12s kd mr h)
    (F : wI l M_X12_see d [.ref h] kd mr mi ml (fun r24 mi25 ml26 => wB l M_X12_in d [.int r24, .int 97, .int 122] kd mr mi25 ml26 (fun r27 mi28 ml29 => ((r27 = false → K (pm_up mi28 h 13 2) (pm_up ml29 h 15 (if x2 ≤ 8 then (ml29 h 15) else (0 : Int64)))) ∧ (r27 = true → wI l M_X12_see d [.ref h] kd mr mi28 ml29 (fun r34 mi35 ml36 => c_X12_token_74 l (d + 1) kd mr h (x2 + 1) (pm_up mi35 h 10 ((mi35 h 10) + 1)) (pm_up ml36 h 15 (((ml29 h 15) <<< ((Int32.toInt64 8) &&& 63)) ||| (Int32.toInt64 r34))) K)))))) :
    c_X12_token_74 l (d + 1) kd mr h x2 mi ml K := by
  show wp l M_X12_token (d + 1) 0 0 74 [some (.ref h), none, some (.int x2)] [] 0 0 kd mi ml mr _
  refine wp_aload_n (pc := 74) dX12_token_74 rfl ?_
  refine cvI [] [] (pc := 75) dX12_token_75 ml_X12_133 iv_X12_see (TX12s_k th) (cl_X12 rfl) rfl rfl (Nat.le_of_ble_eq_true rfl) (Nat.le_of_ble_eq_true rfl) (wI.mono (fun r24 mi25 ml26 F => ?_) F)
  refine wp_bipush (v := 97) (pc := 78) dX12_token_78 (by decide) ?_
  refine wp_bipush (v := 122) (pc := 80) dX12_token_80 (by decide) ?_
  refine csB [.int r24, .int 97, .int 122] [] (pc := 82) dX12_token_82 ml_X12_119 st_X12_in rfl rfl (Nat.le_of_ble_eq_true rfl) (Nat.le_of_ble_eq_true rfl) (wB.mono (fun r27 mi28 ml29 F => ?_) F)
  refine b_eq (tgt := 121) (pc := 85) dX12_token_85 (by decide) (fun c30 => ?_) (fun c30 => ?_)
  · have F := F.1 c30
    refine wp_aload_n (pc := 121) dX12_token_121 rfl ?_
    refine wp_iload_n (pc := 122) dX12_token_122 rfl ?_
    refine wp_bipush (v := 8) (pc := 123) dX12_token_123 (by decide) ?_
    suffices J31 : ∀ v32 : Int64, v32 = (if x2 ≤ 8 then (ml29 h 15) else (0 : Int64)) → wp l M_X12_token (d + 1) 0 0 136 [some (.ref h), none, some (.int x2)] [.long v32, .ref h] 0 0 kd mi28 ml29 mr _ by
        refine wp_icmp_le (tgt := 132) (pc := 125) dX12_token_125 (by decide) (fun c33 => ?_) (fun c33 => ?_)
        · refine wp_aload_n (pc := 132) dX12_token_132 rfl ?_
          refine wp_getL (pc := 133) dX12_token_133 fl_X12_140 rfl (TX12s_k th) ?_
          exact J31 _ (by simp only [eq_true c33, if_true, if_false, decide_true, decide_false, Bool.not_true, Bool.not_false, Bool.true_and, Bool.false_and, Bool.true_or, Bool.false_or, b2i_t, b2i_f, ite_true, ite_false, not_true_eq_false, not_false_eq_true, reduceCtorEq, decide_eq_true_eq])
        · refine wp_lconst (v := 0) (pc := 128) dX12_token_128 (by decide) ?_
          refine wp_goto (tgt := 136) (pc := 129) dX12_token_129 (by decide) ?_
          exact J31 _ (by simp only [c33, if_true, if_false, decide_true, decide_false, Bool.not_true, Bool.not_false, Bool.true_and, Bool.false_and, Bool.true_or, Bool.false_or, b2i_t, b2i_f, ite_true, ite_false, not_true_eq_false, not_false_eq_true, reduceCtorEq, decide_eq_true_eq])
    intro v32 ev32
    subst ev32
    refine wp_putL (pc := 136) dX12_token_136 fl_X12_140 rfl rfl (TX12s_k th) ?_
    refine wp_aload_n (pc := 139) dX12_token_139 rfl ?_
    refine wp_iconst (v := 2) (pc := 140) dX12_token_140 (by decide) ?_
    refine wp_putI (pc := 141) dX12_token_141 fl_X12_144 rfl rfl (TX12s_k th) ?_
    refine wp_goto (tgt := 266) (pc := 144) dX12_token_144 (by decide) ?_
    exact r_V (pc := 266) dX12_token_266 rfl F
  · have F := F.2 c30
    refine wp_aload_n (pc := 88) dX12_token_88 rfl ?_
    refine wp_aload_n (pc := 89) dX12_token_89 rfl ?_
    refine wp_getL (pc := 90) dX12_token_90 fl_X12_140 rfl (TX12s_k th) ?_
    refine wp_bipush (v := 8) (pc := 93) dX12_token_93 (by decide) ?_
    refine wp_lshl (pc := 95) dX12_token_95 ?_
    refine wp_aload_n (pc := 96) dX12_token_96 rfl ?_
    refine cvI [] [.long ((ml29 h 15) <<< ((Int32.toInt64 8) &&& 63)), .ref h] (pc := 97) dX12_token_97 ml_X12_133 iv_X12_see (TX12s_k th) (cl_X12 rfl) rfl rfl (Nat.le_of_ble_eq_true rfl) (Nat.le_of_ble_eq_true rfl) (wI.mono (fun r34 mi35 ml36 F => ?_) F)
    refine wp_i2l (pc := 100) dX12_token_100 ?_
    refine wp_lor (pc := 101) dX12_token_101 ?_
    refine wp_putL (pc := 102) dX12_token_102 fl_X12_140 rfl rfl (TX12s_k th) ?_
    refine wp_aload_n (pc := 105) dX12_token_105 rfl ?_
    refine wp_dup (pc := 106) dX12_token_106 rfl ?_
    refine wp_getI (pc := 107) dX12_token_107 fl_X12_127 rfl (TX12s_k th) ?_
    refine wp_iconst (v := 1) (pc := 110) dX12_token_110 (by decide) ?_
    refine wp_iadd (pc := 111) dX12_token_111 ?_
    refine wp_putI (pc := 112) dX12_token_112 fl_X12_127 rfl rfl (TX12s_k th) ?_
    refine wp_iinc (v := (x2 + 1)) (pc := 115) dX12_token_115 rfl rfl rfl ?_
    show wp l M_X12_token (d + 1) 0 0 _ [some (.ref h), none, some (.int (x2 + 1))] _ 0 0 kd _ _ mr _
    refine wp_goto (tgt := 74) (pc := 118) dX12_token_118 (by decide) ?_
    exact wp_less (L' := [some (.ref h), none, some (.int (x2 + 1))]) ⟨rfl, ⟨rfl, trivial⟩⟩ F
theorem w_X12_token_163 {l : Launch} {d : Nat} {kd : pm_K} {mr : pm_R} {h : Nat} {x2 : Int32} {mi : pm_I} {ml : pm_L} {K : pm_I → pm_L → Prop} (th : TX12s kd mr h)
    (F : wI l M_X12_see d [.ref h] kd mr mi ml (fun r37 mi38 ml39 => wB l M_X12_in d [.int r37, .int 48, .int 57] kd mr mi38 ml39 (fun r40 mi41 ml42 => ((r40 = false → K (pm_up mi41 h 13 (if x2 ≤ 2 then (3 : Int32) else (1 : Int32))) ml42) ∧ (r40 = true → ((2 ≤ x2 → c_X12_token_205 l (d + 1) kd mr h x2 (mi41 h 14) mi41 ml42 K) ∧ (¬ 2 ≤ x2 → wI l M_X12_see d [.ref h] kd mr mi41 ml42 (fun r48 mi49 ml50 => c_X12_token_205 l (d + 1) kd mr h x2 (((10 * (mi41 h 14)) + r48) - 48) mi49 ml50 K)))))))) :
    c_X12_token_163 l (d + 1) kd mr h x2 mi ml K := by
  show wp l M_X12_token (d + 1) 0 0 163 [some (.ref h), none, some (.int x2)] [] 0 0 kd mi ml mr _
  refine wp_aload_n (pc := 163) dX12_token_163 rfl ?_
  refine cvI [] [] (pc := 164) dX12_token_164 ml_X12_133 iv_X12_see (TX12s_k th) (cl_X12 rfl) rfl rfl (Nat.le_of_ble_eq_true rfl) (Nat.le_of_ble_eq_true rfl) (wI.mono (fun r37 mi38 ml39 F => ?_) F)
  refine wp_bipush (v := 48) (pc := 167) dX12_token_167 (by decide) ?_
  refine wp_bipush (v := 57) (pc := 169) dX12_token_169 (by decide) ?_
  refine csB [.int r37, .int 48, .int 57] [] (pc := 171) dX12_token_171 ml_X12_119 st_X12_in rfl rfl (Nat.le_of_ble_eq_true rfl) (Nat.le_of_ble_eq_true rfl) (wB.mono (fun r40 mi41 ml42 F => ?_) F)
  refine b_eq (tgt := 224) (pc := 174) dX12_token_174 (by decide) (fun c43 => ?_) (fun c43 => ?_)
  · have F := F.1 c43
    refine wp_aload_n (pc := 224) dX12_token_224 rfl ?_
    refine wp_iload_n (pc := 225) dX12_token_225 rfl ?_
    refine wp_iconst (v := 2) (pc := 226) dX12_token_226 (by decide) ?_
    suffices J44 : ∀ v45 : Int32, v45 = (if x2 ≤ 2 then (3 : Int32) else (1 : Int32)) → wp l M_X12_token (d + 1) 0 0 235 [some (.ref h), none, some (.int x2)] [.int v45, .ref h] 0 0 kd mi41 ml42 mr _ by
        refine wp_icmp_le (tgt := 234) (pc := 227) dX12_token_227 (by decide) (fun c46 => ?_) (fun c46 => ?_)
        · refine wp_iconst (v := 3) (pc := 234) dX12_token_234 (by decide) ?_
          exact J44 _ (by simp only [eq_true c46, if_true, if_false, decide_true, decide_false, Bool.not_true, Bool.not_false, Bool.true_and, Bool.false_and, Bool.true_or, Bool.false_or, b2i_t, b2i_f, ite_true, ite_false, not_true_eq_false, not_false_eq_true, reduceCtorEq, decide_eq_true_eq])
        · refine wp_iconst (v := 1) (pc := 230) dX12_token_230 (by decide) ?_
          refine wp_goto (tgt := 235) (pc := 231) dX12_token_231 (by decide) ?_
          exact J44 _ (by simp only [c46, if_true, if_false, decide_true, decide_false, Bool.not_true, Bool.not_false, Bool.true_and, Bool.false_and, Bool.true_or, Bool.false_or, b2i_t, b2i_f, ite_true, ite_false, not_true_eq_false, not_false_eq_true, reduceCtorEq, decide_eq_true_eq])
    intro v45 ev45
    subst ev45
    refine wp_putI (pc := 235) dX12_token_235 fl_X12_144 rfl rfl (TX12s_k th) ?_
    refine wp_goto (tgt := 266) (pc := 238) dX12_token_238 (by decide) ?_
    exact r_V (pc := 266) dX12_token_266 rfl F
  · have F := F.2 c43
    refine wp_aload_n (pc := 177) dX12_token_177 rfl ?_
    refine wp_iload_n (pc := 178) dX12_token_178 rfl ?_
    refine wp_iconst (v := 2) (pc := 179) dX12_token_179 (by decide) ?_
    refine wp_icmp_ge (tgt := 201) (pc := 180) dX12_token_180 (by decide) (fun c47 => ?_) (fun c47 => ?_)
    · have F := F.1 c47
      refine wp_aload_n (pc := 201) dX12_token_201 rfl ?_
      refine wp_getI (pc := 202) dX12_token_202 fl_X12_147 rfl (TX12s_k th) ?_
      exact wp_less (L' := [some (.ref h), none, some (.int x2)]) ⟨rfl, ⟨rfl, trivial⟩⟩ F
    · have F := F.2 c47
      refine wp_bipush (v := 10) (pc := 183) dX12_token_183 (by decide) ?_
      refine wp_aload_n (pc := 185) dX12_token_185 rfl ?_
      refine wp_getI (pc := 186) dX12_token_186 fl_X12_147 rfl (TX12s_k th) ?_
      refine wp_imul (pc := 189) dX12_token_189 ?_
      refine wp_aload_n (pc := 190) dX12_token_190 rfl ?_
      refine cvI [] [.int (10 * (mi41 h 14)), .ref h] (pc := 191) dX12_token_191 ml_X12_133 iv_X12_see (TX12s_k th) (cl_X12 rfl) rfl rfl (Nat.le_of_ble_eq_true rfl) (Nat.le_of_ble_eq_true rfl) (wI.mono (fun r48 mi49 ml50 F => ?_) F)
      refine wp_iadd (pc := 194) dX12_token_194 ?_
      refine wp_bipush (v := 48) (pc := 195) dX12_token_195 (by decide) ?_
      refine wp_isub (pc := 197) dX12_token_197 ?_
      refine wp_goto (tgt := 205) (pc := 198) dX12_token_198 (by decide) ?_
      exact wp_less (L' := [some (.ref h), none, some (.int x2)]) ⟨rfl, ⟨rfl, trivial⟩⟩ F
theorem w_X12_token_205 {l : Launch} {d : Nat} {kd : pm_K} {mr : pm_R} {h : Nat} {x2 : Int32} {s0 : Int32} {mi : pm_I} {ml : pm_L} {K : pm_I → pm_L → Prop} (th : TX12s kd mr h)
    (F : c_X12_token_163 l (d + 1) kd mr h (x2 + 1) (pm_up (pm_up mi h 14 s0) h 10 ((mi h 10) + 1)) ml K) :
    c_X12_token_205 l (d + 1) kd mr h x2 s0 mi ml K := by
  show wp l M_X12_token (d + 1) 0 0 205 [some (.ref h), none, some (.int x2)] [.int s0, .ref h] 0 0 kd mi ml mr _
  refine wp_putI (pc := 205) dX12_token_205 fl_X12_147 rfl rfl (TX12s_k th) ?_
  refine wp_aload_n (pc := 208) dX12_token_208 rfl ?_
  refine wp_dup (pc := 209) dX12_token_209 rfl ?_
  refine wp_getI (pc := 210) dX12_token_210 fl_X12_127 rfl (TX12s_k th) ?_
  refine t_I (show ((pm_up mi h 14 s0) h 10) = (mi h 10) from pm_up_j _ _ (by decide)) ?_
  refine wp_iconst (v := 1) (pc := 213) dX12_token_213 (by decide) ?_
  refine wp_iadd (pc := 214) dX12_token_214 ?_
  refine wp_putI (pc := 215) dX12_token_215 fl_X12_127 rfl rfl (TX12s_k th) ?_
  refine wp_iinc (v := (x2 + 1)) (pc := 218) dX12_token_218 rfl rfl rfl ?_
  show wp l M_X12_token (d + 1) 0 0 _ [some (.ref h), none, some (.int (x2 + 1))] _ 0 0 kd _ _ mr _
  refine wp_goto (tgt := 163) (pc := 221) dX12_token_221 (by decide) ?_
  exact wp_less (L' := [some (.ref h), none, some (.int (x2 + 1))]) ⟨rfl, ⟨rfl, trivial⟩⟩ F
theorem w_X12_token_18 {l : Launch} {d : Nat} {kd : pm_K} {mr : pm_R} {h : Nat}  {mi : pm_I} {ml : pm_L} {K : pm_I → pm_L → Prop} (th : TX12s kd mr h)
    (F : c_X12_token_0 l (d + 1) kd mr h  (pm_up mi h 10 ((mi h 10) + 1)) ml K) :
    c_X12_token_18 l (d + 1) kd mr h mi ml K := by
  show wp l M_X12_token (d + 1) 0 0 18 [some (.ref h), none, none] [] 0 0 kd mi ml mr _
  refine wp_aload_n (pc := 18) dX12_token_18 rfl ?_
  refine wp_dup (pc := 19) dX12_token_19 rfl ?_
  refine wp_getI (pc := 20) dX12_token_20 fl_X12_127 rfl (TX12s_k th) ?_
  refine wp_iconst (v := 1) (pc := 23) dX12_token_23 (by decide) ?_
  refine wp_iadd (pc := 24) dX12_token_24 ?_
  refine wp_putI (pc := 25) dX12_token_25 fl_X12_127 rfl rfl (TX12s_k th) ?_
  refine wp_goto (tgt := 0) (pc := 28) dX12_token_28 (by decide) ?_
  exact wp_less (L' := [some (.ref h), none, none]) ⟨rfl, trivial⟩ F
theorem w_X12_token_0 {l : Launch} {d : Nat} {kd : pm_K} {mr : pm_R} {h : Nat}  {mi : pm_I} {ml : pm_L} {K : pm_I → pm_L → Prop} (th : TX12s kd mr h)
    (F : wI l M_X12_see d [.ref h] kd mr mi ml (fun r51 mi52 ml53 => ((r51 = 10 → c_X12_token_18 l (d + 1) kd mr h  mi52 ml53 K) ∧ (¬ r51 = 10 → wI l M_X12_see d [.ref h] kd mr mi52 ml53 (fun r55 mi56 ml57 => ((¬ r55 = 32 → wI l M_X12_see d [.ref h] kd mr (pm_up mi56 h 12 (mi56 h 10)) ml57 (fun r59 mi60 ml61 => ((0 ≤ r59 → wB l M_X12_in d [.int r59, .int 97, .int 122] kd mr mi60 (pm_up ml61 h 15 0) (fun r63 mi64 ml65 => ((r63 = false → wB l M_X12_in d [.int r59, .int 48, .int 57] kd mr mi64 ml65 (fun r67 mi68 ml69 => ((r67 = false → K (pm_up (pm_up mi68 h 10 ((mi68 h 10) + 1)) h 13 (if r59 = 59 then (4 : Int32) else (1 : Int32))) ml69) ∧ (r67 = true → c_X12_token_163 l (d + 1) kd mr h 0 (pm_up mi68 h 14 0) ml69 K)))) ∧ (r63 = true → c_X12_token_74 l (d + 1) kd mr h 0 mi64 ml65 K)))) ∧ (¬ 0 ≤ r59 → K (pm_up mi60 h 13 0) (pm_up ml61 h 15 0))))) ∧ (r55 = 32 → c_X12_token_18 l (d + 1) kd mr h  mi56 ml57 K))))))) :
    c_X12_token_0 l (d + 1) kd mr h mi ml K := by
  show wp l M_X12_token (d + 1) 0 0 0 [some (.ref h), none, none] [] 0 0 kd mi ml mr _
  refine wp_aload_n (pc := 0) dX12_token_0 rfl ?_
  refine cvI [] [] (pc := 1) dX12_token_1 ml_X12_133 iv_X12_see (TX12s_k th) (cl_X12 rfl) rfl rfl (Nat.le_of_ble_eq_true rfl) (Nat.le_of_ble_eq_true rfl) (wI.mono (fun r51 mi52 ml53 F => ?_) F)
  refine wp_bipush (v := 10) (pc := 4) dX12_token_4 (by decide) ?_
  refine wp_icmp_eq (tgt := 18) (pc := 6) dX12_token_6 (by decide) (fun c54 => ?_) (fun c54 => ?_)
  · have F := F.1 c54
    exact wp_less (L' := [some (.ref h), none, none]) ⟨rfl, trivial⟩ F
  · have F := F.2 c54
    refine wp_aload_n (pc := 9) dX12_token_9 rfl ?_
    refine cvI [] [] (pc := 10) dX12_token_10 ml_X12_133 iv_X12_see (TX12s_k th) (cl_X12 rfl) rfl rfl (Nat.le_of_ble_eq_true rfl) (Nat.le_of_ble_eq_true rfl) (wI.mono (fun r55 mi56 ml57 F => ?_) F)
    refine wp_bipush (v := 32) (pc := 13) dX12_token_13 (by decide) ?_
    refine wp_icmp_ne (tgt := 31) (pc := 15) dX12_token_15 (by decide) (fun c58 => ?_) (fun c58 => ?_)
    · have F := F.1 c58
      refine wp_aload_n (pc := 31) dX12_token_31 rfl ?_
      refine wp_aload_n (pc := 32) dX12_token_32 rfl ?_
      refine wp_getI (pc := 33) dX12_token_33 fl_X12_127 rfl (TX12s_k th) ?_
      refine wp_putI (pc := 36) dX12_token_36 fl_X12_137 rfl rfl (TX12s_k th) ?_
      refine wp_aload_n (pc := 39) dX12_token_39 rfl ?_
      refine cvI [] [] (pc := 40) dX12_token_40 ml_X12_133 iv_X12_see (TX12s_k th) (cl_X12 rfl) rfl rfl (Nat.le_of_ble_eq_true rfl) (Nat.le_of_ble_eq_true rfl) (wI.mono (fun r59 mi60 ml61 F => ?_) F)
      refine wp_istore_n (pc := 43) dX12_token_43 (Nat.le_of_ble_eq_true rfl) rfl ?_
      show wp l M_X12_token (d + 1) 0 0 _ [some (.ref h), some (.int r59), none] _ 0 0 kd _ _ mr _
      refine wp_aload_n (pc := 44) dX12_token_44 rfl ?_
      refine wp_lconst (v := 0) (pc := 45) dX12_token_45 (by decide) ?_
      refine wp_putL (pc := 46) dX12_token_46 fl_X12_140 rfl rfl (TX12s_k th) ?_
      refine wp_iconst (v := 0) (pc := 49) dX12_token_49 (by decide) ?_
      refine wp_istore_n (pc := 50) dX12_token_50 (Nat.le_of_ble_eq_true rfl) rfl ?_
      show wp l M_X12_token (d + 1) 0 0 _ [some (.ref h), some (.int r59), some (.int 0)] _ 0 0 kd _ _ mr _
      refine wp_iload_n (pc := 51) dX12_token_51 rfl ?_
      refine wp_if_ge (tgt := 63) (pc := 52) dX12_token_52 (by decide) (fun c62 => ?_) (fun c62 => ?_)
      · have F := F.1 c62
        refine wp_iload_n (pc := 63) dX12_token_63 rfl ?_
        refine wp_bipush (v := 97) (pc := 64) dX12_token_64 (by decide) ?_
        refine wp_bipush (v := 122) (pc := 66) dX12_token_66 (by decide) ?_
        refine csB [.int r59, .int 97, .int 122] [] (pc := 68) dX12_token_68 ml_X12_119 st_X12_in rfl rfl (Nat.le_of_ble_eq_true rfl) (Nat.le_of_ble_eq_true rfl) (wB.mono (fun r63 mi64 ml65 F => ?_) F)
        refine b_eq (tgt := 147) (pc := 71) dX12_token_71 (by decide) (fun c66 => ?_) (fun c66 => ?_)
        · have F := F.1 c66
          refine wp_iload_n (pc := 147) dX12_token_147 rfl ?_
          refine wp_bipush (v := 48) (pc := 148) dX12_token_148 (by decide) ?_
          refine wp_bipush (v := 57) (pc := 150) dX12_token_150 (by decide) ?_
          refine csB [.int r59, .int 48, .int 57] [] (pc := 152) dX12_token_152 ml_X12_119 st_X12_in rfl rfl (Nat.le_of_ble_eq_true rfl) (Nat.le_of_ble_eq_true rfl) (wB.mono (fun r67 mi68 ml69 F => ?_) F)
          refine b_eq (tgt := 241) (pc := 155) dX12_token_155 (by decide) (fun c70 => ?_) (fun c70 => ?_)
          · have F := F.1 c70
            refine wp_aload_n (pc := 241) dX12_token_241 rfl ?_
            refine wp_dup (pc := 242) dX12_token_242 rfl ?_
            refine wp_getI (pc := 243) dX12_token_243 fl_X12_127 rfl (TX12s_k th) ?_
            refine wp_iconst (v := 1) (pc := 246) dX12_token_246 (by decide) ?_
            refine wp_iadd (pc := 247) dX12_token_247 ?_
            refine wp_putI (pc := 248) dX12_token_248 fl_X12_127 rfl rfl (TX12s_k th) ?_
            refine wp_aload_n (pc := 251) dX12_token_251 rfl ?_
            refine wp_iload_n (pc := 252) dX12_token_252 rfl ?_
            refine wp_bipush (v := 59) (pc := 253) dX12_token_253 (by decide) ?_
            suffices J71 : ∀ v72 : Int32, v72 = (if r59 = 59 then (4 : Int32) else (1 : Int32)) → wp l M_X12_token (d + 1) 0 0 263 [some (.ref h), some (.int r59), some (.int 0)] [.int v72, .ref h] 0 0 kd (pm_up mi68 h 10 ((mi68 h 10) + 1)) ml69 mr _ by
                refine wp_icmp_ne (tgt := 262) (pc := 255) dX12_token_255 (by decide) (fun c73 => ?_) (fun c73 => ?_)
                · refine wp_iconst (v := 1) (pc := 262) dX12_token_262 (by decide) ?_
                  exact J71 _ (by simp only [c73, if_true, if_false, decide_true, decide_false, Bool.not_true, Bool.not_false, Bool.true_and, Bool.false_and, Bool.true_or, Bool.false_or, b2i_t, b2i_f, ite_true, ite_false, not_true_eq_false, not_false_eq_true, reduceCtorEq, decide_eq_true_eq])
                · refine wp_iconst (v := 4) (pc := 258) dX12_token_258 (by decide) ?_
                  refine wp_goto (tgt := 263) (pc := 259) dX12_token_259 (by decide) ?_
                  exact J71 _ (by simp only [eq_true c73, if_true, if_false, decide_true, decide_false, Bool.not_true, Bool.not_false, Bool.true_and, Bool.false_and, Bool.true_or, Bool.false_or, b2i_t, b2i_f, ite_true, ite_false, not_true_eq_false, not_false_eq_true, reduceCtorEq, decide_eq_true_eq])
            intro v72 ev72
            subst ev72
            refine wp_putI (pc := 263) dX12_token_263 fl_X12_144 rfl rfl (TX12s_k th) ?_
            exact r_V (pc := 266) dX12_token_266 rfl F
          · have F := F.2 c70
            refine wp_aload_n (pc := 158) dX12_token_158 rfl ?_
            refine wp_iconst (v := 0) (pc := 159) dX12_token_159 (by decide) ?_
            refine wp_putI (pc := 160) dX12_token_160 fl_X12_147 rfl rfl (TX12s_k th) ?_
            exact wp_less (L' := [some (.ref h), none, some (.int 0)]) ⟨rfl, ⟨rfl, trivial⟩⟩ F
        · have F := F.2 c66
          exact wp_less (L' := [some (.ref h), none, some (.int 0)]) ⟨rfl, ⟨rfl, trivial⟩⟩ F
      · have F := F.2 c62
        refine wp_aload_n (pc := 55) dX12_token_55 rfl ?_
        refine wp_iconst (v := 0) (pc := 56) dX12_token_56 (by decide) ?_
        refine wp_putI (pc := 57) dX12_token_57 fl_X12_144 rfl rfl (TX12s_k th) ?_
        refine wp_goto (tgt := 266) (pc := 60) dX12_token_60 (by decide) ?_
        exact r_V (pc := 266) dX12_token_266 rfl F
    · have F := F.2 c58
      exact wp_less (L' := [some (.ref h), none, none]) ⟨rfl, trivial⟩ F
/-- token()V -/
theorem w_X12_token {l : Launch} {d : Nat} {kd : pm_K} {mr : pm_R} {h : Nat}  {mi : pm_I} {ml : pm_L} {K : pm_I → pm_L → Prop} (th : TX12s kd mr h)
    (F : wI l M_X12_see d [.ref h] kd mr mi ml (fun r1 mi2 ml3 => ((r1 = 10 → c_X12_token_18 l (d + 1) kd mr h  mi2 ml3 K) ∧ (¬ r1 = 10 → wI l M_X12_see d [.ref h] kd mr mi2 ml3 (fun r5 mi6 ml7 => ((¬ r5 = 32 → wI l M_X12_see d [.ref h] kd mr (pm_up mi6 h 12 (mi6 h 10)) ml7 (fun r9 mi10 ml11 => ((0 ≤ r9 → wB l M_X12_in d [.int r9, .int 97, .int 122] kd mr mi10 (pm_up ml11 h 15 0) (fun r13 mi14 ml15 => ((r13 = false → wB l M_X12_in d [.int r9, .int 48, .int 57] kd mr mi14 ml15 (fun r17 mi18 ml19 => ((r17 = false → K (pm_up (pm_up mi18 h 10 ((mi18 h 10) + 1)) h 13 (if r9 = 59 then (4 : Int32) else (1 : Int32))) ml19) ∧ (r17 = true → c_X12_token_163 l (d + 1) kd mr h 0 (pm_up mi18 h 14 0) ml19 K)))) ∧ (r13 = true → c_X12_token_74 l (d + 1) kd mr h 0 mi14 ml15 K)))) ∧ (¬ 0 ≤ r9 → K (pm_up mi10 h 13 0) (pm_up ml11 h 15 0))))) ∧ (r5 = 32 → c_X12_token_18 l (d + 1) kd mr h  mi6 ml7 K))))))) :
    wV l M_X12_token (d + 1) [.ref h] kd mr mi ml K := by
  show wp l M_X12_token (d + 1) 0 0 0 [some (.ref h), none, none] [] 0 0 kd mi ml mr _
  refine wp_aload_n (pc := 0) dX12_token_0 rfl ?_
  refine cvI [] [] (pc := 1) dX12_token_1 ml_X12_133 iv_X12_see (TX12s_k th) (cl_X12 rfl) rfl rfl (Nat.le_of_ble_eq_true rfl) (Nat.le_of_ble_eq_true rfl) (wI.mono (fun r1 mi2 ml3 F => ?_) F)
  refine wp_bipush (v := 10) (pc := 4) dX12_token_4 (by decide) ?_
  refine wp_icmp_eq (tgt := 18) (pc := 6) dX12_token_6 (by decide) (fun c4 => ?_) (fun c4 => ?_)
  · have F := F.1 c4
    exact wp_less (L' := [some (.ref h), none, none]) ⟨rfl, trivial⟩ F
  · have F := F.2 c4
    refine wp_aload_n (pc := 9) dX12_token_9 rfl ?_
    refine cvI [] [] (pc := 10) dX12_token_10 ml_X12_133 iv_X12_see (TX12s_k th) (cl_X12 rfl) rfl rfl (Nat.le_of_ble_eq_true rfl) (Nat.le_of_ble_eq_true rfl) (wI.mono (fun r5 mi6 ml7 F => ?_) F)
    refine wp_bipush (v := 32) (pc := 13) dX12_token_13 (by decide) ?_
    refine wp_icmp_ne (tgt := 31) (pc := 15) dX12_token_15 (by decide) (fun c8 => ?_) (fun c8 => ?_)
    · have F := F.1 c8
      refine wp_aload_n (pc := 31) dX12_token_31 rfl ?_
      refine wp_aload_n (pc := 32) dX12_token_32 rfl ?_
      refine wp_getI (pc := 33) dX12_token_33 fl_X12_127 rfl (TX12s_k th) ?_
      refine wp_putI (pc := 36) dX12_token_36 fl_X12_137 rfl rfl (TX12s_k th) ?_
      refine wp_aload_n (pc := 39) dX12_token_39 rfl ?_
      refine cvI [] [] (pc := 40) dX12_token_40 ml_X12_133 iv_X12_see (TX12s_k th) (cl_X12 rfl) rfl rfl (Nat.le_of_ble_eq_true rfl) (Nat.le_of_ble_eq_true rfl) (wI.mono (fun r9 mi10 ml11 F => ?_) F)
      refine wp_istore_n (pc := 43) dX12_token_43 (Nat.le_of_ble_eq_true rfl) rfl ?_
      show wp l M_X12_token (d + 1) 0 0 _ [some (.ref h), some (.int r9), none] _ 0 0 kd _ _ mr _
      refine wp_aload_n (pc := 44) dX12_token_44 rfl ?_
      refine wp_lconst (v := 0) (pc := 45) dX12_token_45 (by decide) ?_
      refine wp_putL (pc := 46) dX12_token_46 fl_X12_140 rfl rfl (TX12s_k th) ?_
      refine wp_iconst (v := 0) (pc := 49) dX12_token_49 (by decide) ?_
      refine wp_istore_n (pc := 50) dX12_token_50 (Nat.le_of_ble_eq_true rfl) rfl ?_
      show wp l M_X12_token (d + 1) 0 0 _ [some (.ref h), some (.int r9), some (.int 0)] _ 0 0 kd _ _ mr _
      refine wp_iload_n (pc := 51) dX12_token_51 rfl ?_
      refine wp_if_ge (tgt := 63) (pc := 52) dX12_token_52 (by decide) (fun c12 => ?_) (fun c12 => ?_)
      · have F := F.1 c12
        refine wp_iload_n (pc := 63) dX12_token_63 rfl ?_
        refine wp_bipush (v := 97) (pc := 64) dX12_token_64 (by decide) ?_
        refine wp_bipush (v := 122) (pc := 66) dX12_token_66 (by decide) ?_
        refine csB [.int r9, .int 97, .int 122] [] (pc := 68) dX12_token_68 ml_X12_119 st_X12_in rfl rfl (Nat.le_of_ble_eq_true rfl) (Nat.le_of_ble_eq_true rfl) (wB.mono (fun r13 mi14 ml15 F => ?_) F)
        refine b_eq (tgt := 147) (pc := 71) dX12_token_71 (by decide) (fun c16 => ?_) (fun c16 => ?_)
        · have F := F.1 c16
          refine wp_iload_n (pc := 147) dX12_token_147 rfl ?_
          refine wp_bipush (v := 48) (pc := 148) dX12_token_148 (by decide) ?_
          refine wp_bipush (v := 57) (pc := 150) dX12_token_150 (by decide) ?_
          refine csB [.int r9, .int 48, .int 57] [] (pc := 152) dX12_token_152 ml_X12_119 st_X12_in rfl rfl (Nat.le_of_ble_eq_true rfl) (Nat.le_of_ble_eq_true rfl) (wB.mono (fun r17 mi18 ml19 F => ?_) F)
          refine b_eq (tgt := 241) (pc := 155) dX12_token_155 (by decide) (fun c20 => ?_) (fun c20 => ?_)
          · have F := F.1 c20
            refine wp_aload_n (pc := 241) dX12_token_241 rfl ?_
            refine wp_dup (pc := 242) dX12_token_242 rfl ?_
            refine wp_getI (pc := 243) dX12_token_243 fl_X12_127 rfl (TX12s_k th) ?_
            refine wp_iconst (v := 1) (pc := 246) dX12_token_246 (by decide) ?_
            refine wp_iadd (pc := 247) dX12_token_247 ?_
            refine wp_putI (pc := 248) dX12_token_248 fl_X12_127 rfl rfl (TX12s_k th) ?_
            refine wp_aload_n (pc := 251) dX12_token_251 rfl ?_
            refine wp_iload_n (pc := 252) dX12_token_252 rfl ?_
            refine wp_bipush (v := 59) (pc := 253) dX12_token_253 (by decide) ?_
            suffices J21 : ∀ v22 : Int32, v22 = (if r9 = 59 then (4 : Int32) else (1 : Int32)) → wp l M_X12_token (d + 1) 0 0 263 [some (.ref h), some (.int r9), some (.int 0)] [.int v22, .ref h] 0 0 kd (pm_up mi18 h 10 ((mi18 h 10) + 1)) ml19 mr _ by
                refine wp_icmp_ne (tgt := 262) (pc := 255) dX12_token_255 (by decide) (fun c23 => ?_) (fun c23 => ?_)
                · refine wp_iconst (v := 1) (pc := 262) dX12_token_262 (by decide) ?_
                  exact J21 _ (by simp only [c23, if_true, if_false, decide_true, decide_false, Bool.not_true, Bool.not_false, Bool.true_and, Bool.false_and, Bool.true_or, Bool.false_or, b2i_t, b2i_f, ite_true, ite_false, not_true_eq_false, not_false_eq_true, reduceCtorEq, decide_eq_true_eq])
                · refine wp_iconst (v := 4) (pc := 258) dX12_token_258 (by decide) ?_
                  refine wp_goto (tgt := 263) (pc := 259) dX12_token_259 (by decide) ?_
                  exact J21 _ (by simp only [eq_true c23, if_true, if_false, decide_true, decide_false, Bool.not_true, Bool.not_false, Bool.true_and, Bool.false_and, Bool.true_or, Bool.false_or, b2i_t, b2i_f, ite_true, ite_false, not_true_eq_false, not_false_eq_true, reduceCtorEq, decide_eq_true_eq])
            intro v22 ev22
            subst ev22
            refine wp_putI (pc := 263) dX12_token_263 fl_X12_144 rfl rfl (TX12s_k th) ?_
            exact r_V (pc := 266) dX12_token_266 rfl F
          · have F := F.2 c20
            refine wp_aload_n (pc := 158) dX12_token_158 rfl ?_
            refine wp_iconst (v := 0) (pc := 159) dX12_token_159 (by decide) ?_
            refine wp_putI (pc := 160) dX12_token_160 fl_X12_147 rfl rfl (TX12s_k th) ?_
            exact wp_less (L' := [some (.ref h), none, some (.int 0)]) ⟨rfl, ⟨rfl, trivial⟩⟩ F
        · have F := F.2 c16
          exact wp_less (L' := [some (.ref h), none, some (.int 0)]) ⟨rfl, ⟨rfl, trivial⟩⟩ F
      · have F := F.2 c12
        refine wp_aload_n (pc := 55) dX12_token_55 rfl ?_
        refine wp_iconst (v := 0) (pc := 56) dX12_token_56 (by decide) ?_
        refine wp_putI (pc := 57) dX12_token_57 fl_X12_144 rfl rfl (TX12s_k th) ?_
        refine wp_goto (tgt := 266) (pc := 60) dX12_token_60 (by decide) ?_
        exact r_V (pc := 266) dX12_token_266 rfl F
    · have F := F.2 c8
      exact wp_less (L' := [some (.ref h), none, none]) ⟨rfl, trivial⟩ F
/-- see()I -/
theorem w_X12_see {l : Launch} {d : Nat} {kd : pm_K} {mr : pm_R} {h : Nat}  {mi : pm_I} {ml : pm_L} {K : Int32 → pm_I → pm_L → Prop} (th : TX12s kd mr h)
    (F : (((mi h 11) ≤ (mi h 10) → K (-1) mi ml) ∧ (¬ (mi h 11) ≤ (mi h 10) → vp_in (mi h 10) 2400 ∧ K ((mi (h + 1) (Int32.toNatClampNeg (mi h 10))) &&& 255) mi ml))) :
    wI l M_X12_see d [.ref h] kd mr mi ml K := by
  show wp l M_X12_see d 0 0 0 [some (.ref h)] [] 0 0 kd mi ml mr _
  refine wp_aload_n (pc := 0) dX12_see_0 rfl ?_
  refine wp_getI (pc := 1) dX12_see_1 fl_X12_127 rfl (TX12s_k th) ?_
  refine wp_aload_n (pc := 4) dX12_see_4 rfl ?_
  refine wp_getI (pc := 5) dX12_see_5 fl_X12_130 rfl (TX12s_k th) ?_
  refine wp_icmp_ge (tgt := 27) (pc := 8) dX12_see_8 (by decide) (fun c1 => ?_) (fun c1 => ?_)
  · have F := F.1 c1
    refine wp_iconst (v := -1) (pc := 27) dX12_see_27 (by decide) ?_
    exact r_I (pc := 28) dX12_see_28 rfl F
  · have F := F.2 c1
    refine wp_aload_n (pc := 11) dX12_see_11 rfl ?_
    refine wp_getR (pc := 12) dX12_see_12 fl_X12_7 rfl (TX12s_k th) (TX12s_r1 th) ?_
    refine wp_aload_n (pc := 15) dX12_see_15 rfl ?_
    refine wp_getI (pc := 16) dX12_see_16 fl_X12_127 rfl (TX12s_k th) ?_
    refine wp_bald (pc := 19) dX12_see_19 (TX12s_a1 th) F.1 ?_
    have F := F.2
    refine wp_sipush (v := 255) (pc := 20) dX12_see_20 (by decide) ?_
    refine wp_iand (pc := 23) dX12_see_23 ?_
    refine wp_goto (tgt := 28) (pc := 24) dX12_see_24 (by decide) ?_
    exact r_I (pc := 28) dX12_see_28 rfl F
def c_X12_lines_71 (l : Launch) (d : Nat) (kd : pm_K) (mr : pm_R) (h : Nat) (x1 : Int32) (x2 : Int32) (mi : pm_I) (ml : pm_L) (K : Bool → pm_I → pm_L → Prop) : Prop := wp l M_X12_lines d 0 0 71 [some (.ref h), some (.int x1), some (.int x2), none] [] 0 0 kd mi ml mr (qB kd mr K)
def c_X12_lines_63 (l : Launch) (d : Nat) (kd : pm_K) (mr : pm_R) (h : Nat) (x1 : Int32) (x2 : Int32) (mi : pm_I) (ml : pm_L) (K : Bool → pm_I → pm_L → Prop) : Prop := wp l M_X12_lines d 0 0 63 [some (.ref h), some (.int x1), some (.int x2), none] [] 0 0 kd mi ml mr (qB kd mr K)
def c_X12_lines_2 (l : Launch) (d : Nat) (kd : pm_K) (mr : pm_R) (h : Nat) (x1 : Int32) (x2 : Int32) (mi : pm_I) (ml : pm_L) (K : Bool → pm_I → pm_L → Prop) : Prop := wp l M_X12_lines d 0 0 2 [some (.ref h), some (.int x1), some (.int x2), none] [] 0 0 kd mi ml mr (qB kd mr K)
theorem w_X12_lines_2 {l : Launch} {d : Nat} {kd : pm_K} {mr : pm_R} {h : Nat} {x1 : Int32} {x2 : Int32} {mi : pm_I} {ml : pm_L} {K : Bool → pm_I → pm_L → Prop} (th : TX12s kd mr h)
    (F : ((x2 = 0 → (∃ z2 : Bool, x2 = b2i z2 ∧ K z2 mi ml)) ∧ (¬ x2 = 0 → (((mi h 13) = 0 → (∃ z4 : Bool, x2 = b2i z4 ∧ K z4 mi ml)) ∧ (¬ (mi h 13) = 0 → wB l M_X12_lineOf d [.ref h, .int x1, .long (if (mi h 13) = 2 then (ml h 15) else (0 : Int64)), .int (mi h 12)] kd mr (pm_up mi h 24 1) ml (fun r8 mi9 ml10 => ((r8 = false → c_X12_lines_63 l (d + 1) kd mr h x1 (b2i r8) mi9 ml10 K) ∧ (r8 = true → (((mi9 h 13) = 4 → c_X12_lines_63 l (d + 1) kd mr h x1 (b2i r8) mi9 ml10 K) ∧ (¬ (mi9 h 13) = 4 → wB l M_X12_fails d [.ref h] kd mr mi9 ml10 (fun r13 mi14 ml15 => c_X12_lines_63 l (d + 1) kd mr h x1 (b2i r13) mi14 ml15 K))))))))))) :
    c_X12_lines_2 l (d + 1) kd mr h x1 x2 mi ml K := by
  show wp l M_X12_lines (d + 1) 0 0 2 [some (.ref h), some (.int x1), some (.int x2), none] [] 0 0 kd mi ml mr _
  refine wp_iload_n (pc := 2) dX12_lines_2 rfl ?_
  refine wp_if_eq (tgt := 74) (pc := 3) dX12_lines_3 (by decide) (fun c1 => ?_) (fun c1 => ?_)
  · have F := F.1 c1
    refine wp_iload_n (pc := 74) dX12_lines_74 rfl ?_
    obtain ⟨z2, hz2, F⟩ := F
    exact r_Bx (pc := 75) dX12_lines_75 rfl hz2 F
  · have F := F.2 c1
    refine wp_aload_n (pc := 6) dX12_lines_6 rfl ?_
    refine wp_getI (pc := 7) dX12_lines_7 fl_X12_144 rfl (TX12s_k th) ?_
    refine wp_if_eq (tgt := 74) (pc := 10) dX12_lines_10 (by decide) (fun c3 => ?_) (fun c3 => ?_)
    · have F := F.1 c3
      refine wp_iload_n (pc := 74) dX12_lines_74 rfl ?_
      obtain ⟨z4, hz4, F⟩ := F
      exact r_Bx (pc := 75) dX12_lines_75 rfl hz4 F
    · have F := F.2 c3
      refine wp_aload_n (pc := 13) dX12_lines_13 rfl ?_
      refine wp_getI (pc := 14) dX12_lines_14 fl_X12_137 rfl (TX12s_k th) ?_
      refine wp_istore_n (pc := 17) dX12_lines_17 (Nat.le_of_ble_eq_true rfl) rfl ?_
      show wp l M_X12_lines (d + 1) 0 0 _ [some (.ref h), some (.int x1), some (.int x2), some (.int (mi h 12))] _ 0 0 kd _ _ mr _
      refine wp_aload_n (pc := 18) dX12_lines_18 rfl ?_
      refine wp_iconst (v := 1) (pc := 19) dX12_lines_19 (by decide) ?_
      refine wp_putZ (pc := 20) dX12_lines_20 fl_X12_167 rfl rfl (TX12s_k th) (by decide) ?_
      refine wp_aload_n (pc := 23) dX12_lines_23 rfl ?_
      refine wp_iload_n (pc := 24) dX12_lines_24 rfl ?_
      refine wp_aload_n (pc := 25) dX12_lines_25 rfl ?_
      refine wp_getI (pc := 26) dX12_lines_26 fl_X12_144 rfl (TX12s_k th) ?_
      refine t_I (show ((pm_up mi h 24 1) h 13) = (mi h 13) from pm_up_j _ _ (by decide)) ?_
      refine wp_iconst (v := 2) (pc := 29) dX12_lines_29 (by decide) ?_
      suffices J5 : ∀ v6 : Int64, v6 = (if (mi h 13) = 2 then (ml h 15) else (0 : Int64)) → wp l M_X12_lines (d + 1) 0 0 41 [some (.ref h), some (.int x1), some (.int x2), some (.int (mi h 12))] [.long v6, .int x1, .ref h] 0 0 kd (pm_up mi h 24 1) ml mr _ by
          refine wp_icmp_ne (tgt := 40) (pc := 30) dX12_lines_30 (by decide) (fun c7 => ?_) (fun c7 => ?_)
          · refine wp_lconst (v := 0) (pc := 40) dX12_lines_40 (by decide) ?_
            exact J5 _ (by simp only [c7, if_true, if_false, decide_true, decide_false, Bool.not_true, Bool.not_false, Bool.true_and, Bool.false_and, Bool.true_or, Bool.false_or, b2i_t, b2i_f, ite_true, ite_false, not_true_eq_false, not_false_eq_true, reduceCtorEq, decide_eq_true_eq])
          · refine wp_aload_n (pc := 33) dX12_lines_33 rfl ?_
            refine wp_getL (pc := 34) dX12_lines_34 fl_X12_140 rfl (TX12s_k th) ?_
            refine wp_goto (tgt := 41) (pc := 37) dX12_lines_37 (by decide) ?_
            exact J5 _ (by simp only [eq_true c7, if_true, if_false, decide_true, decide_false, Bool.not_true, Bool.not_false, Bool.true_and, Bool.false_and, Bool.true_or, Bool.false_or, b2i_t, b2i_f, ite_true, ite_false, not_true_eq_false, not_false_eq_true, reduceCtorEq, decide_eq_true_eq])
      intro v6 ev6
      subst ev6
      refine wp_iload_n (pc := 41) dX12_lines_41 rfl ?_
      refine cvB [.int x1, .long (if (mi h 13) = 2 then (ml h 15) else (0 : Int64)), .int (mi h 12)] [] (pc := 42) dX12_lines_42 ml_X12_292 iv_X12_lineOf (TX12s_k th) (cl_X12 rfl) rfl rfl (Nat.le_of_ble_eq_true rfl) (Nat.le_of_ble_eq_true rfl) (wB.mono (fun r8 mi9 ml10 F => ?_) F)
      refine wp_istore_n (pc := 45) dX12_lines_45 (Nat.le_of_ble_eq_true rfl) rfl ?_
      show wp l M_X12_lines (d + 1) 0 0 _ [some (.ref h), some (.int x1), some (.int (b2i r8)), some (.int (mi h 12))] _ 0 0 kd _ _ mr _
      refine wp_iload_n (pc := 46) dX12_lines_46 rfl ?_
      refine b_eq (tgt := 63) (pc := 47) dX12_lines_47 (by decide) (fun c11 => ?_) (fun c11 => ?_)
      · have F := F.1 c11
        exact wp_less (L' := [some (.ref h), some (.int x1), some (.int (b2i r8)), none]) ⟨rfl, ⟨rfl, ⟨rfl, trivial⟩⟩⟩ F
      · have F := F.2 c11
        refine wp_aload_n (pc := 50) dX12_lines_50 rfl ?_
        refine wp_getI (pc := 51) dX12_lines_51 fl_X12_144 rfl (TX12s_k th) ?_
        refine wp_iconst (v := 4) (pc := 54) dX12_lines_54 (by decide) ?_
        refine wp_icmp_eq (tgt := 63) (pc := 55) dX12_lines_55 (by decide) (fun c12 => ?_) (fun c12 => ?_)
        · have F := F.1 c12
          exact wp_less (L' := [some (.ref h), some (.int x1), some (.int (b2i r8)), none]) ⟨rfl, ⟨rfl, ⟨rfl, trivial⟩⟩⟩ F
        · have F := F.2 c12
          refine wp_aload_n (pc := 58) dX12_lines_58 rfl ?_
          refine cvB [] [] (pc := 59) dX12_lines_59 ml_X12_159 iv_X12_fails (TX12s_k th) (cl_X12 rfl) rfl rfl (Nat.le_of_ble_eq_true rfl) (Nat.le_of_ble_eq_true rfl) (wB.mono (fun r13 mi14 ml15 F => ?_) F)
          refine wp_istore_n (pc := 62) dX12_lines_62 (Nat.le_of_ble_eq_true rfl) rfl ?_
          show wp l M_X12_lines (d + 1) 0 0 _ [some (.ref h), some (.int x1), some (.int (b2i r13)), some (.int (mi h 12))] _ 0 0 kd _ _ mr _
          exact wp_less (L' := [some (.ref h), some (.int x1), some (.int (b2i r13)), none]) ⟨rfl, ⟨rfl, ⟨rfl, trivial⟩⟩⟩ F
theorem w_X12_lines_63 {l : Launch} {d : Nat} {kd : pm_K} {mr : pm_R} {h : Nat} {x1 : Int32} {x2 : Int32} {mi : pm_I} {ml : pm_L} {K : Bool → pm_I → pm_L → Prop} (th : TX12s kd mr h)
    (F : ((x2 = 0 → c_X12_lines_71 l (d + 1) kd mr h x1 x2 mi ml K) ∧ (¬ x2 = 0 → wV l M_X12_token d [.ref h] kd mr mi ml (fun mi18 ml19 => c_X12_lines_71 l (d + 1) kd mr h x1 x2 mi18 ml19 K)))) :
    c_X12_lines_63 l (d + 1) kd mr h x1 x2 mi ml K := by
  show wp l M_X12_lines (d + 1) 0 0 63 [some (.ref h), some (.int x1), some (.int x2), none] [] 0 0 kd mi ml mr _
  refine wp_iload_n (pc := 63) dX12_lines_63 rfl ?_
  refine wp_if_eq (tgt := 71) (pc := 64) dX12_lines_64 (by decide) (fun c16 => ?_) (fun c16 => ?_)
  · have F := F.1 c16
    exact wp_less (L' := [some (.ref h), some (.int x1), some (.int x2), none]) ⟨rfl, ⟨rfl, ⟨rfl, trivial⟩⟩⟩ F
  · have F := F.2 c16
    refine wp_aload_n (pc := 67) dX12_lines_67 rfl ?_
    refine cvV [] [] (pc := 68) dX12_lines_68 ml_X12_171 iv_X12_token (TX12s_k th) (cl_X12 rfl) rfl rfl (Nat.le_of_ble_eq_true rfl) (Nat.le_of_ble_eq_true rfl) (wV.mono (fun mi18 ml19 F => ?_) F)
    exact wp_less (L' := [some (.ref h), some (.int x1), some (.int x2), none]) ⟨rfl, ⟨rfl, ⟨rfl, trivial⟩⟩⟩ F
theorem w_X12_lines_71 {l : Launch} {d : Nat} {kd : pm_K} {mr : pm_R} {h : Nat} {x1 : Int32} {x2 : Int32} {mi : pm_I} {ml : pm_L} {K : Bool → pm_I → pm_L → Prop} (th : TX12s kd mr h)
    (F : c_X12_lines_2 l (d + 1) kd mr h x1 x2 mi ml K) :
    c_X12_lines_71 l (d + 1) kd mr h x1 x2 mi ml K := by
  show wp l M_X12_lines (d + 1) 0 0 71 [some (.ref h), some (.int x1), some (.int x2), none] [] 0 0 kd mi ml mr _
  refine wp_goto (tgt := 2) (pc := 71) dX12_lines_71 (by decide) ?_
  exact wp_less (L' := [some (.ref h), some (.int x1), some (.int x2), none]) ⟨rfl, ⟨rfl, ⟨rfl, trivial⟩⟩⟩ F
/-- lines(I)Z -/
theorem w_X12_lines {l : Launch} {d : Nat} {kd : pm_K} {mr : pm_R} {h : Nat} {x1 : Int32} {mi : pm_I} {ml : pm_L} {K : Bool → pm_I → pm_L → Prop} (th : TX12s kd mr h)
    (F : c_X12_lines_2 l (d + 1) kd mr h x1 1 mi ml K) :
    wB l M_X12_lines (d + 1) [.ref h, .int x1] kd mr mi ml K := by
  show wp l M_X12_lines (d + 1) 0 0 0 [some (.ref h), some (.int x1), none, none] [] 0 0 kd mi ml mr _
  refine wp_iconst (v := 1) (pc := 0) dX12_lines_0 (by decide) ?_
  refine wp_istore_n (pc := 1) dX12_lines_1 (Nat.le_of_ble_eq_true rfl) rfl ?_
  show wp l M_X12_lines (d + 1) 0 0 _ [some (.ref h), some (.int x1), some (.int 1), none] _ 0 0 kd _ _ mr _
  exact wp_less (L' := [some (.ref h), some (.int x1), some (.int 1), none]) ⟨rfl, ⟨rfl, ⟨rfl, trivial⟩⟩⟩ F
/-- lineOf(IJI)Z -/
theorem w_X12_lineOf {l : Launch} {d : Nat} {kd : pm_K} {mr : pm_R} {h : Nat} {x1 : Int32} {x2 : Int64} {x4 : Int32} {mi : pm_I} {ml : pm_L} {K : Bool → pm_I → pm_L → Prop} (th : TX12s kd mr h)
    (F : (((x1).toInt < 0 ∨ 2 < (x1).toInt → wB l M_X12_sightLine d [.ref h, .long x2, .int x4] kd mr mi ml (fun r2 mi3 ml4 => K r2 mi3 ml4)) ∧ ((x1).toInt = 0 → wB l M_X12_cityLine d [.ref h, .long x2, .int x4] kd mr mi ml (fun r5 mi6 ml7 => K r5 mi6 ml7)) ∧ ((x1).toInt = 1 → wB l M_X12_nightLine d [.ref h, .long x2, .int x4] kd mr mi ml (fun r8 mi9 ml10 => K r8 mi9 ml10)) ∧ ((x1).toInt = 2 → wB l M_X12_trialLine d [.ref h, .long x2, .int x4] kd mr mi ml (fun r11 mi12 ml13 => K r11 mi12 ml13)))) :
    wB l M_X12_lineOf (d + 1) [.ref h, .int x1, .long x2, .int x4] kd mr mi ml K := by
  show wp l M_X12_lineOf (d + 1) 0 0 0 [some (.ref h), some (.int x1), some (.long x2), none, some (.int x4)] [] 0 0 kd mi ml mr _
  refine wp_iload_n (pc := 0) dX12_lineOf_0 rfl ?_
  by_cases c1 : (x1).toInt < 0 ∨ 2 < (x1).toInt
  · have F := F.1 c1
    refine wp_tableOut (tgt := 52) (pc := 1) dX12_lineOf_1 c1 (by decide) ?_
    refine wp_aload_n (pc := 52) dX12_lineOf_52 rfl ?_
    refine wp_lload_n (pc := 53) dX12_lineOf_53 rfl ?_
    refine wp_iload (pc := 54) dX12_lineOf_54 rfl ?_
    refine cvB [.long x2, .int x4] [] (pc := 56) dX12_lineOf_56 ml_X12_289 iv_X12_sightLine (TX12s_k th) (cl_X12 rfl) rfl rfl (Nat.le_of_ble_eq_true rfl) (Nat.le_of_ble_eq_true rfl) (wB.mono (fun r2 mi3 ml4 F => ?_) F)
    exact r_B (pc := 59) dX12_lineOf_59 rfl F
  have c1 : (x1).toInt = 0 ∨ (x1).toInt = 1 ∨ (x1).toInt = 2 := by omega
  have F := F.2
  rcases c1 with c1 | c1 | c1
  · have F := F.1 c1
    refine wp_tableIn (tgt := 28) (pc := 1) dX12_lineOf_1 c1 (by decide) (by decide) rfl (by decide) ?_
    refine wp_aload_n (pc := 28) dX12_lineOf_28 rfl ?_
    refine wp_lload_n (pc := 29) dX12_lineOf_29 rfl ?_
    refine wp_iload (pc := 30) dX12_lineOf_30 rfl ?_
    refine cvB [.long x2, .int x4] [] (pc := 32) dX12_lineOf_32 ml_X12_279 iv_X12_cityLine (TX12s_k th) (cl_X12 rfl) rfl rfl (Nat.le_of_ble_eq_true rfl) (Nat.le_of_ble_eq_true rfl) (wB.mono (fun r5 mi6 ml7 F => ?_) F)
    exact r_B (pc := 35) dX12_lineOf_35 rfl F
  · have F := F.2.1 c1
    refine wp_tableIn (tgt := 36) (pc := 1) dX12_lineOf_1 c1 (by decide) (by decide) rfl (by decide) ?_
    refine wp_aload_n (pc := 36) dX12_lineOf_36 rfl ?_
    refine wp_lload_n (pc := 37) dX12_lineOf_37 rfl ?_
    refine wp_iload (pc := 38) dX12_lineOf_38 rfl ?_
    refine cvB [.long x2, .int x4] [] (pc := 40) dX12_lineOf_40 ml_X12_283 iv_X12_nightLine (TX12s_k th) (cl_X12 rfl) rfl rfl (Nat.le_of_ble_eq_true rfl) (Nat.le_of_ble_eq_true rfl) (wB.mono (fun r8 mi9 ml10 F => ?_) F)
    exact r_B (pc := 43) dX12_lineOf_43 rfl F
  · have F := F.2.2 c1
    refine wp_tableIn (tgt := 44) (pc := 1) dX12_lineOf_1 c1 (by decide) (by decide) rfl (by decide) ?_
    refine wp_aload_n (pc := 44) dX12_lineOf_44 rfl ?_
    refine wp_lload_n (pc := 45) dX12_lineOf_45 rfl ?_
    refine wp_iload (pc := 46) dX12_lineOf_46 rfl ?_
    refine cvB [.long x2, .int x4] [] (pc := 48) dX12_lineOf_48 ml_X12_286 iv_X12_trialLine (TX12s_k th) (cl_X12 rfl) rfl rfl (Nat.le_of_ble_eq_true rfl) (Nat.le_of_ble_eq_true rfl) (wB.mono (fun r11 mi12 ml13 F => ?_) F)
    exact r_B (pc := 51) dX12_lineOf_51 rfl F
def c_X12_cityLine_105 (l : Launch) (d : Nat) (kd : pm_K) (mr : pm_R) (h : Nat) (x4 : Int32) (x5 : Int32) (mi : pm_I) (ml : pm_L) (K : Bool → pm_I → pm_L → Prop) : Prop := wp l M_X12_cityLine d 0 0 105 [some (.ref h), none, none, none, some (.int x4), some (.int x5)] [] 0 0 kd mi ml mr (qB kd mr K)
def c_X12_cityLine_89 (l : Launch) (d : Nat) (kd : pm_K) (mr : pm_R) (h : Nat) (x1 : Int64) (x4 : Int32) (x5 : Int32) (mi : pm_I) (ml : pm_L) (K : Bool → pm_I → pm_L → Prop) : Prop := wp l M_X12_cityLine d 0 0 89 [some (.ref h), some (.long x1), none, none, some (.int x4), some (.int x5)] [] 0 0 kd mi ml mr (qB kd mr K)
def c_X12_cityLine_75 (l : Launch) (d : Nat) (kd : pm_K) (mr : pm_R) (h : Nat) (x1 : Int64) (x3 : Int32) (x4 : Int32) (x5 : Int32) (mi : pm_I) (ml : pm_L) (K : Bool → pm_I → pm_L → Prop) : Prop := wp l M_X12_cityLine d 0 0 75 [some (.ref h), some (.long x1), none, some (.int x3), some (.int x4), some (.int x5)] [] 0 0 kd mi ml mr (qB kd mr K)
def c_X12_cityLine_61 (l : Launch) (d : Nat) (kd : pm_K) (mr : pm_R) (h : Nat) (x1 : Int64) (x3 : Int32) (x4 : Int32) (x5 : Int32) (mi : pm_I) (ml : pm_L) (K : Bool → pm_I → pm_L → Prop) : Prop := wp l M_X12_cityLine d 0 0 61 [some (.ref h), some (.long x1), none, some (.int x3), some (.int x4), some (.int x5)] [] 0 0 kd mi ml mr (qB kd mr K)
theorem w_X12_cityLine_61 {l : Launch} {d : Nat} {kd : pm_K} {mr : pm_R} {h : Nat} {x1 : Int64} {x3 : Int32} {x4 : Int32} {x5 : Int32} {mi : pm_I} {ml : pm_L} {K : Bool → pm_I → pm_L → Prop} (th : TX12s kd mr h)
    (F : ((x4 = (-1) → c_X12_cityLine_75 l (d + 1) kd mr h x1 x3 x4 x5 mi ml K) ∧ (¬ x4 = (-1) → wV l M_X12_full d [.ref h, .int 3, .int 6, .int x3] kd mr mi ml (fun mi18 ml19 => c_X12_cityLine_75 l (d + 1) kd mr h x1 x3 x4 x5 mi18 ml19 K)))) :
    c_X12_cityLine_61 l (d + 1) kd mr h x1 x3 x4 x5 mi ml K := by
  show wp l M_X12_cityLine (d + 1) 0 0 61 [some (.ref h), some (.long x1), none, some (.int x3), some (.int x4), some (.int x5)] [] 0 0 kd mi ml mr _
  refine wp_iload (pc := 61) dX12_cityLine_61 rfl ?_
  refine wp_iconst (v := -1) (pc := 63) dX12_cityLine_63 (by decide) ?_
  refine wp_icmp_eq (tgt := 75) (pc := 64) dX12_cityLine_64 (by decide) (fun c16 => ?_) (fun c16 => ?_)
  · have F := F.1 c16
    exact wp_less (L' := [some (.ref h), some (.long x1), none, some (.int x3), some (.int x4), some (.int x5)]) ⟨rfl, ⟨rfl, ⟨rfl, ⟨rfl, ⟨rfl, trivial⟩⟩⟩⟩⟩ F
  · have F := F.2 c16
    refine wp_aload_n (pc := 67) dX12_cityLine_67 rfl ?_
    refine wp_iconst (v := 3) (pc := 68) dX12_cityLine_68 (by decide) ?_
    refine wp_bipush (v := 6) (pc := 69) dX12_cityLine_69 (by decide) ?_
    refine wp_iload_n (pc := 71) dX12_cityLine_71 rfl ?_
    refine cvV [.int 3, .int 6, .int x3] [] (pc := 72) dX12_cityLine_72 ml_X12_233 iv_X12_full (TX12s_k th) (cl_X12 rfl) rfl rfl (Nat.le_of_ble_eq_true rfl) (Nat.le_of_ble_eq_true rfl) (wV.mono (fun mi18 ml19 F => ?_) F)
    exact wp_less (L' := [some (.ref h), some (.long x1), none, some (.int x3), some (.int x4), some (.int x5)]) ⟨rfl, ⟨rfl, ⟨rfl, ⟨rfl, ⟨rfl, trivial⟩⟩⟩⟩⟩ F
theorem w_X12_cityLine_75 {l : Launch} {d : Nat} {kd : pm_K} {mr : pm_R} {h : Nat} {x1 : Int64} {x3 : Int32} {x4 : Int32} {x5 : Int32} {mi : pm_I} {ml : pm_L} {K : Bool → pm_I → pm_L → Prop} (th : TX12s kd mr h)
    (F : ((x5 = (-1) → c_X12_cityLine_89 l (d + 1) kd mr h x1 x4 x5 mi ml K) ∧ (¬ x5 = (-1) → wV l M_X12_full d [.ref h, .int 4, .int 6, .int x3] kd mr mi ml (fun mi22 ml23 => c_X12_cityLine_89 l (d + 1) kd mr h x1 x4 x5 mi22 ml23 K)))) :
    c_X12_cityLine_75 l (d + 1) kd mr h x1 x3 x4 x5 mi ml K := by
  show wp l M_X12_cityLine (d + 1) 0 0 75 [some (.ref h), some (.long x1), none, some (.int x3), some (.int x4), some (.int x5)] [] 0 0 kd mi ml mr _
  refine wp_iload (pc := 75) dX12_cityLine_75 rfl ?_
  refine wp_iconst (v := -1) (pc := 77) dX12_cityLine_77 (by decide) ?_
  refine wp_icmp_eq (tgt := 89) (pc := 78) dX12_cityLine_78 (by decide) (fun c20 => ?_) (fun c20 => ?_)
  · have F := F.1 c20
    exact wp_less (L' := [some (.ref h), some (.long x1), none, none, some (.int x4), some (.int x5)]) ⟨rfl, ⟨rfl, ⟨rfl, ⟨rfl, trivial⟩⟩⟩⟩ F
  · have F := F.2 c20
    refine wp_aload_n (pc := 81) dX12_cityLine_81 rfl ?_
    refine wp_iconst (v := 4) (pc := 82) dX12_cityLine_82 (by decide) ?_
    refine wp_bipush (v := 6) (pc := 83) dX12_cityLine_83 (by decide) ?_
    refine wp_iload_n (pc := 85) dX12_cityLine_85 rfl ?_
    refine cvV [.int 4, .int 6, .int x3] [] (pc := 86) dX12_cityLine_86 ml_X12_233 iv_X12_full (TX12s_k th) (cl_X12 rfl) rfl rfl (Nat.le_of_ble_eq_true rfl) (Nat.le_of_ble_eq_true rfl) (wV.mono (fun mi22 ml23 F => ?_) F)
    exact wp_less (L' := [some (.ref h), some (.long x1), none, none, some (.int x4), some (.int x5)]) ⟨rfl, ⟨rfl, ⟨rfl, ⟨rfl, trivial⟩⟩⟩⟩ F
theorem w_X12_cityLine_89 {l : Launch} {d : Nat} {kd : pm_K} {mr : pm_R} {h : Nat} {x1 : Int64} {x4 : Int32} {x5 : Int32} {mi : pm_I} {ml : pm_L} {K : Bool → pm_I → pm_L → Prop} (th : TX12s kd mr h)
    (F : wV l M_X12_token d [.ref h] kd mr mi ml (fun mi25 ml26 => ((¬ x4 = (-1) → c_X12_cityLine_105 l (d + 1) kd mr h x4 x5 mi25 ml26 K) ∧ (x4 = (-1) → ((x5 = (-1) → ((¬ (lg_cmp x1 1936292453) = 0 → ((¬ (lg_cmp x1 2002873452) = 0 → ((¬ (lg_cmp x1 2003398244) = 0 → wB l M_X12_valueLine d [.ref h] kd mr mi25 ml26 (fun r32 mi33 ml34 => K r32 mi33 ml34)) ∧ ((lg_cmp x1 2003398244) = 0 → wB l M_X12_windLine d [.ref h] kd mr mi25 ml26 (fun r35 mi36 ml37 => K r35 mi36 ml37)))) ∧ ((lg_cmp x1 2002873452) = 0 → wB l M_X12_wallLine d [.ref h] kd mr mi25 ml26 (fun r38 mi39 ml40 => K r38 mi39 ml40)))) ∧ ((lg_cmp x1 1936292453) = 0 → wB l M_X12_sizeLine d [.ref h] kd mr mi25 ml26 (fun r41 mi42 ml43 => K r41 mi42 ml43)))) ∧ (¬ x5 = (-1) → c_X12_cityLine_105 l (d + 1) kd mr h x4 x5 mi25 ml26 K)))))) :
    c_X12_cityLine_89 l (d + 1) kd mr h x1 x4 x5 mi ml K := by
  show wp l M_X12_cityLine (d + 1) 0 0 89 [some (.ref h), some (.long x1), none, none, some (.int x4), some (.int x5)] [] 0 0 kd mi ml mr _
  refine wp_aload_n (pc := 89) dX12_cityLine_89 rfl ?_
  refine cvV [] [] (pc := 90) dX12_cityLine_90 ml_X12_171 iv_X12_token (TX12s_k th) (cl_X12 rfl) rfl rfl (Nat.le_of_ble_eq_true rfl) (Nat.le_of_ble_eq_true rfl) (wV.mono (fun mi25 ml26 F => ?_) F)
  refine wp_iload (pc := 93) dX12_cityLine_93 rfl ?_
  refine wp_iconst (v := -1) (pc := 95) dX12_cityLine_95 (by decide) ?_
  refine wp_icmp_ne (tgt := 105) (pc := 96) dX12_cityLine_96 (by decide) (fun c27 => ?_) (fun c27 => ?_)
  · have F := F.1 c27
    exact wp_less (L' := [some (.ref h), none, none, none, some (.int x4), some (.int x5)]) ⟨rfl, ⟨rfl, ⟨rfl, trivial⟩⟩⟩ F
  · have F := F.2 c27
    refine wp_iload (pc := 99) dX12_cityLine_99 rfl ?_
    refine wp_iconst (v := -1) (pc := 101) dX12_cityLine_101 (by decide) ?_
    refine wp_icmp_eq (tgt := 133) (pc := 102) dX12_cityLine_102 (by decide) (fun c28 => ?_) (fun c28 => ?_)
    · have F := F.1 c28
      refine wp_lload_n (pc := 133) dX12_cityLine_133 rfl ?_
      refine wp_ldc2 (v := 1936292453) (pc := 134) dX12_cityLine_134 (tb_7 20 rfl rfl) ?_
      refine wp_lcmp (pc := 137) dX12_cityLine_137 ?_
      refine wp_if_ne (tgt := 148) (pc := 138) dX12_cityLine_138 (by decide) (fun c29 => ?_) (fun c29 => ?_)
      · have F := F.1 c29
        refine wp_lload_n (pc := 148) dX12_cityLine_148 rfl ?_
        refine wp_ldc2 (v := 2002873452) (pc := 149) dX12_cityLine_149 (tb_7 21 rfl rfl) ?_
        refine wp_lcmp (pc := 152) dX12_cityLine_152 ?_
        refine wp_if_ne (tgt := 163) (pc := 153) dX12_cityLine_153 (by decide) (fun c30 => ?_) (fun c30 => ?_)
        · have F := F.1 c30
          refine wp_lload_n (pc := 163) dX12_cityLine_163 rfl ?_
          refine wp_ldc2 (v := 2003398244) (pc := 164) dX12_cityLine_164 (tb_7 22 rfl rfl) ?_
          refine wp_lcmp (pc := 167) dX12_cityLine_167 ?_
          refine wp_if_ne (tgt := 178) (pc := 168) dX12_cityLine_168 (by decide) (fun c31 => ?_) (fun c31 => ?_)
          · have F := F.1 c31
            refine wp_aload_n (pc := 178) dX12_cityLine_178 rfl ?_
            refine cvB [] [] (pc := 179) dX12_cityLine_179 ml_X12_249 iv_X12_valueLine (TX12s_k th) (cl_X12 rfl) rfl rfl (Nat.le_of_ble_eq_true rfl) (Nat.le_of_ble_eq_true rfl) (wB.mono (fun r32 mi33 ml34 F => ?_) F)
            exact r_B (pc := 182) dX12_cityLine_182 rfl F
          · have F := F.2 c31
            refine wp_aload_n (pc := 171) dX12_cityLine_171 rfl ?_
            refine cvB [] [] (pc := 172) dX12_cityLine_172 ml_X12_246 iv_X12_windLine (TX12s_k th) (cl_X12 rfl) rfl rfl (Nat.le_of_ble_eq_true rfl) (Nat.le_of_ble_eq_true rfl) (wB.mono (fun r35 mi36 ml37 F => ?_) F)
            refine wp_goto (tgt := 182) (pc := 175) dX12_cityLine_175 (by decide) ?_
            exact r_B (pc := 182) dX12_cityLine_182 rfl F
        · have F := F.2 c30
          refine wp_aload_n (pc := 156) dX12_cityLine_156 rfl ?_
          refine cvB [] [] (pc := 157) dX12_cityLine_157 ml_X12_243 iv_X12_wallLine (TX12s_k th) (cl_X12 rfl) rfl rfl (Nat.le_of_ble_eq_true rfl) (Nat.le_of_ble_eq_true rfl) (wB.mono (fun r38 mi39 ml40 F => ?_) F)
          refine wp_goto (tgt := 182) (pc := 160) dX12_cityLine_160 (by decide) ?_
          exact r_B (pc := 182) dX12_cityLine_182 rfl F
      · have F := F.2 c29
        refine wp_aload_n (pc := 141) dX12_cityLine_141 rfl ?_
        refine cvB [] [] (pc := 142) dX12_cityLine_142 ml_X12_240 iv_X12_sizeLine (TX12s_k th) (cl_X12 rfl) rfl rfl (Nat.le_of_ble_eq_true rfl) (Nat.le_of_ble_eq_true rfl) (wB.mono (fun r41 mi42 ml43 F => ?_) F)
        refine wp_goto (tgt := 182) (pc := 145) dX12_cityLine_145 (by decide) ?_
        exact r_B (pc := 182) dX12_cityLine_182 rfl F
    · have F := F.2 c28
      exact wp_less (L' := [some (.ref h), none, none, none, some (.int x4), some (.int x5)]) ⟨rfl, ⟨rfl, ⟨rfl, trivial⟩⟩⟩ F
theorem w_X12_cityLine_105 {l : Launch} {d : Nat} {kd : pm_K} {mr : pm_R} {h : Nat} {x4 : Int32} {x5 : Int32} {mi : pm_I} {ml : pm_L} {K : Bool → pm_I → pm_L → Prop} (th : TX12s kd mr h)
    (F : ((x4 = (-1) → wB l M_X12_oneLine d [.ref h, .int 4, .int 27, .int x5] kd mr mi ml (fun r45 mi46 ml47 => K r45 mi46 ml47)) ∧ (¬ x4 = (-1) → wB l M_X12_oneLine d [.ref h, .int 3, .int 9, .int x4] kd mr mi ml (fun r48 mi49 ml50 => K r48 mi49 ml50)))) :
    c_X12_cityLine_105 l (d + 1) kd mr h x4 x5 mi ml K := by
  show wp l M_X12_cityLine (d + 1) 0 0 105 [some (.ref h), none, none, none, some (.int x4), some (.int x5)] [] 0 0 kd mi ml mr _
  refine wp_iload (pc := 105) dX12_cityLine_105 rfl ?_
  refine wp_iconst (v := -1) (pc := 107) dX12_cityLine_107 (by decide) ?_
  refine wp_icmp_eq (tgt := 123) (pc := 108) dX12_cityLine_108 (by decide) (fun c44 => ?_) (fun c44 => ?_)
  · have F := F.1 c44
    refine wp_aload_n (pc := 123) dX12_cityLine_123 rfl ?_
    refine wp_iconst (v := 4) (pc := 124) dX12_cityLine_124 (by decide) ?_
    refine wp_bipush (v := 27) (pc := 125) dX12_cityLine_125 (by decide) ?_
    refine wp_iload (pc := 127) dX12_cityLine_127 rfl ?_
    refine cvB [.int 4, .int 27, .int x5] [] (pc := 129) dX12_cityLine_129 ml_X12_237 iv_X12_oneLine (TX12s_k th) (cl_X12 rfl) rfl rfl (Nat.le_of_ble_eq_true rfl) (Nat.le_of_ble_eq_true rfl) (wB.mono (fun r45 mi46 ml47 F => ?_) F)
    exact r_B (pc := 132) dX12_cityLine_132 rfl F
  · have F := F.2 c44
    refine wp_aload_n (pc := 111) dX12_cityLine_111 rfl ?_
    refine wp_iconst (v := 3) (pc := 112) dX12_cityLine_112 (by decide) ?_
    refine wp_bipush (v := 9) (pc := 113) dX12_cityLine_113 (by decide) ?_
    refine wp_iload (pc := 115) dX12_cityLine_115 rfl ?_
    refine cvB [.int 3, .int 9, .int x4] [] (pc := 117) dX12_cityLine_117 ml_X12_237 iv_X12_oneLine (TX12s_k th) (cl_X12 rfl) rfl rfl (Nat.le_of_ble_eq_true rfl) (Nat.le_of_ble_eq_true rfl) (wB.mono (fun r48 mi49 ml50 F => ?_) F)
    refine wp_goto (tgt := 132) (pc := 120) dX12_cityLine_120 (by decide) ?_
    exact r_B (pc := 132) dX12_cityLine_132 rfl F
/-- cityLine(JI)Z -/
theorem w_X12_cityLine {l : Launch} {d : Nat} {kd : pm_K} {mr : pm_R} {h : Nat} {x1 : Int64} {x3 : Int32} {mi : pm_I} {ml : pm_L} {K : Bool → pm_I → pm_L → Prop} (th : TX12s kd mr h)
    (F : wI l M_X12_tuneBy d [.long x1] kd mr mi ml (fun r1 mi2 ml3 => wI l M_X12_kindBy d [.long x1] kd mr mi2 ml3 (fun r4 mi5 ml6 => ((¬ r1 = (-1) → c_X12_cityLine_61 l (d + 1) kd mr h x1 x3 r1 r4 mi5 ml6 K) ∧ (r1 = (-1) → ((¬ r4 = (-1) → c_X12_cityLine_61 l (d + 1) kd mr h x1 x3 r1 r4 mi5 ml6 K) ∧ (r4 = (-1) → (((lg_cmp x1 1936292453) = 0 → c_X12_cityLine_61 l (d + 1) kd mr h x1 x3 r1 r4 mi5 ml6 K) ∧ (¬ (lg_cmp x1 1936292453) = 0 → (((lg_cmp x1 2002873452) = 0 → c_X12_cityLine_61 l (d + 1) kd mr h x1 x3 r1 r4 mi5 ml6 K) ∧ (¬ (lg_cmp x1 2002873452) = 0 → (((lg_cmp x1 2003398244) = 0 → c_X12_cityLine_61 l (d + 1) kd mr h x1 x3 r1 r4 mi5 ml6 K) ∧ (¬ (lg_cmp x1 2003398244) = 0 → (((lg_cmp x1 508440638821) = 0 → c_X12_cityLine_61 l (d + 1) kd mr h x1 x3 r1 r4 mi5 ml6 K) ∧ (¬ (lg_cmp x1 508440638821) = 0 → wB l M_X12_fails d [.ref h] kd mr mi5 ml6 (fun r13 mi14 ml15 => K r13 mi14 ml15)))))))))))))))) :
    wB l M_X12_cityLine (d + 1) [.ref h, .long x1, .int x3] kd mr mi ml K := by
  show wp l M_X12_cityLine (d + 1) 0 0 0 [some (.ref h), some (.long x1), none, some (.int x3), none, none] [] 0 0 kd mi ml mr _
  refine wp_lload_n (pc := 0) dX12_cityLine_0 rfl ?_
  refine csI [.long x1] [] (pc := 1) dX12_cityLine_1 ml_X12_219 st_X12_tuneBy rfl rfl (Nat.le_of_ble_eq_true rfl) (Nat.le_of_ble_eq_true rfl) (wI.mono (fun r1 mi2 ml3 F => ?_) F)
  refine wp_istore (pc := 4) dX12_cityLine_4 (Nat.le_of_ble_eq_true rfl) rfl ?_
  show wp l M_X12_cityLine (d + 1) 0 0 _ [some (.ref h), some (.long x1), none, some (.int x3), some (.int r1), none] _ 0 0 kd _ _ mr _
  refine wp_lload_n (pc := 6) dX12_cityLine_6 rfl ?_
  refine csI [.long x1] [] (pc := 7) dX12_cityLine_7 ml_X12_222 st_X12_kindBy rfl rfl (Nat.le_of_ble_eq_true rfl) (Nat.le_of_ble_eq_true rfl) (wI.mono (fun r4 mi5 ml6 F => ?_) F)
  refine wp_istore (pc := 10) dX12_cityLine_10 (Nat.le_of_ble_eq_true rfl) rfl ?_
  show wp l M_X12_cityLine (d + 1) 0 0 _ [some (.ref h), some (.long x1), none, some (.int x3), some (.int r1), some (.int r4)] _ 0 0 kd _ _ mr _
  refine wp_iload (pc := 12) dX12_cityLine_12 rfl ?_
  refine wp_iconst (v := -1) (pc := 14) dX12_cityLine_14 (by decide) ?_
  refine wp_icmp_ne (tgt := 61) (pc := 15) dX12_cityLine_15 (by decide) (fun c7 => ?_) (fun c7 => ?_)
  · have F := F.1 c7
    exact wp_less (L' := [some (.ref h), some (.long x1), none, some (.int x3), some (.int r1), some (.int r4)]) ⟨rfl, ⟨rfl, ⟨rfl, ⟨rfl, ⟨rfl, trivial⟩⟩⟩⟩⟩ F
  · have F := F.2 c7
    refine wp_iload (pc := 18) dX12_cityLine_18 rfl ?_
    refine wp_iconst (v := -1) (pc := 20) dX12_cityLine_20 (by decide) ?_
    refine wp_icmp_ne (tgt := 61) (pc := 21) dX12_cityLine_21 (by decide) (fun c8 => ?_) (fun c8 => ?_)
    · have F := F.1 c8
      exact wp_less (L' := [some (.ref h), some (.long x1), none, some (.int x3), some (.int r1), some (.int r4)]) ⟨rfl, ⟨rfl, ⟨rfl, ⟨rfl, ⟨rfl, trivial⟩⟩⟩⟩⟩ F
    · have F := F.2 c8
      refine wp_lload_n (pc := 24) dX12_cityLine_24 rfl ?_
      refine wp_ldc2 (v := 1936292453) (pc := 25) dX12_cityLine_25 (tb_7 20 rfl rfl) ?_
      refine wp_lcmp (pc := 28) dX12_cityLine_28 ?_
      refine wp_if_eq (tgt := 61) (pc := 29) dX12_cityLine_29 (by decide) (fun c9 => ?_) (fun c9 => ?_)
      · have F := F.1 c9
        exact wp_less (L' := [some (.ref h), some (.long x1), none, some (.int x3), some (.int r1), some (.int r4)]) ⟨rfl, ⟨rfl, ⟨rfl, ⟨rfl, ⟨rfl, trivial⟩⟩⟩⟩⟩ F
      · have F := F.2 c9
        refine wp_lload_n (pc := 32) dX12_cityLine_32 rfl ?_
        refine wp_ldc2 (v := 2002873452) (pc := 33) dX12_cityLine_33 (tb_7 21 rfl rfl) ?_
        refine wp_lcmp (pc := 36) dX12_cityLine_36 ?_
        refine wp_if_eq (tgt := 61) (pc := 37) dX12_cityLine_37 (by decide) (fun c10 => ?_) (fun c10 => ?_)
        · have F := F.1 c10
          exact wp_less (L' := [some (.ref h), some (.long x1), none, some (.int x3), some (.int r1), some (.int r4)]) ⟨rfl, ⟨rfl, ⟨rfl, ⟨rfl, ⟨rfl, trivial⟩⟩⟩⟩⟩ F
        · have F := F.2 c10
          refine wp_lload_n (pc := 40) dX12_cityLine_40 rfl ?_
          refine wp_ldc2 (v := 2003398244) (pc := 41) dX12_cityLine_41 (tb_7 22 rfl rfl) ?_
          refine wp_lcmp (pc := 44) dX12_cityLine_44 ?_
          refine wp_if_eq (tgt := 61) (pc := 45) dX12_cityLine_45 (by decide) (fun c11 => ?_) (fun c11 => ?_)
          · have F := F.1 c11
            exact wp_less (L' := [some (.ref h), some (.long x1), none, some (.int x3), some (.int r1), some (.int r4)]) ⟨rfl, ⟨rfl, ⟨rfl, ⟨rfl, ⟨rfl, trivial⟩⟩⟩⟩⟩ F
          · have F := F.2 c11
            refine wp_lload_n (pc := 48) dX12_cityLine_48 rfl ?_
            refine wp_ldc2 (v := 508440638821) (pc := 49) dX12_cityLine_49 (tb_7 23 rfl rfl) ?_
            refine wp_lcmp (pc := 52) dX12_cityLine_52 ?_
            refine wp_if_eq (tgt := 61) (pc := 53) dX12_cityLine_53 (by decide) (fun c12 => ?_) (fun c12 => ?_)
            · have F := F.1 c12
              exact wp_less (L' := [some (.ref h), some (.long x1), none, some (.int x3), some (.int r1), some (.int r4)]) ⟨rfl, ⟨rfl, ⟨rfl, ⟨rfl, ⟨rfl, trivial⟩⟩⟩⟩⟩ F
            · have F := F.2 c12
              refine wp_aload_n (pc := 56) dX12_cityLine_56 rfl ?_
              refine cvB [] [] (pc := 57) dX12_cityLine_57 ml_X12_159 iv_X12_fails (TX12s_k th) (cl_X12 rfl) rfl rfl (Nat.le_of_ble_eq_true rfl) (Nat.le_of_ble_eq_true rfl) (wB.mono (fun r13 mi14 ml15 F => ?_) F)
              exact r_B (pc := 60) dX12_cityLine_60 rfl F
/-- tuneBy(J)I -/
theorem w_X12_tuneBy {l : Launch} {d : Nat} {kd : pm_K} {mr : pm_R}  {x0 : Int64} {mi : pm_I} {ml : pm_L} {K : Int32 → pm_I → pm_L → Prop} 
    (F : ((¬ (lg_cmp x0 112602841902181) = 0 → ((¬ (lg_cmp x0 439906301029) = 0 → K (if (lg_cmp x0 1685222765) = 0 then (2 : Int32) else (if (lg_cmp x0 1752134254) = 0 then (3 : Int32) else ((-1) : Int32))) mi ml) ∧ ((lg_cmp x0 439906301029) = 0 → K 1 mi ml))) ∧ ((lg_cmp x0 112602841902181) = 0 → K 0 mi ml))) :
    wI l M_X12_tuneBy d [.long x0] kd mr mi ml K := by
  show wp l M_X12_tuneBy d 0 0 0 [some (.long x0), none] [] 0 0 kd mi ml mr _
  refine wp_lload_n (pc := 0) dX12_tuneBy_0 rfl ?_
  refine wp_ldc2 (v := 112602841902181) (pc := 1) dX12_tuneBy_1 (tb_7 9 rfl rfl) ?_
  refine wp_lcmp (pc := 4) dX12_tuneBy_4 ?_
  refine wp_if_ne (tgt := 12) (pc := 5) dX12_tuneBy_5 (by decide) (fun c1 => ?_) (fun c1 => ?_)
  · have F := F.1 c1
    refine wp_lload_n (pc := 12) dX12_tuneBy_12 rfl ?_
    refine wp_ldc2 (v := 439906301029) (pc := 13) dX12_tuneBy_13 (tb_7 10 rfl rfl) ?_
    refine wp_lcmp (pc := 16) dX12_tuneBy_16 ?_
    refine wp_if_ne (tgt := 24) (pc := 17) dX12_tuneBy_17 (by decide) (fun c2 => ?_) (fun c2 => ?_)
    · have F := F.1 c2
      refine wp_lload_n (pc := 24) dX12_tuneBy_24 rfl ?_
      refine wp_ldc2 (v := 1685222765) (pc := 25) dX12_tuneBy_25 (tb_7 11 rfl rfl) ?_
      refine wp_lcmp (pc := 28) dX12_tuneBy_28 ?_
      suffices J3 : ∀ v4 : Int32, v4 = (if (lg_cmp x0 1685222765) = 0 then (2 : Int32) else (if (lg_cmp x0 1752134254) = 0 then (3 : Int32) else ((-1) : Int32))) → wp l M_X12_tuneBy d 0 0 49 [some (.long x0), none] [.int v4] 0 0 kd mi ml mr _ by
          refine wp_if_ne (tgt := 36) (pc := 29) dX12_tuneBy_29 (by decide) (fun c5 => ?_) (fun c5 => ?_)
          · refine wp_lload_n (pc := 36) dX12_tuneBy_36 rfl ?_
            refine wp_ldc2 (v := 1752134254) (pc := 37) dX12_tuneBy_37 (tb_7 12 rfl rfl) ?_
            refine wp_lcmp (pc := 40) dX12_tuneBy_40 ?_
            refine wp_if_ne (tgt := 48) (pc := 41) dX12_tuneBy_41 (by decide) (fun c6 => ?_) (fun c6 => ?_)
            · refine wp_iconst (v := -1) (pc := 48) dX12_tuneBy_48 (by decide) ?_
              exact J3 _ (by simp only [c5, c6, if_true, if_false, decide_true, decide_false, Bool.not_true, Bool.not_false, Bool.true_and, Bool.false_and, Bool.true_or, Bool.false_or, b2i_t, b2i_f, ite_true, ite_false, not_true_eq_false, not_false_eq_true, reduceCtorEq, decide_eq_true_eq])
            · refine wp_iconst (v := 3) (pc := 44) dX12_tuneBy_44 (by decide) ?_
              refine wp_goto (tgt := 49) (pc := 45) dX12_tuneBy_45 (by decide) ?_
              exact J3 _ (by simp only [c5, eq_true c6, if_true, if_false, decide_true, decide_false, Bool.not_true, Bool.not_false, Bool.true_and, Bool.false_and, Bool.true_or, Bool.false_or, b2i_t, b2i_f, ite_true, ite_false, not_true_eq_false, not_false_eq_true, reduceCtorEq, decide_eq_true_eq])
          · refine wp_iconst (v := 2) (pc := 32) dX12_tuneBy_32 (by decide) ?_
            refine wp_goto (tgt := 49) (pc := 33) dX12_tuneBy_33 (by decide) ?_
            exact J3 _ (by simp only [eq_true c5, if_true, if_false, decide_true, decide_false, Bool.not_true, Bool.not_false, Bool.true_and, Bool.false_and, Bool.true_or, Bool.false_or, b2i_t, b2i_f, ite_true, ite_false, not_true_eq_false, not_false_eq_true, reduceCtorEq, decide_eq_true_eq])
      intro v4 ev4
      subst ev4
      exact r_I (pc := 49) dX12_tuneBy_49 rfl F
    · have F := F.2 c2
      refine wp_iconst (v := 1) (pc := 20) dX12_tuneBy_20 (by decide) ?_
      refine wp_goto (tgt := 49) (pc := 21) dX12_tuneBy_21 (by decide) ?_
      exact r_I (pc := 49) dX12_tuneBy_49 rfl F
  · have F := F.2 c1
    refine wp_iconst (v := 0) (pc := 8) dX12_tuneBy_8 (by decide) ?_
    refine wp_goto (tgt := 49) (pc := 9) dX12_tuneBy_9 (by decide) ?_
    exact r_I (pc := 49) dX12_tuneBy_49 rfl F
/-- kindBy(J)I -/
theorem w_X12_kindBy {l : Launch} {d : Nat} {kd : pm_K} {mr : pm_R}  {x0 : Int64} {mi : pm_I} {ml : pm_L} {K : Int32 → pm_I → pm_L → Prop} 
    (F : ((¬ (lg_cmp x0 27981971401106798) = 0 → ((¬ (lg_cmp x0 499967944038) = 0 → K (if (lg_cmp x0 426953501796) = 0 then (2 : Int32) else (if (lg_cmp x0 1684365670) = 0 then (3 : Int32) else ((-1) : Int32))) mi ml) ∧ ((lg_cmp x0 499967944038) = 0 → K 1 mi ml))) ∧ ((lg_cmp x0 27981971401106798) = 0 → K 0 mi ml))) :
    wI l M_X12_kindBy d [.long x0] kd mr mi ml K := by
  show wp l M_X12_kindBy d 0 0 0 [some (.long x0), none] [] 0 0 kd mi ml mr _
  refine wp_lload_n (pc := 0) dX12_kindBy_0 rfl ?_
  refine wp_ldc2 (v := 27981971401106798) (pc := 1) dX12_kindBy_1 (tb_7 16 rfl rfl) ?_
  refine wp_lcmp (pc := 4) dX12_kindBy_4 ?_
  refine wp_if_ne (tgt := 12) (pc := 5) dX12_kindBy_5 (by decide) (fun c1 => ?_) (fun c1 => ?_)
  · have F := F.1 c1
    refine wp_lload_n (pc := 12) dX12_kindBy_12 rfl ?_
    refine wp_ldc2 (v := 499967944038) (pc := 13) dX12_kindBy_13 (tb_7 17 rfl rfl) ?_
    refine wp_lcmp (pc := 16) dX12_kindBy_16 ?_
    refine wp_if_ne (tgt := 24) (pc := 17) dX12_kindBy_17 (by decide) (fun c2 => ?_) (fun c2 => ?_)
    · have F := F.1 c2
      refine wp_lload_n (pc := 24) dX12_kindBy_24 rfl ?_
      refine wp_ldc2 (v := 426953501796) (pc := 25) dX12_kindBy_25 (tb_7 18 rfl rfl) ?_
      refine wp_lcmp (pc := 28) dX12_kindBy_28 ?_
      suffices J3 : ∀ v4 : Int32, v4 = (if (lg_cmp x0 426953501796) = 0 then (2 : Int32) else (if (lg_cmp x0 1684365670) = 0 then (3 : Int32) else ((-1) : Int32))) → wp l M_X12_kindBy d 0 0 49 [some (.long x0), none] [.int v4] 0 0 kd mi ml mr _ by
          refine wp_if_ne (tgt := 36) (pc := 29) dX12_kindBy_29 (by decide) (fun c5 => ?_) (fun c5 => ?_)
          · refine wp_lload_n (pc := 36) dX12_kindBy_36 rfl ?_
            refine wp_ldc2 (v := 1684365670) (pc := 37) dX12_kindBy_37 (tb_7 19 rfl rfl) ?_
            refine wp_lcmp (pc := 40) dX12_kindBy_40 ?_
            refine wp_if_ne (tgt := 48) (pc := 41) dX12_kindBy_41 (by decide) (fun c6 => ?_) (fun c6 => ?_)
            · refine wp_iconst (v := -1) (pc := 48) dX12_kindBy_48 (by decide) ?_
              exact J3 _ (by simp only [c5, c6, if_true, if_false, decide_true, decide_false, Bool.not_true, Bool.not_false, Bool.true_and, Bool.false_and, Bool.true_or, Bool.false_or, b2i_t, b2i_f, ite_true, ite_false, not_true_eq_false, not_false_eq_true, reduceCtorEq, decide_eq_true_eq])
            · refine wp_iconst (v := 3) (pc := 44) dX12_kindBy_44 (by decide) ?_
              refine wp_goto (tgt := 49) (pc := 45) dX12_kindBy_45 (by decide) ?_
              exact J3 _ (by simp only [c5, eq_true c6, if_true, if_false, decide_true, decide_false, Bool.not_true, Bool.not_false, Bool.true_and, Bool.false_and, Bool.true_or, Bool.false_or, b2i_t, b2i_f, ite_true, ite_false, not_true_eq_false, not_false_eq_true, reduceCtorEq, decide_eq_true_eq])
          · refine wp_iconst (v := 2) (pc := 32) dX12_kindBy_32 (by decide) ?_
            refine wp_goto (tgt := 49) (pc := 33) dX12_kindBy_33 (by decide) ?_
            exact J3 _ (by simp only [eq_true c5, if_true, if_false, decide_true, decide_false, Bool.not_true, Bool.not_false, Bool.true_and, Bool.false_and, Bool.true_or, Bool.false_or, b2i_t, b2i_f, ite_true, ite_false, not_true_eq_false, not_false_eq_true, reduceCtorEq, decide_eq_true_eq])
      intro v4 ev4
      subst ev4
      exact r_I (pc := 49) dX12_kindBy_49 rfl F
    · have F := F.2 c2
      refine wp_iconst (v := 1) (pc := 20) dX12_kindBy_20 (by decide) ?_
      refine wp_goto (tgt := 49) (pc := 21) dX12_kindBy_21 (by decide) ?_
      exact r_I (pc := 49) dX12_kindBy_49 rfl F
  · have F := F.2 c1
    refine wp_iconst (v := 0) (pc := 8) dX12_kindBy_8 (by decide) ?_
    refine wp_goto (tgt := 49) (pc := 9) dX12_kindBy_9 (by decide) ?_
    exact r_I (pc := 49) dX12_kindBy_49 rfl F
/-- fails()Z -/
theorem w_X12_fails {l : Launch} {d : Nat} {kd : pm_K} {mr : pm_R} {h : Nat}  {mi : pm_I} {ml : pm_L} {K : Bool → pm_I → pm_L → Prop} (th : TX12s kd mr h)
    (F : K false (pm_up mi h 16 (mi h 12)) ml) :
    wB l M_X12_fails d [.ref h] kd mr mi ml K := by
  show wp l M_X12_fails d 0 0 0 [some (.ref h)] [] 0 0 kd mi ml mr _
  refine wp_aload_n (pc := 0) dX12_fails_0 rfl ?_
  refine wp_aload_n (pc := 1) dX12_fails_1 rfl ?_
  refine wp_getI (pc := 2) dX12_fails_2 fl_X12_137 rfl (TX12s_k th) ?_
  refine wp_putI (pc := 5) dX12_fails_5 fl_X12_150 rfl rfl (TX12s_k th) ?_
  refine wp_iconst (v := 0) (pc := 8) dX12_fails_8 (by decide) ?_
  exact r_Bx (pc := 9) dX12_fails_9 rfl rfl F
/-- full(III)V -/
theorem w_X12_full {l : Launch} {d : Nat} {kd : pm_K} {mr : pm_R} {h : Nat} {x1 : Int32} {x2 : Int32} {x3 : Int32} {mi : pm_I} {ml : pm_L} {K : pm_I → pm_L → Prop} (th : TX12s kd mr h)
    (F : vp_in x1 121 ∧ ((¬ (mi (h + 10) (Int32.toNatClampNeg x1)) = x2 → K mi ml) ∧ ((mi (h + 10) (Int32.toNatClampNeg x1)) = x2 → wV l M_X12_later d [.ref h, .int 3, .int x3] kd mr mi ml (fun mi3 ml4 => K mi3 ml4)))) :
    wV l M_X12_full (d + 1) [.ref h, .int x1, .int x2, .int x3] kd mr mi ml K := by
  show wp l M_X12_full (d + 1) 0 0 0 [some (.ref h), some (.int x1), some (.int x2), some (.int x3)] [] 0 0 kd mi ml mr _
  refine wp_aload_n (pc := 0) dX12_full_0 rfl ?_
  refine wp_getR (pc := 1) dX12_full_1 fl_X12_38 rfl (TX12s_k th) (TX12s_r19 th) ?_
  refine wp_iload_n (pc := 4) dX12_full_4 rfl ?_
  refine wp_iald (pc := 5) dX12_full_5 (TX12s_a19 th) F.1 ?_
  have F := F.2
  refine wp_iload_n (pc := 6) dX12_full_6 rfl ?_
  refine wp_icmp_ne (tgt := 16) (pc := 7) dX12_full_7 (by decide) (fun c1 => ?_) (fun c1 => ?_)
  · have F := F.1 c1
    exact r_V (pc := 16) dX12_full_16 rfl F
  · have F := F.2 c1
    refine wp_aload_n (pc := 10) dX12_full_10 rfl ?_
    refine wp_iconst (v := 3) (pc := 11) dX12_full_11 (by decide) ?_
    refine wp_iload_n (pc := 12) dX12_full_12 rfl ?_
    refine cvV [.int 3, .int x3] [] (pc := 13) dX12_full_13 ml_X12_163 iv_X12_later (TX12s_k th) (cl_X12 rfl) rfl rfl (Nat.le_of_ble_eq_true rfl) (Nat.le_of_ble_eq_true rfl) (wV.mono (fun mi3 ml4 F => ?_) F)
    exact r_V (pc := 16) dX12_full_16 rfl F
/-- later(II)V -/
theorem w_X12_later {l : Launch} {d : Nat} {kd : pm_K} {mr : pm_R} {h : Nat} {x1 : Int32} {x2 : Int32} {mi : pm_I} {ml : pm_L} {K : pm_I → pm_L → Prop} (th : TX12s kd mr h)
    (F : (((mi h 17) = 0 → K (pm_up (pm_up mi h 17 x1) h 18 x2) ml) ∧ (¬ (mi h 17) = 0 → ((x2 < (mi h 18) → K (pm_up (pm_up mi h 17 x1) h 18 x2) ml) ∧ (¬ x2 < (mi h 18) → ((¬ x2 = (mi h 18) → K mi ml) ∧ (x2 = (mi h 18) → (((mi h 17) ≤ x1 → K mi ml) ∧ (¬ (mi h 17) ≤ x1 → K (pm_up (pm_up mi h 17 x1) h 18 x2) ml))))))))) :
    wV l M_X12_later d [.ref h, .int x1, .int x2] kd mr mi ml K := by
  show wp l M_X12_later d 0 0 0 [some (.ref h), some (.int x1), some (.int x2)] [] 0 0 kd mi ml mr _
  refine wp_aload_n (pc := 0) dX12_later_0 rfl ?_
  refine wp_getI (pc := 1) dX12_later_1 fl_X12_153 rfl (TX12s_k th) ?_
  refine wp_if_eq (tgt := 31) (pc := 4) dX12_later_4 (by decide) (fun c1 => ?_) (fun c1 => ?_)
  · have F := F.1 c1
    refine wp_aload_n (pc := 31) dX12_later_31 rfl ?_
    refine wp_iload_n (pc := 32) dX12_later_32 rfl ?_
    refine wp_putI (pc := 33) dX12_later_33 fl_X12_153 rfl rfl (TX12s_k th) ?_
    refine wp_aload_n (pc := 36) dX12_later_36 rfl ?_
    refine wp_iload_n (pc := 37) dX12_later_37 rfl ?_
    refine wp_putI (pc := 38) dX12_later_38 fl_X12_156 rfl rfl (TX12s_k th) ?_
    exact r_V (pc := 41) dX12_later_41 rfl F
  · have F := F.2 c1
    refine wp_iload_n (pc := 7) dX12_later_7 rfl ?_
    refine wp_aload_n (pc := 8) dX12_later_8 rfl ?_
    refine wp_getI (pc := 9) dX12_later_9 fl_X12_156 rfl (TX12s_k th) ?_
    refine wp_icmp_lt (tgt := 31) (pc := 12) dX12_later_12 (by decide) (fun c2 => ?_) (fun c2 => ?_)
    · have F := F.1 c2
      refine wp_aload_n (pc := 31) dX12_later_31 rfl ?_
      refine wp_iload_n (pc := 32) dX12_later_32 rfl ?_
      refine wp_putI (pc := 33) dX12_later_33 fl_X12_153 rfl rfl (TX12s_k th) ?_
      refine wp_aload_n (pc := 36) dX12_later_36 rfl ?_
      refine wp_iload_n (pc := 37) dX12_later_37 rfl ?_
      refine wp_putI (pc := 38) dX12_later_38 fl_X12_156 rfl rfl (TX12s_k th) ?_
      exact r_V (pc := 41) dX12_later_41 rfl F
    · have F := F.2 c2
      refine wp_iload_n (pc := 15) dX12_later_15 rfl ?_
      refine wp_aload_n (pc := 16) dX12_later_16 rfl ?_
      refine wp_getI (pc := 17) dX12_later_17 fl_X12_156 rfl (TX12s_k th) ?_
      refine wp_icmp_ne (tgt := 41) (pc := 20) dX12_later_20 (by decide) (fun c3 => ?_) (fun c3 => ?_)
      · have F := F.1 c3
        exact r_V (pc := 41) dX12_later_41 rfl F
      · have F := F.2 c3
        refine wp_iload_n (pc := 23) dX12_later_23 rfl ?_
        refine wp_aload_n (pc := 24) dX12_later_24 rfl ?_
        refine wp_getI (pc := 25) dX12_later_25 fl_X12_153 rfl (TX12s_k th) ?_
        refine wp_icmp_ge (tgt := 41) (pc := 28) dX12_later_28 (by decide) (fun c4 => ?_) (fun c4 => ?_)
        · have F := F.1 c4
          exact r_V (pc := 41) dX12_later_41 rfl F
        · have F := F.2 c4
          refine wp_aload_n (pc := 31) dX12_later_31 rfl ?_
          refine wp_iload_n (pc := 32) dX12_later_32 rfl ?_
          refine wp_putI (pc := 33) dX12_later_33 fl_X12_153 rfl rfl (TX12s_k th) ?_
          refine wp_aload_n (pc := 36) dX12_later_36 rfl ?_
          refine wp_iload_n (pc := 37) dX12_later_37 rfl ?_
          refine wp_putI (pc := 38) dX12_later_38 fl_X12_156 rfl rfl (TX12s_k th) ?_
          exact r_V (pc := 41) dX12_later_41 rfl F
/-- oneLine(III)Z -/
theorem w_X12_oneLine {l : Launch} {d : Nat} {kd : pm_K} {mr : pm_R} {h : Nat} {x1 : Int32} {x2 : Int32} {x3 : Int32} {mi : pm_I} {ml : pm_L} {K : Bool → pm_I → pm_L → Prop} (th : TX12s kd mr h)
    (F : wB l M_X12_takeCell d [.ref h, .int 0] kd mr mi ml (fun r1 mi2 ml3 => ((r1 = true → vp_in x1 121 ∧ ((6 ≤ (mi2 (h + 10) (Int32.toNatClampNeg x1)) → K true mi2 ml3) ∧ (¬ 6 ≤ (mi2 (h + 10) (Int32.toNatClampNeg x1)) → vp_in (x2 + (mi2 (h + 10) (Int32.toNatClampNeg x1))) 121 ∧ vp_in ((x2 + 6) + (mi2 (h + 10) (Int32.toNatClampNeg x1))) 121 ∧ vp_in ((x2 + 12) + (mi2 (h + 10) (Int32.toNatClampNeg x1))) 121 ∧ vp_in x1 121 ∧ vp_in x1 121 ∧ K true (pm_up (pm_up (pm_up (pm_up mi2 (h + 10) (Int32.toNatClampNeg (x2 + (mi2 (h + 10) (Int32.toNatClampNeg x1)))) x3) (h + 10) (Int32.toNatClampNeg ((x2 + 6) + (mi2 (h + 10) (Int32.toNatClampNeg x1)))) (mi2 (h + 11) (Int32.toNatClampNeg 0))) (h + 10) (Int32.toNatClampNeg ((x2 + 12) + (mi2 (h + 10) (Int32.toNatClampNeg x1)))) (mi2 (h + 11) (Int32.toNatClampNeg 1))) (h + 10) (Int32.toNatClampNeg x1) (((pm_up (pm_up (pm_up mi2 (h + 10) (Int32.toNatClampNeg (x2 + (mi2 (h + 10) (Int32.toNatClampNeg x1)))) x3) (h + 10) (Int32.toNatClampNeg ((x2 + 6) + (mi2 (h + 10) (Int32.toNatClampNeg x1)))) (mi2 (h + 11) (Int32.toNatClampNeg 0))) (h + 10) (Int32.toNatClampNeg ((x2 + 12) + (mi2 (h + 10) (Int32.toNatClampNeg x1)))) (mi2 (h + 11) (Int32.toNatClampNeg 1))) (h + 10) (Int32.toNatClampNeg x1)) + 1)) ml3))) ∧ (r1 = false → K false mi2 ml3)))) :
    wB l M_X12_oneLine (d + 1) [.ref h, .int x1, .int x2, .int x3] kd mr mi ml K := by
  show wp l M_X12_oneLine (d + 1) 0 0 0 [some (.ref h), some (.int x1), some (.int x2), some (.int x3), none] [] 0 0 kd mi ml mr _
  refine wp_aload_n (pc := 0) dX12_oneLine_0 rfl ?_
  refine wp_iconst (v := 0) (pc := 1) dX12_oneLine_1 (by decide) ?_
  refine cvB [.int 0] [] (pc := 2) dX12_oneLine_2 ml_X12_211 iv_X12_takeCell (TX12s_k th) (cl_X12 rfl) rfl rfl (Nat.le_of_ble_eq_true rfl) (Nat.le_of_ble_eq_true rfl) (wB.mono (fun r1 mi2 ml3 F => ?_) F)
  refine b_ne (tgt := 10) (pc := 5) dX12_oneLine_5 (by decide) (fun c4 => ?_) (fun c4 => ?_)
  · have F := F.1 c4
    refine wp_aload_n (pc := 10) dX12_oneLine_10 rfl ?_
    refine wp_getR (pc := 11) dX12_oneLine_11 fl_X12_38 rfl (TX12s_k th) (TX12s_r19 th) ?_
    refine wp_iload_n (pc := 14) dX12_oneLine_14 rfl ?_
    refine wp_iald (pc := 15) dX12_oneLine_15 (TX12s_a19 th) F.1 ?_
    have F := F.2
    refine wp_istore (pc := 16) dX12_oneLine_16 (Nat.le_of_ble_eq_true rfl) rfl ?_
    show wp l M_X12_oneLine (d + 1) 0 0 _ [some (.ref h), some (.int x1), some (.int x2), some (.int x3), some (.int (mi2 (h + 10) (Int32.toNatClampNeg x1)))] _ 0 0 kd _ _ mr _
    refine wp_iload (pc := 18) dX12_oneLine_18 rfl ?_
    refine wp_bipush (v := 6) (pc := 20) dX12_oneLine_20 (by decide) ?_
    refine wp_icmp_ge (tgt := 81) (pc := 22) dX12_oneLine_22 (by decide) (fun c5 => ?_) (fun c5 => ?_)
    · have F := F.1 c5
      refine wp_iconst (v := 1) (pc := 81) dX12_oneLine_81 (by decide) ?_
      exact r_Bx (pc := 82) dX12_oneLine_82 rfl rfl F
    · have F := F.2 c5
      refine wp_aload_n (pc := 25) dX12_oneLine_25 rfl ?_
      refine wp_getR (pc := 26) dX12_oneLine_26 fl_X12_38 rfl (TX12s_k th) (TX12s_r19 th) ?_
      refine wp_iload_n (pc := 29) dX12_oneLine_29 rfl ?_
      refine wp_iload (pc := 30) dX12_oneLine_30 rfl ?_
      refine wp_iadd (pc := 32) dX12_oneLine_32 ?_
      refine wp_iload_n (pc := 33) dX12_oneLine_33 rfl ?_
      refine wp_iast (pc := 34) dX12_oneLine_34 (TX12s_a19 th) F.1 ?_
      have F := F.2
      refine wp_aload_n (pc := 35) dX12_oneLine_35 rfl ?_
      refine wp_getR (pc := 36) dX12_oneLine_36 fl_X12_38 rfl (TX12s_k th) (TX12s_r19 th) ?_
      refine wp_iload_n (pc := 39) dX12_oneLine_39 rfl ?_
      refine wp_bipush (v := 6) (pc := 40) dX12_oneLine_40 (by decide) ?_
      refine wp_iadd (pc := 42) dX12_oneLine_42 ?_
      refine wp_iload (pc := 43) dX12_oneLine_43 rfl ?_
      refine wp_iadd (pc := 45) dX12_oneLine_45 ?_
      refine wp_aload_n (pc := 46) dX12_oneLine_46 rfl ?_
      refine wp_getR (pc := 47) dX12_oneLine_47 fl_X12_41 rfl (TX12s_k th) (TX12s_r20 th) ?_
      refine wp_iconst (v := 0) (pc := 50) dX12_oneLine_50 (by decide) ?_
      refine wp_iald (pc := 51) dX12_oneLine_51 (TX12s_a20 th) (vp_dec (by decide)) ?_
      refine t_I (show ((pm_up mi2 (h + 10) (Int32.toNatClampNeg (x2 + (mi2 (h + 10) (Int32.toNatClampNeg x1)))) x3) (h + 11) (Int32.toNatClampNeg 0)) = (mi2 (h + 11) (Int32.toNatClampNeg 0)) from pm_up_k _ _ (by omega)) ?_
      refine wp_iast (pc := 52) dX12_oneLine_52 (TX12s_a19 th) F.1 ?_
      have F := F.2
      refine wp_aload_n (pc := 53) dX12_oneLine_53 rfl ?_
      refine wp_getR (pc := 54) dX12_oneLine_54 fl_X12_38 rfl (TX12s_k th) (TX12s_r19 th) ?_
      refine wp_iload_n (pc := 57) dX12_oneLine_57 rfl ?_
      refine wp_bipush (v := 12) (pc := 58) dX12_oneLine_58 (by decide) ?_
      refine wp_iadd (pc := 60) dX12_oneLine_60 ?_
      refine wp_iload (pc := 61) dX12_oneLine_61 rfl ?_
      refine wp_iadd (pc := 63) dX12_oneLine_63 ?_
      refine wp_aload_n (pc := 64) dX12_oneLine_64 rfl ?_
      refine wp_getR (pc := 65) dX12_oneLine_65 fl_X12_41 rfl (TX12s_k th) (TX12s_r20 th) ?_
      refine wp_iconst (v := 1) (pc := 68) dX12_oneLine_68 (by decide) ?_
      refine wp_iald (pc := 69) dX12_oneLine_69 (TX12s_a20 th) (vp_dec (by decide)) ?_
      refine t_I (show ((pm_up (pm_up mi2 (h + 10) (Int32.toNatClampNeg (x2 + (mi2 (h + 10) (Int32.toNatClampNeg x1)))) x3) (h + 10) (Int32.toNatClampNeg ((x2 + 6) + (mi2 (h + 10) (Int32.toNatClampNeg x1)))) (mi2 (h + 11) (Int32.toNatClampNeg 0))) (h + 11) (Int32.toNatClampNeg 1)) = (mi2 (h + 11) (Int32.toNatClampNeg 1)) from (pm_up_k _ _ (by omega)).trans (pm_up_k _ _ (by omega))) ?_
      refine wp_iast (pc := 70) dX12_oneLine_70 (TX12s_a19 th) F.1 ?_
      have F := F.2
      refine wp_aload_n (pc := 71) dX12_oneLine_71 rfl ?_
      refine wp_getR (pc := 72) dX12_oneLine_72 fl_X12_38 rfl (TX12s_k th) (TX12s_r19 th) ?_
      refine wp_iload_n (pc := 75) dX12_oneLine_75 rfl ?_
      refine wp_dup2 (pc := 76) dX12_oneLine_76 rfl rfl ?_
      refine wp_iald (pc := 77) dX12_oneLine_77 (TX12s_a19 th) F.1 ?_
      have F := F.2
      refine wp_iconst (v := 1) (pc := 78) dX12_oneLine_78 (by decide) ?_
      refine wp_iadd (pc := 79) dX12_oneLine_79 ?_
      refine wp_iast (pc := 80) dX12_oneLine_80 (TX12s_a19 th) F.1 ?_
      have F := F.2
      refine wp_iconst (v := 1) (pc := 81) dX12_oneLine_81 (by decide) ?_
      exact r_Bx (pc := 82) dX12_oneLine_82 rfl rfl F
  · have F := F.2 c4
    refine wp_iconst (v := 0) (pc := 8) dX12_oneLine_8 (by decide) ?_
    exact r_Bx (pc := 9) dX12_oneLine_9 rfl rfl F
/-- takeCell(I)Z -/
theorem w_X12_takeCell {l : Launch} {d : Nat} {kd : pm_K} {mr : pm_R} {h : Nat} {x1 : Int32} {mi : pm_I} {ml : pm_L} {K : Bool → pm_I → pm_L → Prop} (th : TX12s kd mr h)
    (F : wB l M_X12_take d [.ref h, .int x1, .int 0, .int 7] kd mr mi ml (fun r1 mi2 ml3 => ((r1 = false → K false mi2 ml3) ∧ (r1 = true → wB l M_X12_take d [.ref h, .int (x1 + 1), .int 0, .int 7] kd mr mi2 ml3 (fun r5 mi6 ml7 => ((r5 = true → vp_in x1 3 ∧ wI l M_X12_greater d [.int (mi6 h 21), .int (mi6 (h + 11) (Int32.toNatClampNeg x1))] kd mr mi6 ml7 (fun r9 mi10 ml11 => vp_in (x1 + 1) 3 ∧ wI l M_X12_greater d [.int (mi10 h 22), .int (mi10 (h + 11) (Int32.toNatClampNeg (x1 + 1)))] kd mr (pm_up mi10 h 21 r9) ml11 (fun r12 mi13 ml14 => K true (pm_up mi13 h 22 r12) ml14))) ∧ (r5 = false → K false mi6 ml7))))))) :
    wB l M_X12_takeCell (d + 1) [.ref h, .int x1] kd mr mi ml K := by
  show wp l M_X12_takeCell (d + 1) 0 0 0 [some (.ref h), some (.int x1)] [] 0 0 kd mi ml mr _
  refine wp_aload_n (pc := 0) dX12_takeCell_0 rfl ?_
  refine wp_iload_n (pc := 1) dX12_takeCell_1 rfl ?_
  refine wp_iconst (v := 0) (pc := 2) dX12_takeCell_2 (by decide) ?_
  refine wp_bipush (v := 7) (pc := 3) dX12_takeCell_3 (by decide) ?_
  refine cvB [.int x1, .int 0, .int 7] [] (pc := 5) dX12_takeCell_5 ml_X12_174 iv_X12_take (TX12s_k th) (cl_X12 rfl) rfl rfl (Nat.le_of_ble_eq_true rfl) (Nat.le_of_ble_eq_true rfl) (wB.mono (fun r1 mi2 ml3 F => ?_) F)
  refine b_eq (tgt := 24) (pc := 8) dX12_takeCell_8 (by decide) (fun c4 => ?_) (fun c4 => ?_)
  · have F := F.1 c4
    refine wp_iconst (v := 0) (pc := 24) dX12_takeCell_24 (by decide) ?_
    exact r_Bx (pc := 25) dX12_takeCell_25 rfl rfl F
  · have F := F.2 c4
    refine wp_aload_n (pc := 11) dX12_takeCell_11 rfl ?_
    refine wp_iload_n (pc := 12) dX12_takeCell_12 rfl ?_
    refine wp_iconst (v := 1) (pc := 13) dX12_takeCell_13 (by decide) ?_
    refine wp_iadd (pc := 14) dX12_takeCell_14 ?_
    refine wp_iconst (v := 0) (pc := 15) dX12_takeCell_15 (by decide) ?_
    refine wp_bipush (v := 7) (pc := 16) dX12_takeCell_16 (by decide) ?_
    refine cvB [.int (x1 + 1), .int 0, .int 7] [] (pc := 18) dX12_takeCell_18 ml_X12_174 iv_X12_take (TX12s_k th) (cl_X12 rfl) rfl rfl (Nat.le_of_ble_eq_true rfl) (Nat.le_of_ble_eq_true rfl) (wB.mono (fun r5 mi6 ml7 F => ?_) F)
    refine b_ne (tgt := 26) (pc := 21) dX12_takeCell_21 (by decide) (fun c8 => ?_) (fun c8 => ?_)
    · have F := F.1 c8
      refine wp_aload_n (pc := 26) dX12_takeCell_26 rfl ?_
      refine wp_aload_n (pc := 27) dX12_takeCell_27 rfl ?_
      refine wp_getI (pc := 28) dX12_takeCell_28 fl_X12_177 rfl (TX12s_k th) ?_
      refine wp_aload_n (pc := 31) dX12_takeCell_31 rfl ?_
      refine wp_getR (pc := 32) dX12_takeCell_32 fl_X12_41 rfl (TX12s_k th) (TX12s_r20 th) ?_
      refine wp_iload_n (pc := 35) dX12_takeCell_35 rfl ?_
      refine wp_iald (pc := 36) dX12_takeCell_36 (TX12s_a20 th) F.1 ?_
      have F := F.2
      refine csI [.int (mi6 h 21), .int (mi6 (h + 11) (Int32.toNatClampNeg x1))] [.ref h] (pc := 37) dX12_takeCell_37 ml_X12_180 st_X12_greater rfl rfl (Nat.le_of_ble_eq_true rfl) (Nat.le_of_ble_eq_true rfl) (wI.mono (fun r9 mi10 ml11 F => ?_) F)
      refine wp_putI (pc := 40) dX12_takeCell_40 fl_X12_177 rfl rfl (TX12s_k th) ?_
      refine wp_aload_n (pc := 43) dX12_takeCell_43 rfl ?_
      refine wp_aload_n (pc := 44) dX12_takeCell_44 rfl ?_
      refine wp_getI (pc := 45) dX12_takeCell_45 fl_X12_184 rfl (TX12s_k th) ?_
      refine t_I (show ((pm_up mi10 h 21 r9) h 22) = (mi10 h 22) from pm_up_j _ _ (by decide)) ?_
      refine wp_aload_n (pc := 48) dX12_takeCell_48 rfl ?_
      refine wp_getR (pc := 49) dX12_takeCell_49 fl_X12_41 rfl (TX12s_k th) (TX12s_r20 th) ?_
      refine wp_iload_n (pc := 52) dX12_takeCell_52 rfl ?_
      refine wp_iconst (v := 1) (pc := 53) dX12_takeCell_53 (by decide) ?_
      refine wp_iadd (pc := 54) dX12_takeCell_54 ?_
      refine wp_iald (pc := 55) dX12_takeCell_55 (TX12s_a20 th) F.1 ?_
      have F := F.2
      refine t_I (show ((pm_up mi10 h 21 r9) (h + 11) (Int32.toNatClampNeg (x1 + 1))) = (mi10 (h + 11) (Int32.toNatClampNeg (x1 + 1))) from pm_up_k _ _ (by omega)) ?_
      refine csI [.int (mi10 h 22), .int (mi10 (h + 11) (Int32.toNatClampNeg (x1 + 1)))] [.ref h] (pc := 56) dX12_takeCell_56 ml_X12_180 st_X12_greater rfl rfl (Nat.le_of_ble_eq_true rfl) (Nat.le_of_ble_eq_true rfl) (wI.mono (fun r12 mi13 ml14 F => ?_) F)
      refine wp_putI (pc := 59) dX12_takeCell_59 fl_X12_184 rfl rfl (TX12s_k th) ?_
      refine wp_iconst (v := 1) (pc := 62) dX12_takeCell_62 (by decide) ?_
      exact r_Bx (pc := 63) dX12_takeCell_63 rfl rfl F
    · have F := F.2 c8
      refine wp_iconst (v := 0) (pc := 24) dX12_takeCell_24 (by decide) ?_
      exact r_Bx (pc := 25) dX12_takeCell_25 rfl rfl F
def c_X12_take_49 (l : Launch) (d : Nat) (kd : pm_K) (mr : pm_R) (h : Nat)  (mi : pm_I) (ml : pm_L) (K : Bool → pm_I → pm_L → Prop) : Prop := wp l M_X12_take d 0 0 49 [some (.ref h), none, none, none] [] 0 0 kd mi ml mr (qB kd mr K)
theorem w_X12_take_49 {l : Launch} {d : Nat} {kd : pm_K} {mr : pm_R} {h : Nat}  {mi : pm_I} {ml : pm_L} {K : Bool → pm_I → pm_L → Prop} (th : TX12s kd mr h)
    (F : wV l M_X12_token d [.ref h] kd mr mi ml (fun mi13 ml14 => K true mi13 ml14)) :
    c_X12_take_49 l (d + 1) kd mr h mi ml K := by
  show wp l M_X12_take (d + 1) 0 0 49 [some (.ref h), none, none, none] [] 0 0 kd mi ml mr _
  refine wp_aload_n (pc := 49) dX12_take_49 rfl ?_
  refine cvV [] [] (pc := 50) dX12_take_50 ml_X12_171 iv_X12_token (TX12s_k th) (cl_X12 rfl) rfl rfl (Nat.le_of_ble_eq_true rfl) (Nat.le_of_ble_eq_true rfl) (wV.mono (fun mi13 ml14 F => ?_) F)
  refine wp_iconst (v := 1) (pc := 53) dX12_take_53 (by decide) ?_
  exact r_Bx (pc := 54) dX12_take_54 rfl rfl F
/-- take(III)Z -/
theorem w_X12_take {l : Launch} {d : Nat} {kd : pm_K} {mr : pm_R} {h : Nat} {x1 : Int32} {x2 : Int32} {x3 : Int32} {mi : pm_I} {ml : pm_L} {K : Bool → pm_I → pm_L → Prop} (th : TX12s kd mr h)
    (F : (((mi h 13) = 3 → vp_in x1 3 ∧ wB l M_X12_in d [.int (mi h 14), .int x2, .int x3] kd mr (pm_up mi (h + 11) (Int32.toNatClampNeg x1) (mi h 14)) ml (fun r2 mi3 ml4 => ((r2 = true → c_X12_take_49 l (d + 1) kd mr h  mi3 ml4 K) ∧ (r2 = false → wV l M_X12_later d [.ref h, .int 2, .int (mi3 h 12)] kd mr mi3 ml4 (fun mi7 ml8 => c_X12_take_49 l (d + 1) kd mr h  (pm_up mi7 h 24 0) ml8 K))))) ∧ (¬ (mi h 13) = 3 → wB l M_X12_fails d [.ref h] kd mr mi ml (fun r9 mi10 ml11 => K r9 mi10 ml11)))) :
    wB l M_X12_take (d + 1) [.ref h, .int x1, .int x2, .int x3] kd mr mi ml K := by
  show wp l M_X12_take (d + 1) 0 0 0 [some (.ref h), some (.int x1), some (.int x2), some (.int x3)] [] 0 0 kd mi ml mr _
  refine wp_aload_n (pc := 0) dX12_take_0 rfl ?_
  refine wp_getI (pc := 1) dX12_take_1 fl_X12_144 rfl (TX12s_k th) ?_
  refine wp_iconst (v := 3) (pc := 4) dX12_take_4 (by decide) ?_
  refine wp_icmp_eq (tgt := 13) (pc := 5) dX12_take_5 (by decide) (fun c1 => ?_) (fun c1 => ?_)
  · have F := F.1 c1
    refine wp_aload_n (pc := 13) dX12_take_13 rfl ?_
    refine wp_getR (pc := 14) dX12_take_14 fl_X12_41 rfl (TX12s_k th) (TX12s_r20 th) ?_
    refine wp_iload_n (pc := 17) dX12_take_17 rfl ?_
    refine wp_aload_n (pc := 18) dX12_take_18 rfl ?_
    refine wp_getI (pc := 19) dX12_take_19 fl_X12_147 rfl (TX12s_k th) ?_
    refine wp_iast (pc := 22) dX12_take_22 (TX12s_a20 th) F.1 ?_
    have F := F.2
    refine wp_aload_n (pc := 23) dX12_take_23 rfl ?_
    refine wp_getI (pc := 24) dX12_take_24 fl_X12_147 rfl (TX12s_k th) ?_
    refine t_I (show ((pm_up mi (h + 11) (Int32.toNatClampNeg x1) (mi h 14)) h 14) = (mi h 14) from pm_up_k _ _ (by omega)) ?_
    refine wp_iload_n (pc := 27) dX12_take_27 rfl ?_
    refine wp_iload_n (pc := 28) dX12_take_28 rfl ?_
    refine csB [.int (mi h 14), .int x2, .int x3] [] (pc := 29) dX12_take_29 ml_X12_119 st_X12_in rfl rfl (Nat.le_of_ble_eq_true rfl) (Nat.le_of_ble_eq_true rfl) (wB.mono (fun r2 mi3 ml4 F => ?_) F)
    refine b_ne (tgt := 49) (pc := 32) dX12_take_32 (by decide) (fun c5 => ?_) (fun c5 => ?_)
    · have F := F.1 c5
      exact wp_less (L' := [some (.ref h), none, none, none]) ⟨rfl, trivial⟩ F
    · have F := F.2 c5
      refine wp_aload_n (pc := 35) dX12_take_35 rfl ?_
      refine wp_iconst (v := 2) (pc := 36) dX12_take_36 (by decide) ?_
      refine wp_aload_n (pc := 37) dX12_take_37 rfl ?_
      refine wp_getI (pc := 38) dX12_take_38 fl_X12_137 rfl (TX12s_k th) ?_
      refine cvV [.int 2, .int (mi3 h 12)] [] (pc := 41) dX12_take_41 ml_X12_163 iv_X12_later (TX12s_k th) (cl_X12 rfl) rfl rfl (Nat.le_of_ble_eq_true rfl) (Nat.le_of_ble_eq_true rfl) (wV.mono (fun mi7 ml8 F => ?_) F)
      refine wp_aload_n (pc := 44) dX12_take_44 rfl ?_
      refine wp_iconst (v := 0) (pc := 45) dX12_take_45 (by decide) ?_
      refine wp_putZ (pc := 46) dX12_take_46 fl_X12_167 rfl rfl (TX12s_k th) (by decide) ?_
      exact wp_less (L' := [some (.ref h), none, none, none]) ⟨rfl, trivial⟩ F
  · have F := F.2 c1
    refine wp_aload_n (pc := 8) dX12_take_8 rfl ?_
    refine cvB [] [] (pc := 9) dX12_take_9 ml_X12_159 iv_X12_fails (TX12s_k th) (cl_X12 rfl) rfl rfl (Nat.le_of_ble_eq_true rfl) (Nat.le_of_ble_eq_true rfl) (wB.mono (fun r9 mi10 ml11 F => ?_) F)
    exact r_B (pc := 12) dX12_take_12 rfl F
/-- greater(II)I -/
theorem w_X12_greater {l : Launch} {d : Nat} {kd : pm_K} {mr : pm_R}  {x0 : Int32} {x1 : Int32} {mi : pm_I} {ml : pm_L} {K : Int32 → pm_I → pm_L → Prop} 
    (F : K (if x0 ≤ x1 then x1 else x0) mi ml) :
    wI l M_X12_greater d [.int x0, .int x1] kd mr mi ml K := by
  show wp l M_X12_greater d 0 0 0 [some (.int x0), some (.int x1)] [] 0 0 kd mi ml mr _
  refine wp_iload_n (pc := 0) dX12_greater_0 rfl ?_
  refine wp_iload_n (pc := 1) dX12_greater_1 rfl ?_
  suffices J1 : ∀ v2 : Int32, v2 = (if x0 ≤ x1 then x1 else x0) → wp l M_X12_greater d 0 0 10 [some (.int x0), some (.int x1)] [.int v2] 0 0 kd mi ml mr _ by
      refine wp_icmp_le (tgt := 9) (pc := 2) dX12_greater_2 (by decide) (fun c3 => ?_) (fun c3 => ?_)
      · refine wp_iload_n (pc := 9) dX12_greater_9 rfl ?_
        exact J1 _ (by simp only [eq_true c3, if_true, if_false, decide_true, decide_false, Bool.not_true, Bool.not_false, Bool.true_and, Bool.false_and, Bool.true_or, Bool.false_or, b2i_t, b2i_f, ite_true, ite_false, not_true_eq_false, not_false_eq_true, reduceCtorEq, decide_eq_true_eq])
      · refine wp_iload_n (pc := 5) dX12_greater_5 rfl ?_
        refine wp_goto (tgt := 10) (pc := 6) dX12_greater_6 (by decide) ?_
        exact J1 _ (by simp only [c3, if_true, if_false, decide_true, decide_false, Bool.not_true, Bool.not_false, Bool.true_and, Bool.false_and, Bool.true_or, Bool.false_or, b2i_t, b2i_f, ite_true, ite_false, not_true_eq_false, not_false_eq_true, reduceCtorEq, decide_eq_true_eq])
  intro v2 ev2
  subst ev2
  exact r_I (pc := 10) dX12_greater_10 rfl F
/-- sizeLine()Z -/
theorem w_X12_sizeLine {l : Launch} {d : Nat} {kd : pm_K} {mr : pm_R} {h : Nat}  {mi : pm_I} {ml : pm_L} {K : Bool → pm_I → pm_L → Prop} (th : TX12s kd mr h)
    (F : wB l M_X12_take d [.ref h, .int 0, .int 2, .int 8] kd mr mi ml (fun r1 mi2 ml3 => ((r1 = false → K false mi2 ml3) ∧ (r1 = true → wB l M_X12_take d [.ref h, .int 1, .int 2, .int 8] kd mr mi2 ml3 (fun r5 mi6 ml7 => ((r5 = true → K true (pm_up (pm_up mi6 (h + 10) (Int32.toNatClampNeg 0) (mi6 (h + 11) (Int32.toNatClampNeg 0))) (h + 10) (Int32.toNatClampNeg 1) (mi6 (h + 11) (Int32.toNatClampNeg 1))) ml7) ∧ (r5 = false → K false mi6 ml7))))))) :
    wB l M_X12_sizeLine (d + 1) [.ref h] kd mr mi ml K := by
  show wp l M_X12_sizeLine (d + 1) 0 0 0 [some (.ref h)] [] 0 0 kd mi ml mr _
  refine wp_aload_n (pc := 0) dX12_sizeLine_0 rfl ?_
  refine wp_iconst (v := 0) (pc := 1) dX12_sizeLine_1 (by decide) ?_
  refine wp_iconst (v := 2) (pc := 2) dX12_sizeLine_2 (by decide) ?_
  refine wp_bipush (v := 8) (pc := 3) dX12_sizeLine_3 (by decide) ?_
  refine cvB [.int 0, .int 2, .int 8] [] (pc := 5) dX12_sizeLine_5 ml_X12_174 iv_X12_take (TX12s_k th) (cl_X12 rfl) rfl rfl (Nat.le_of_ble_eq_true rfl) (Nat.le_of_ble_eq_true rfl) (wB.mono (fun r1 mi2 ml3 F => ?_) F)
  refine b_eq (tgt := 22) (pc := 8) dX12_sizeLine_8 (by decide) (fun c4 => ?_) (fun c4 => ?_)
  · have F := F.1 c4
    refine wp_iconst (v := 0) (pc := 22) dX12_sizeLine_22 (by decide) ?_
    exact r_Bx (pc := 23) dX12_sizeLine_23 rfl rfl F
  · have F := F.2 c4
    refine wp_aload_n (pc := 11) dX12_sizeLine_11 rfl ?_
    refine wp_iconst (v := 1) (pc := 12) dX12_sizeLine_12 (by decide) ?_
    refine wp_iconst (v := 2) (pc := 13) dX12_sizeLine_13 (by decide) ?_
    refine wp_bipush (v := 8) (pc := 14) dX12_sizeLine_14 (by decide) ?_
    refine cvB [.int 1, .int 2, .int 8] [] (pc := 16) dX12_sizeLine_16 ml_X12_174 iv_X12_take (TX12s_k th) (cl_X12 rfl) rfl rfl (Nat.le_of_ble_eq_true rfl) (Nat.le_of_ble_eq_true rfl) (wB.mono (fun r5 mi6 ml7 F => ?_) F)
    refine b_ne (tgt := 24) (pc := 19) dX12_sizeLine_19 (by decide) (fun c8 => ?_) (fun c8 => ?_)
    · have F := F.1 c8
      refine wp_aload_n (pc := 24) dX12_sizeLine_24 rfl ?_
      refine wp_getR (pc := 25) dX12_sizeLine_25 fl_X12_38 rfl (TX12s_k th) (TX12s_r19 th) ?_
      refine wp_iconst (v := 0) (pc := 28) dX12_sizeLine_28 (by decide) ?_
      refine wp_aload_n (pc := 29) dX12_sizeLine_29 rfl ?_
      refine wp_getR (pc := 30) dX12_sizeLine_30 fl_X12_41 rfl (TX12s_k th) (TX12s_r20 th) ?_
      refine wp_iconst (v := 0) (pc := 33) dX12_sizeLine_33 (by decide) ?_
      refine wp_iald (pc := 34) dX12_sizeLine_34 (TX12s_a20 th) (vp_dec (by decide)) ?_
      refine wp_iast (pc := 35) dX12_sizeLine_35 (TX12s_a19 th) (vp_dec (by decide)) ?_
      refine wp_aload_n (pc := 36) dX12_sizeLine_36 rfl ?_
      refine wp_getR (pc := 37) dX12_sizeLine_37 fl_X12_38 rfl (TX12s_k th) (TX12s_r19 th) ?_
      refine wp_iconst (v := 1) (pc := 40) dX12_sizeLine_40 (by decide) ?_
      refine wp_aload_n (pc := 41) dX12_sizeLine_41 rfl ?_
      refine wp_getR (pc := 42) dX12_sizeLine_42 fl_X12_41 rfl (TX12s_k th) (TX12s_r20 th) ?_
      refine wp_iconst (v := 1) (pc := 45) dX12_sizeLine_45 (by decide) ?_
      refine wp_iald (pc := 46) dX12_sizeLine_46 (TX12s_a20 th) (vp_dec (by decide)) ?_
      refine t_I (show ((pm_up mi6 (h + 10) (Int32.toNatClampNeg 0) (mi6 (h + 11) (Int32.toNatClampNeg 0))) (h + 11) (Int32.toNatClampNeg 1)) = (mi6 (h + 11) (Int32.toNatClampNeg 1)) from pm_up_k _ _ (by omega)) ?_
      refine wp_iast (pc := 47) dX12_sizeLine_47 (TX12s_a19 th) (vp_dec (by decide)) ?_
      refine wp_iconst (v := 1) (pc := 48) dX12_sizeLine_48 (by decide) ?_
      exact r_Bx (pc := 49) dX12_sizeLine_49 rfl rfl F
    · have F := F.2 c8
      refine wp_iconst (v := 0) (pc := 22) dX12_sizeLine_22 (by decide) ?_
      exact r_Bx (pc := 23) dX12_sizeLine_23 rfl rfl F
/-- wallLine()Z -/
theorem w_X12_wallLine {l : Launch} {d : Nat} {kd : pm_K} {mr : pm_R} {h : Nat}  {mi : pm_I} {ml : pm_L} {K : Bool → pm_I → pm_L → Prop} (th : TX12s kd mr h)
    (F : wB l M_X12_takeCell d [.ref h, .int 0] kd mr mi ml (fun r1 mi2 ml3 => ((r1 = true → (((mi2 h 24) = 0 → K true mi2 ml3) ∧ (¬ (mi2 h 24) = 0 → vp_in (45 + (mi2 (h + 11) (Int32.toNatClampNeg 1))) 121 ∧ vp_in (45 + (mi2 (h + 11) (Int32.toNatClampNeg 1))) 121 ∧ K true (pm_up mi2 (h + 10) (Int32.toNatClampNeg (45 + (mi2 (h + 11) (Int32.toNatClampNeg 1)))) ((mi2 (h + 10) (Int32.toNatClampNeg (45 + (mi2 (h + 11) (Int32.toNatClampNeg 1))))) ||| ((1 : Int32) <<< ((mi2 (h + 11) (Int32.toNatClampNeg 0)) &&& 31)))) ml3))) ∧ (r1 = false → K false mi2 ml3)))) :
    wB l M_X12_wallLine (d + 1) [.ref h] kd mr mi ml K := by
  show wp l M_X12_wallLine (d + 1) 0 0 0 [some (.ref h)] [] 0 0 kd mi ml mr _
  refine wp_aload_n (pc := 0) dX12_wallLine_0 rfl ?_
  refine wp_iconst (v := 0) (pc := 1) dX12_wallLine_1 (by decide) ?_
  refine cvB [.int 0] [] (pc := 2) dX12_wallLine_2 ml_X12_211 iv_X12_takeCell (TX12s_k th) (cl_X12 rfl) rfl rfl (Nat.le_of_ble_eq_true rfl) (Nat.le_of_ble_eq_true rfl) (wB.mono (fun r1 mi2 ml3 F => ?_) F)
  refine b_ne (tgt := 10) (pc := 5) dX12_wallLine_5 (by decide) (fun c4 => ?_) (fun c4 => ?_)
  · have F := F.1 c4
    refine wp_aload_n (pc := 10) dX12_wallLine_10 rfl ?_
    refine wp_getI (pc := 11) dX12_wallLine_11 fl_X12_167 rfl (TX12s_k th) ?_
    refine wp_if_eq (tgt := 42) (pc := 14) dX12_wallLine_14 (by decide) (fun c5 => ?_) (fun c5 => ?_)
    · have F := F.1 c5
      refine wp_iconst (v := 1) (pc := 42) dX12_wallLine_42 (by decide) ?_
      exact r_Bx (pc := 43) dX12_wallLine_43 rfl rfl F
    · have F := F.2 c5
      refine wp_aload_n (pc := 17) dX12_wallLine_17 rfl ?_
      refine wp_getR (pc := 18) dX12_wallLine_18 fl_X12_38 rfl (TX12s_k th) (TX12s_r19 th) ?_
      refine wp_bipush (v := 45) (pc := 21) dX12_wallLine_21 (by decide) ?_
      refine wp_aload_n (pc := 23) dX12_wallLine_23 rfl ?_
      refine wp_getR (pc := 24) dX12_wallLine_24 fl_X12_41 rfl (TX12s_k th) (TX12s_r20 th) ?_
      refine wp_iconst (v := 1) (pc := 27) dX12_wallLine_27 (by decide) ?_
      refine wp_iald (pc := 28) dX12_wallLine_28 (TX12s_a20 th) (vp_dec (by decide)) ?_
      refine wp_iadd (pc := 29) dX12_wallLine_29 ?_
      refine wp_dup2 (pc := 30) dX12_wallLine_30 rfl rfl ?_
      refine wp_iald (pc := 31) dX12_wallLine_31 (TX12s_a19 th) F.1 ?_
      have F := F.2
      refine wp_iconst (v := 1) (pc := 32) dX12_wallLine_32 (by decide) ?_
      refine wp_aload_n (pc := 33) dX12_wallLine_33 rfl ?_
      refine wp_getR (pc := 34) dX12_wallLine_34 fl_X12_41 rfl (TX12s_k th) (TX12s_r20 th) ?_
      refine wp_iconst (v := 0) (pc := 37) dX12_wallLine_37 (by decide) ?_
      refine wp_iald (pc := 38) dX12_wallLine_38 (TX12s_a20 th) (vp_dec (by decide)) ?_
      refine wp_ishl (pc := 39) dX12_wallLine_39 ?_
      refine wp_ior (pc := 40) dX12_wallLine_40 ?_
      refine wp_iast (pc := 41) dX12_wallLine_41 (TX12s_a19 th) F.1 ?_
      have F := F.2
      refine wp_iconst (v := 1) (pc := 42) dX12_wallLine_42 (by decide) ?_
      exact r_Bx (pc := 43) dX12_wallLine_43 rfl rfl F
  · have F := F.2 c4
    refine wp_iconst (v := 0) (pc := 8) dX12_wallLine_8 (by decide) ?_
    exact r_Bx (pc := 9) dX12_wallLine_9 rfl rfl F
/-- windLine()Z -/
theorem w_X12_windLine {l : Launch} {d : Nat} {kd : pm_K} {mr : pm_R} {h : Nat}  {mi : pm_I} {ml : pm_L} {K : Bool → pm_I → pm_L → Prop} (th : TX12s kd mr h)
    (F : wB l M_X12_take d [.ref h, .int 0, .int 0, .int 4] kd mr mi ml (fun r1 mi2 ml3 => ((r1 = true → K true (pm_up mi2 (h + 10) (Int32.toNatClampNeg 2) (mi2 (h + 11) (Int32.toNatClampNeg 0))) ml3) ∧ (r1 = false → K false mi2 ml3)))) :
    wB l M_X12_windLine (d + 1) [.ref h] kd mr mi ml K := by
  show wp l M_X12_windLine (d + 1) 0 0 0 [some (.ref h)] [] 0 0 kd mi ml mr _
  refine wp_aload_n (pc := 0) dX12_windLine_0 rfl ?_
  refine wp_iconst (v := 0) (pc := 1) dX12_windLine_1 (by decide) ?_
  refine wp_iconst (v := 0) (pc := 2) dX12_windLine_2 (by decide) ?_
  refine wp_iconst (v := 4) (pc := 3) dX12_windLine_3 (by decide) ?_
  refine cvB [.int 0, .int 0, .int 4] [] (pc := 4) dX12_windLine_4 ml_X12_174 iv_X12_take (TX12s_k th) (cl_X12 rfl) rfl rfl (Nat.le_of_ble_eq_true rfl) (Nat.le_of_ble_eq_true rfl) (wB.mono (fun r1 mi2 ml3 F => ?_) F)
  refine b_ne (tgt := 12) (pc := 7) dX12_windLine_7 (by decide) (fun c4 => ?_) (fun c4 => ?_)
  · have F := F.1 c4
    refine wp_aload_n (pc := 12) dX12_windLine_12 rfl ?_
    refine wp_getR (pc := 13) dX12_windLine_13 fl_X12_38 rfl (TX12s_k th) (TX12s_r19 th) ?_
    refine wp_iconst (v := 2) (pc := 16) dX12_windLine_16 (by decide) ?_
    refine wp_aload_n (pc := 17) dX12_windLine_17 rfl ?_
    refine wp_getR (pc := 18) dX12_windLine_18 fl_X12_41 rfl (TX12s_k th) (TX12s_r20 th) ?_
    refine wp_iconst (v := 0) (pc := 21) dX12_windLine_21 (by decide) ?_
    refine wp_iald (pc := 22) dX12_windLine_22 (TX12s_a20 th) (vp_dec (by decide)) ?_
    refine wp_iast (pc := 23) dX12_windLine_23 (TX12s_a19 th) (vp_dec (by decide)) ?_
    refine wp_iconst (v := 1) (pc := 24) dX12_windLine_24 (by decide) ?_
    exact r_Bx (pc := 25) dX12_windLine_25 rfl rfl F
  · have F := F.2 c4
    refine wp_iconst (v := 0) (pc := 10) dX12_windLine_10 (by decide) ?_
    exact r_Bx (pc := 11) dX12_windLine_11 rfl rfl F
def c_X12_valueLine_19 (l : Launch) (d : Nat) (kd : pm_K) (mr : pm_R) (h : Nat) (s0 : Int32) (mi : pm_I) (ml : pm_L) (K : Bool → pm_I → pm_L → Prop) : Prop := wp l M_X12_valueLine d 0 0 19 [some (.ref h), none] [.int s0] 0 0 kd mi ml mr (qB kd mr K)
theorem w_X12_valueLine_19 {l : Launch} {d : Nat} {kd : pm_K} {mr : pm_R} {h : Nat} {s0 : Int32} {mi : pm_I} {ml : pm_L} {K : Bool → pm_I → pm_L → Prop} (th : TX12s kd mr h)
    (F : ((¬ s0 = (-1) → wV l M_X12_token d [.ref h] kd mr mi ml (fun mi7 ml8 => wB l M_X12_take d [.ref h, .int 0, .int 0, .int 9] kd mr mi7 ml8 (fun r9 mi10 ml11 => ((r9 = true → vp_in (5 + s0) 121 ∧ K true (pm_up mi10 (h + 10) (Int32.toNatClampNeg (5 + s0)) (mi10 (h + 11) (Int32.toNatClampNeg 0))) ml11) ∧ (r9 = false → K false mi10 ml11))))) ∧ (s0 = (-1) → wB l M_X12_fails d [.ref h] kd mr mi ml (fun r13 mi14 ml15 => K r13 mi14 ml15)))) :
    c_X12_valueLine_19 l (d + 1) kd mr h s0 mi ml K := by
  show wp l M_X12_valueLine (d + 1) 0 0 19 [some (.ref h), none] [.int s0] 0 0 kd mi ml mr _
  refine wp_istore_n (pc := 19) dX12_valueLine_19 (Nat.le_of_ble_eq_true rfl) rfl ?_
  show wp l M_X12_valueLine (d + 1) 0 0 _ [some (.ref h), some (.int s0)] _ 0 0 kd _ _ mr _
  refine wp_iload_n (pc := 20) dX12_valueLine_20 rfl ?_
  refine wp_iconst (v := -1) (pc := 21) dX12_valueLine_21 (by decide) ?_
  refine wp_icmp_ne (tgt := 30) (pc := 22) dX12_valueLine_22 (by decide) (fun c5 => ?_) (fun c5 => ?_)
  · have F := F.1 c5
    refine wp_aload_n (pc := 30) dX12_valueLine_30 rfl ?_
    refine cvV [] [] (pc := 31) dX12_valueLine_31 ml_X12_171 iv_X12_token (TX12s_k th) (cl_X12 rfl) rfl rfl (Nat.le_of_ble_eq_true rfl) (Nat.le_of_ble_eq_true rfl) (wV.mono (fun mi7 ml8 F => ?_) F)
    refine wp_aload_n (pc := 34) dX12_valueLine_34 rfl ?_
    refine wp_iconst (v := 0) (pc := 35) dX12_valueLine_35 (by decide) ?_
    refine wp_iconst (v := 0) (pc := 36) dX12_valueLine_36 (by decide) ?_
    refine wp_bipush (v := 9) (pc := 37) dX12_valueLine_37 (by decide) ?_
    refine cvB [.int 0, .int 0, .int 9] [] (pc := 39) dX12_valueLine_39 ml_X12_174 iv_X12_take (TX12s_k th) (cl_X12 rfl) rfl rfl (Nat.le_of_ble_eq_true rfl) (Nat.le_of_ble_eq_true rfl) (wB.mono (fun r9 mi10 ml11 F => ?_) F)
    refine b_ne (tgt := 47) (pc := 42) dX12_valueLine_42 (by decide) (fun c12 => ?_) (fun c12 => ?_)
    · have F := F.1 c12
      refine wp_aload_n (pc := 47) dX12_valueLine_47 rfl ?_
      refine wp_getR (pc := 48) dX12_valueLine_48 fl_X12_38 rfl (TX12s_k th) (TX12s_r19 th) ?_
      refine wp_iconst (v := 5) (pc := 51) dX12_valueLine_51 (by decide) ?_
      refine wp_iload_n (pc := 52) dX12_valueLine_52 rfl ?_
      refine wp_iadd (pc := 53) dX12_valueLine_53 ?_
      refine wp_aload_n (pc := 54) dX12_valueLine_54 rfl ?_
      refine wp_getR (pc := 55) dX12_valueLine_55 fl_X12_41 rfl (TX12s_k th) (TX12s_r20 th) ?_
      refine wp_iconst (v := 0) (pc := 58) dX12_valueLine_58 (by decide) ?_
      refine wp_iald (pc := 59) dX12_valueLine_59 (TX12s_a20 th) (vp_dec (by decide)) ?_
      refine wp_iast (pc := 60) dX12_valueLine_60 (TX12s_a19 th) F.1 ?_
      have F := F.2
      refine wp_iconst (v := 1) (pc := 61) dX12_valueLine_61 (by decide) ?_
      exact r_Bx (pc := 62) dX12_valueLine_62 rfl rfl F
    · have F := F.2 c12
      refine wp_iconst (v := 0) (pc := 45) dX12_valueLine_45 (by decide) ?_
      exact r_Bx (pc := 46) dX12_valueLine_46 rfl rfl F
  · have F := F.2 c5
    refine wp_aload_n (pc := 25) dX12_valueLine_25 rfl ?_
    refine cvB [] [] (pc := 26) dX12_valueLine_26 ml_X12_159 iv_X12_fails (TX12s_k th) (cl_X12 rfl) rfl rfl (Nat.le_of_ble_eq_true rfl) (Nat.le_of_ble_eq_true rfl) (wB.mono (fun r13 mi14 ml15 F => ?_) F)
    exact r_B (pc := 29) dX12_valueLine_29 rfl F
/-- valueLine()Z -/
theorem w_X12_valueLine {l : Launch} {d : Nat} {kd : pm_K} {mr : pm_R} {h : Nat}  {mi : pm_I} {ml : pm_L} {K : Bool → pm_I → pm_L → Prop} (th : TX12s kd mr h)
    (F : ((¬ (mi h 13) = 2 → c_X12_valueLine_19 l (d + 1) kd mr h (-1) mi ml K) ∧ ((mi h 13) = 2 → wI l M_X12_commandBy d [.long (ml h 15)] kd mr mi ml (fun r2 mi3 ml4 => c_X12_valueLine_19 l (d + 1) kd mr h r2 mi3 ml4 K)))) :
    wB l M_X12_valueLine (d + 1) [.ref h] kd mr mi ml K := by
  show wp l M_X12_valueLine (d + 1) 0 0 0 [some (.ref h), none] [] 0 0 kd mi ml mr _
  refine wp_aload_n (pc := 0) dX12_valueLine_0 rfl ?_
  refine wp_getI (pc := 1) dX12_valueLine_1 fl_X12_144 rfl (TX12s_k th) ?_
  refine wp_iconst (v := 2) (pc := 4) dX12_valueLine_4 (by decide) ?_
  refine wp_icmp_ne (tgt := 18) (pc := 5) dX12_valueLine_5 (by decide) (fun c1 => ?_) (fun c1 => ?_)
  · have F := F.1 c1
    refine wp_iconst (v := -1) (pc := 18) dX12_valueLine_18 (by decide) ?_
    exact wp_less (L' := [some (.ref h), none]) ⟨rfl, trivial⟩ F
  · have F := F.2 c1
    refine wp_aload_n (pc := 8) dX12_valueLine_8 rfl ?_
    refine wp_getL (pc := 9) dX12_valueLine_9 fl_X12_140 rfl (TX12s_k th) ?_
    refine csI [.long (ml h 15)] [] (pc := 12) dX12_valueLine_12 ml_X12_215 st_X12_commandBy rfl rfl (Nat.le_of_ble_eq_true rfl) (Nat.le_of_ble_eq_true rfl) (wI.mono (fun r2 mi3 ml4 F => ?_) F)
    refine wp_goto (tgt := 19) (pc := 15) dX12_valueLine_15 (by decide) ?_
    exact wp_less (L' := [some (.ref h), none]) ⟨rfl, trivial⟩ F
/-- commandBy(J)I -/
theorem w_X12_commandBy {l : Launch} {d : Nat} {kd : pm_K} {mr : pm_R}  {x0 : Int64} {mi : pm_I} {ml : pm_L} {K : Int32 → pm_I → pm_L → Prop} 
    (F : ((¬ (lg_cmp x0 495873781348) = 0 → ((¬ (lg_cmp x0 1718773093) = 0 → K (if (lg_cmp x0 1952803948) = 0 then (2 : Int32) else (if (lg_cmp x0 469786321768) = 0 then (3 : Int32) else ((-1) : Int32))) mi ml) ∧ ((lg_cmp x0 1718773093) = 0 → K 1 mi ml))) ∧ ((lg_cmp x0 495873781348) = 0 → K 0 mi ml))) :
    wI l M_X12_commandBy d [.long x0] kd mr mi ml K := by
  show wp l M_X12_commandBy d 0 0 0 [some (.long x0), none] [] 0 0 kd mi ml mr _
  refine wp_lload_n (pc := 0) dX12_commandBy_0 rfl ?_
  refine wp_ldc2 (v := 495873781348) (pc := 1) dX12_commandBy_1 (tb_7 70 rfl rfl) ?_
  refine wp_lcmp (pc := 4) dX12_commandBy_4 ?_
  refine wp_if_ne (tgt := 12) (pc := 5) dX12_commandBy_5 (by decide) (fun c1 => ?_) (fun c1 => ?_)
  · have F := F.1 c1
    refine wp_lload_n (pc := 12) dX12_commandBy_12 rfl ?_
    refine wp_ldc2 (v := 1718773093) (pc := 13) dX12_commandBy_13 (tb_7 71 rfl rfl) ?_
    refine wp_lcmp (pc := 16) dX12_commandBy_16 ?_
    refine wp_if_ne (tgt := 24) (pc := 17) dX12_commandBy_17 (by decide) (fun c2 => ?_) (fun c2 => ?_)
    · have F := F.1 c2
      refine wp_lload_n (pc := 24) dX12_commandBy_24 rfl ?_
      refine wp_ldc2 (v := 1952803948) (pc := 25) dX12_commandBy_25 (tb_7 72 rfl rfl) ?_
      refine wp_lcmp (pc := 28) dX12_commandBy_28 ?_
      suffices J3 : ∀ v4 : Int32, v4 = (if (lg_cmp x0 1952803948) = 0 then (2 : Int32) else (if (lg_cmp x0 469786321768) = 0 then (3 : Int32) else ((-1) : Int32))) → wp l M_X12_commandBy d 0 0 49 [some (.long x0), none] [.int v4] 0 0 kd mi ml mr _ by
          refine wp_if_ne (tgt := 36) (pc := 29) dX12_commandBy_29 (by decide) (fun c5 => ?_) (fun c5 => ?_)
          · refine wp_lload_n (pc := 36) dX12_commandBy_36 rfl ?_
            refine wp_ldc2 (v := 469786321768) (pc := 37) dX12_commandBy_37 (tb_7 73 rfl rfl) ?_
            refine wp_lcmp (pc := 40) dX12_commandBy_40 ?_
            refine wp_if_ne (tgt := 48) (pc := 41) dX12_commandBy_41 (by decide) (fun c6 => ?_) (fun c6 => ?_)
            · refine wp_iconst (v := -1) (pc := 48) dX12_commandBy_48 (by decide) ?_
              exact J3 _ (by simp only [c5, c6, if_true, if_false, decide_true, decide_false, Bool.not_true, Bool.not_false, Bool.true_and, Bool.false_and, Bool.true_or, Bool.false_or, b2i_t, b2i_f, ite_true, ite_false, not_true_eq_false, not_false_eq_true, reduceCtorEq, decide_eq_true_eq])
            · refine wp_iconst (v := 3) (pc := 44) dX12_commandBy_44 (by decide) ?_
              refine wp_goto (tgt := 49) (pc := 45) dX12_commandBy_45 (by decide) ?_
              exact J3 _ (by simp only [c5, eq_true c6, if_true, if_false, decide_true, decide_false, Bool.not_true, Bool.not_false, Bool.true_and, Bool.false_and, Bool.true_or, Bool.false_or, b2i_t, b2i_f, ite_true, ite_false, not_true_eq_false, not_false_eq_true, reduceCtorEq, decide_eq_true_eq])
          · refine wp_iconst (v := 2) (pc := 32) dX12_commandBy_32 (by decide) ?_
            refine wp_goto (tgt := 49) (pc := 33) dX12_commandBy_33 (by decide) ?_
            exact J3 _ (by simp only [eq_true c5, if_true, if_false, decide_true, decide_false, Bool.not_true, Bool.not_false, Bool.true_and, Bool.false_and, Bool.true_or, Bool.false_or, b2i_t, b2i_f, ite_true, ite_false, not_true_eq_false, not_false_eq_true, reduceCtorEq, decide_eq_true_eq])
      intro v4 ev4
      subst ev4
      exact r_I (pc := 49) dX12_commandBy_49 rfl F
    · have F := F.2 c2
      refine wp_iconst (v := 1) (pc := 20) dX12_commandBy_20 (by decide) ?_
      refine wp_goto (tgt := 49) (pc := 21) dX12_commandBy_21 (by decide) ?_
      exact r_I (pc := 49) dX12_commandBy_49 rfl F
  · have F := F.2 c1
    refine wp_iconst (v := 0) (pc := 8) dX12_commandBy_8 (by decide) ?_
    refine wp_goto (tgt := 49) (pc := 9) dX12_commandBy_9 (by decide) ?_
    exact r_I (pc := 49) dX12_commandBy_49 rfl F
def c_X12_nightLine_82 (l : Launch) (d : Nat) (kd : pm_K) (mr : pm_R) (h : Nat) (x4 : Int32) (mi : pm_I) (ml : pm_L) (K : Bool → pm_I → pm_L → Prop) : Prop := wp l M_X12_nightLine d 0 0 82 [some (.ref h), none, none, none, some (.int x4)] [] 0 0 kd mi ml mr (qB kd mr K)
def c_X12_nightLine_60 (l : Launch) (d : Nat) (kd : pm_K) (mr : pm_R) (h : Nat) (x4 : Int32) (mi : pm_I) (ml : pm_L) (K : Bool → pm_I → pm_L → Prop) : Prop := wp l M_X12_nightLine d 0 0 60 [some (.ref h), none, none, none, some (.int x4)] [] 0 0 kd mi ml mr (qB kd mr K)
theorem w_X12_nightLine_60 {l : Launch} {d : Nat} {kd : pm_K} {mr : pm_R} {h : Nat} {x4 : Int32} {mi : pm_I} {ml : pm_L} {K : Bool → pm_I → pm_L → Prop} (th : TX12s kd mr h)
    (F : wB l M_X12_in d [.int x4, .int 3, .int 5] kd mr mi ml (fun r19 mi20 ml21 => ((r19 = false → c_X12_nightLine_82 l (d + 1) kd mr h x4 mi20 ml21 K) ∧ (r19 = true → wB l M_X12_take d [.ref h, .int 2, .int 0, .int 3] kd mr mi20 ml21 (fun r23 mi24 ml25 => ((r23 = true → c_X12_nightLine_82 l (d + 1) kd mr h x4 mi24 ml25 K) ∧ (r23 = false → K false mi24 ml25))))))) :
    c_X12_nightLine_60 l (d + 1) kd mr h x4 mi ml K := by
  show wp l M_X12_nightLine (d + 1) 0 0 60 [some (.ref h), none, none, none, some (.int x4)] [] 0 0 kd mi ml mr _
  refine wp_iload (pc := 60) dX12_nightLine_60 rfl ?_
  refine wp_iconst (v := 3) (pc := 62) dX12_nightLine_62 (by decide) ?_
  refine wp_iconst (v := 5) (pc := 63) dX12_nightLine_63 (by decide) ?_
  refine csB [.int x4, .int 3, .int 5] [] (pc := 64) dX12_nightLine_64 ml_X12_119 st_X12_in rfl rfl (Nat.le_of_ble_eq_true rfl) (Nat.le_of_ble_eq_true rfl) (wB.mono (fun r19 mi20 ml21 F => ?_) F)
  refine b_eq (tgt := 82) (pc := 67) dX12_nightLine_67 (by decide) (fun c22 => ?_) (fun c22 => ?_)
  · have F := F.1 c22
    exact wp_less (L' := [some (.ref h), none, none, none, some (.int x4)]) ⟨rfl, ⟨rfl, trivial⟩⟩ F
  · have F := F.2 c22
    refine wp_aload_n (pc := 70) dX12_nightLine_70 rfl ?_
    refine wp_iconst (v := 2) (pc := 71) dX12_nightLine_71 (by decide) ?_
    refine wp_iconst (v := 0) (pc := 72) dX12_nightLine_72 (by decide) ?_
    refine wp_iconst (v := 3) (pc := 73) dX12_nightLine_73 (by decide) ?_
    refine cvB [.int 2, .int 0, .int 3] [] (pc := 74) dX12_nightLine_74 ml_X12_174 iv_X12_take (TX12s_k th) (cl_X12 rfl) rfl rfl (Nat.le_of_ble_eq_true rfl) (Nat.le_of_ble_eq_true rfl) (wB.mono (fun r23 mi24 ml25 F => ?_) F)
    refine b_ne (tgt := 82) (pc := 77) dX12_nightLine_77 (by decide) (fun c26 => ?_) (fun c26 => ?_)
    · have F := F.1 c26
      exact wp_less (L' := [some (.ref h), none, none, none, some (.int x4)]) ⟨rfl, ⟨rfl, trivial⟩⟩ F
    · have F := F.2 c26
      refine wp_iconst (v := 0) (pc := 80) dX12_nightLine_80 (by decide) ?_
      exact r_Bx (pc := 81) dX12_nightLine_81 rfl rfl F
theorem w_X12_nightLine_82 {l : Launch} {d : Nat} {kd : pm_K} {mr : pm_R} {h : Nat} {x4 : Int32} {mi : pm_I} {ml : pm_L} {K : Bool → pm_I → pm_L → Prop} (th : TX12s kd mr h)
    (F : wV l M_X12_keep d [.ref h, .int 0, .int 1, .int 40] kd mr (pm_up mi (h + 11) (Int32.toNatClampNeg 0) x4) ml (fun mi28 ml29 => K true mi28 ml29)) :
    c_X12_nightLine_82 l (d + 1) kd mr h x4 mi ml K := by
  show wp l M_X12_nightLine (d + 1) 0 0 82 [some (.ref h), none, none, none, some (.int x4)] [] 0 0 kd mi ml mr _
  refine wp_aload_n (pc := 82) dX12_nightLine_82 rfl ?_
  refine wp_getR (pc := 83) dX12_nightLine_83 fl_X12_41 rfl (TX12s_k th) (TX12s_r20 th) ?_
  refine wp_iconst (v := 0) (pc := 86) dX12_nightLine_86 (by decide) ?_
  refine wp_iload (pc := 87) dX12_nightLine_87 rfl ?_
  refine wp_iast (pc := 89) dX12_nightLine_89 (TX12s_a20 th) (vp_dec (by decide)) ?_
  refine wp_aload_n (pc := 90) dX12_nightLine_90 rfl ?_
  refine wp_iconst (v := 0) (pc := 91) dX12_nightLine_91 (by decide) ?_
  refine wp_iconst (v := 1) (pc := 92) dX12_nightLine_92 (by decide) ?_
  refine wp_bipush (v := 40) (pc := 93) dX12_nightLine_93 (by decide) ?_
  refine cvV [.int 0, .int 1, .int 40] [] (pc := 95) dX12_nightLine_95 ml_X12_261 iv_X12_keep (TX12s_k th) (cl_X12 rfl) rfl rfl (Nat.le_of_ble_eq_true rfl) (Nat.le_of_ble_eq_true rfl) (wV.mono (fun mi28 ml29 F => ?_) F)
  refine wp_iconst (v := 1) (pc := 98) dX12_nightLine_98 (by decide) ?_
  exact r_Bx (pc := 99) dX12_nightLine_99 rfl rfl F
/-- nightLine(JI)Z -/
theorem w_X12_nightLine {l : Launch} {d : Nat} {kd : pm_K} {mr : pm_R} {h : Nat} {x1 : Int64} {x3 : Int32} {mi : pm_I} {ml : pm_L} {K : Bool → pm_I → pm_L → Prop} (th : TX12s kd mr h)
    (F : wI l M_X12_deedBy d [.long x1] kd mr mi ml (fun r1 mi2 ml3 => ((¬ r1 = (-1) → wV l M_X12_full d [.ref h, .int 0, .int 40, .int x3] kd mr mi2 ml3 (fun mi6 ml7 => wV l M_X12_token d [.ref h] kd mr mi6 ml7 (fun mi9 ml10 => ((r1 = 6 → c_X12_nightLine_60 l (d + 1) kd mr h r1 (pm_up (pm_up mi9 (h + 11) (Int32.toNatClampNeg 1) (-1)) (h + 11) (Int32.toNatClampNeg 2) (-1)) ml10 K) ∧ (¬ r1 = 6 → wB l M_X12_take d [.ref h, .int 1, .int 0, .int 5] kd mr (pm_up (pm_up mi9 (h + 11) (Int32.toNatClampNeg 1) (-1)) (h + 11) (Int32.toNatClampNeg 2) (-1)) ml10 (fun r12 mi13 ml14 => ((r12 = false → K false mi13 ml14) ∧ (r12 = true → c_X12_nightLine_60 l (d + 1) kd mr h r1 mi13 ml14 K)))))))) ∧ (r1 = (-1) → wB l M_X12_fails d [.ref h] kd mr mi2 ml3 (fun r16 mi17 ml18 => K r16 mi17 ml18))))) :
    wB l M_X12_nightLine (d + 1) [.ref h, .long x1, .int x3] kd mr mi ml K := by
  show wp l M_X12_nightLine (d + 1) 0 0 0 [some (.ref h), some (.long x1), none, some (.int x3), none] [] 0 0 kd mi ml mr _
  refine wp_lload_n (pc := 0) dX12_nightLine_0 rfl ?_
  refine csI [.long x1] [] (pc := 1) dX12_nightLine_1 ml_X12_258 st_X12_deedBy rfl rfl (Nat.le_of_ble_eq_true rfl) (Nat.le_of_ble_eq_true rfl) (wI.mono (fun r1 mi2 ml3 F => ?_) F)
  refine wp_istore (pc := 4) dX12_nightLine_4 (Nat.le_of_ble_eq_true rfl) rfl ?_
  show wp l M_X12_nightLine (d + 1) 0 0 _ [some (.ref h), some (.long x1), none, some (.int x3), some (.int r1)] _ 0 0 kd _ _ mr _
  refine wp_iload (pc := 6) dX12_nightLine_6 rfl ?_
  refine wp_iconst (v := -1) (pc := 8) dX12_nightLine_8 (by decide) ?_
  refine wp_icmp_ne (tgt := 17) (pc := 9) dX12_nightLine_9 (by decide) (fun c4 => ?_) (fun c4 => ?_)
  · have F := F.1 c4
    refine wp_aload_n (pc := 17) dX12_nightLine_17 rfl ?_
    refine wp_iconst (v := 0) (pc := 18) dX12_nightLine_18 (by decide) ?_
    refine wp_bipush (v := 40) (pc := 19) dX12_nightLine_19 (by decide) ?_
    refine wp_iload_n (pc := 21) dX12_nightLine_21 rfl ?_
    refine cvV [.int 0, .int 40, .int x3] [] (pc := 22) dX12_nightLine_22 ml_X12_233 iv_X12_full (TX12s_k th) (cl_X12 rfl) rfl rfl (Nat.le_of_ble_eq_true rfl) (Nat.le_of_ble_eq_true rfl) (wV.mono (fun mi6 ml7 F => ?_) F)
    refine wp_aload_n (pc := 25) dX12_nightLine_25 rfl ?_
    refine cvV [] [] (pc := 26) dX12_nightLine_26 ml_X12_171 iv_X12_token (TX12s_k th) (cl_X12 rfl) rfl rfl (Nat.le_of_ble_eq_true rfl) (Nat.le_of_ble_eq_true rfl) (wV.mono (fun mi9 ml10 F => ?_) F)
    refine wp_aload_n (pc := 29) dX12_nightLine_29 rfl ?_
    refine wp_getR (pc := 30) dX12_nightLine_30 fl_X12_41 rfl (TX12s_k th) (TX12s_r20 th) ?_
    refine wp_iconst (v := 1) (pc := 33) dX12_nightLine_33 (by decide) ?_
    refine wp_iconst (v := -1) (pc := 34) dX12_nightLine_34 (by decide) ?_
    refine wp_iast (pc := 35) dX12_nightLine_35 (TX12s_a20 th) (vp_dec (by decide)) ?_
    refine wp_aload_n (pc := 36) dX12_nightLine_36 rfl ?_
    refine wp_getR (pc := 37) dX12_nightLine_37 fl_X12_41 rfl (TX12s_k th) (TX12s_r20 th) ?_
    refine wp_iconst (v := 2) (pc := 40) dX12_nightLine_40 (by decide) ?_
    refine wp_iconst (v := -1) (pc := 41) dX12_nightLine_41 (by decide) ?_
    refine wp_iast (pc := 42) dX12_nightLine_42 (TX12s_a20 th) (vp_dec (by decide)) ?_
    refine wp_iload (pc := 43) dX12_nightLine_43 rfl ?_
    refine wp_bipush (v := 6) (pc := 45) dX12_nightLine_45 (by decide) ?_
    refine wp_icmp_eq (tgt := 60) (pc := 47) dX12_nightLine_47 (by decide) (fun c11 => ?_) (fun c11 => ?_)
    · have F := F.1 c11
      exact wp_less (L' := [some (.ref h), none, none, none, some (.int r1)]) ⟨rfl, ⟨rfl, trivial⟩⟩ F
    · have F := F.2 c11
      refine wp_aload_n (pc := 50) dX12_nightLine_50 rfl ?_
      refine wp_iconst (v := 1) (pc := 51) dX12_nightLine_51 (by decide) ?_
      refine wp_iconst (v := 0) (pc := 52) dX12_nightLine_52 (by decide) ?_
      refine wp_iconst (v := 5) (pc := 53) dX12_nightLine_53 (by decide) ?_
      refine cvB [.int 1, .int 0, .int 5] [] (pc := 54) dX12_nightLine_54 ml_X12_174 iv_X12_take (TX12s_k th) (cl_X12 rfl) rfl rfl (Nat.le_of_ble_eq_true rfl) (Nat.le_of_ble_eq_true rfl) (wB.mono (fun r12 mi13 ml14 F => ?_) F)
      refine b_eq (tgt := 80) (pc := 57) dX12_nightLine_57 (by decide) (fun c15 => ?_) (fun c15 => ?_)
      · have F := F.1 c15
        refine wp_iconst (v := 0) (pc := 80) dX12_nightLine_80 (by decide) ?_
        exact r_Bx (pc := 81) dX12_nightLine_81 rfl rfl F
      · have F := F.2 c15
        exact wp_less (L' := [some (.ref h), none, none, none, some (.int r1)]) ⟨rfl, ⟨rfl, trivial⟩⟩ F
  · have F := F.2 c4
    refine wp_aload_n (pc := 12) dX12_nightLine_12 rfl ?_
    refine cvB [] [] (pc := 13) dX12_nightLine_13 ml_X12_159 iv_X12_fails (TX12s_k th) (cl_X12 rfl) rfl rfl (Nat.le_of_ble_eq_true rfl) (Nat.le_of_ble_eq_true rfl) (wB.mono (fun r16 mi17 ml18 F => ?_) F)
    exact r_B (pc := 16) dX12_nightLine_16 rfl F
/-- deedBy(J)I -/
theorem w_X12_deedBy {l : Launch} {d : Nat} {kd : pm_K} {mr : pm_R}  {x0 : Int64} {mi : pm_I} {ml : pm_L} {K : Int32 → pm_I → pm_L → Prop} 
    (F : ((¬ (lg_cmp x0 2002873451) = 0 → ((¬ (lg_cmp x0 26479) = 0 → ((¬ (lg_cmp x0 1919251316) = 0 → wI l M_X12_commandBy d [.long x0] kd mr mi ml (fun r4 mi5 ml6 => K r4 mi5 ml6)) ∧ ((lg_cmp x0 1919251316) = 0 → K 6 mi ml))) ∧ ((lg_cmp x0 26479) = 0 → K 5 mi ml))) ∧ ((lg_cmp x0 2002873451) = 0 → K 4 mi ml))) :
    wI l M_X12_deedBy (d + 1) [.long x0] kd mr mi ml K := by
  show wp l M_X12_deedBy (d + 1) 0 0 0 [some (.long x0), none] [] 0 0 kd mi ml mr _
  refine wp_lload_n (pc := 0) dX12_deedBy_0 rfl ?_
  refine wp_ldc2 (v := 2002873451) (pc := 1) dX12_deedBy_1 (tb_7 81 rfl rfl) ?_
  refine wp_lcmp (pc := 4) dX12_deedBy_4 ?_
  refine wp_if_ne (tgt := 12) (pc := 5) dX12_deedBy_5 (by decide) (fun c1 => ?_) (fun c1 => ?_)
  · have F := F.1 c1
    refine wp_lload_n (pc := 12) dX12_deedBy_12 rfl ?_
    refine wp_ldc2 (v := 26479) (pc := 13) dX12_deedBy_13 (tb_7 82 rfl rfl) ?_
    refine wp_lcmp (pc := 16) dX12_deedBy_16 ?_
    refine wp_if_ne (tgt := 24) (pc := 17) dX12_deedBy_17 (by decide) (fun c2 => ?_) (fun c2 => ?_)
    · have F := F.1 c2
      refine wp_lload_n (pc := 24) dX12_deedBy_24 rfl ?_
      refine wp_ldc2 (v := 1919251316) (pc := 25) dX12_deedBy_25 (tb_7 83 rfl rfl) ?_
      refine wp_lcmp (pc := 28) dX12_deedBy_28 ?_
      refine wp_if_ne (tgt := 37) (pc := 29) dX12_deedBy_29 (by decide) (fun c3 => ?_) (fun c3 => ?_)
      · have F := F.1 c3
        refine wp_lload_n (pc := 37) dX12_deedBy_37 rfl ?_
        refine csI [.long x0] [] (pc := 38) dX12_deedBy_38 ml_X12_215 st_X12_commandBy rfl rfl (Nat.le_of_ble_eq_true rfl) (Nat.le_of_ble_eq_true rfl) (wI.mono (fun r4 mi5 ml6 F => ?_) F)
        exact r_I (pc := 41) dX12_deedBy_41 rfl F
      · have F := F.2 c3
        refine wp_bipush (v := 6) (pc := 32) dX12_deedBy_32 (by decide) ?_
        refine wp_goto (tgt := 41) (pc := 34) dX12_deedBy_34 (by decide) ?_
        exact r_I (pc := 41) dX12_deedBy_41 rfl F
    · have F := F.2 c2
      refine wp_iconst (v := 5) (pc := 20) dX12_deedBy_20 (by decide) ?_
      refine wp_goto (tgt := 41) (pc := 21) dX12_deedBy_21 (by decide) ?_
      exact r_I (pc := 41) dX12_deedBy_41 rfl F
  · have F := F.2 c1
    refine wp_iconst (v := 4) (pc := 8) dX12_deedBy_8 (by decide) ?_
    refine wp_goto (tgt := 41) (pc := 9) dX12_deedBy_9 (by decide) ?_
    exact r_I (pc := 41) dX12_deedBy_41 rfl F
def c_X12_keep_18 (l : Launch) (d : Nat) (kd : pm_K) (mr : pm_R) (h : Nat) (x1 : Int32) (x2 : Int32) (x4 : Int32) (x5 : Int32) (mi : pm_I) (ml : pm_L) (K : pm_I → pm_L → Prop) : Prop := wp l M_X12_keep d 0 0 18 [some (.ref h), some (.int x1), some (.int x2), none, some (.int x4), some (.int x5)] [] 0 0 kd mi ml mr (qV kd mr K)
theorem w_X12_keep_18 {l : Launch} {d : Nat} {kd : pm_K} {mr : pm_R} {h : Nat} {x1 : Int32} {x2 : Int32} {x4 : Int32} {x5 : Int32} {mi : pm_I} {ml : pm_L} {K : pm_I → pm_L → Prop} (th : TX12s kd mr h)
    (F : ((3 ≤ x5 → vp_in x1 121 ∧ vp_in x1 121 ∧ K (pm_up mi (h + 10) (Int32.toNatClampNeg x1) ((mi (h + 10) (Int32.toNatClampNeg x1)) + 1)) ml) ∧ (¬ 3 ≤ x5 → vp_in x5 3 ∧ vp_in ((x2 + (3 * x4)) + x5) 121 ∧ c_X12_keep_18 l d kd mr h x1 x2 x4 (x5 + 1) (pm_up mi (h + 10) (Int32.toNatClampNeg ((x2 + (3 * x4)) + x5)) (mi (h + 11) (Int32.toNatClampNeg x5))) ml K))) :
    c_X12_keep_18 l d kd mr h x1 x2 x4 x5 mi ml K := by
  show wp l M_X12_keep d 0 0 18 [some (.ref h), some (.int x1), some (.int x2), none, some (.int x4), some (.int x5)] [] 0 0 kd mi ml mr _
  refine wp_iload (pc := 18) dX12_keep_18 rfl ?_
  refine wp_iconst (v := 3) (pc := 20) dX12_keep_20 (by decide) ?_
  refine wp_icmp_ge (tgt := 51) (pc := 21) dX12_keep_21 (by decide) (fun c2 => ?_) (fun c2 => ?_)
  · have F := F.1 c2
    refine wp_aload_n (pc := 51) dX12_keep_51 rfl ?_
    refine wp_getR (pc := 52) dX12_keep_52 fl_X12_38 rfl (TX12s_k th) (TX12s_r19 th) ?_
    refine wp_iload_n (pc := 55) dX12_keep_55 rfl ?_
    refine wp_dup2 (pc := 56) dX12_keep_56 rfl rfl ?_
    refine wp_iald (pc := 57) dX12_keep_57 (TX12s_a19 th) F.1 ?_
    have F := F.2
    refine wp_iconst (v := 1) (pc := 58) dX12_keep_58 (by decide) ?_
    refine wp_iadd (pc := 59) dX12_keep_59 ?_
    refine wp_iast (pc := 60) dX12_keep_60 (TX12s_a19 th) F.1 ?_
    have F := F.2
    exact r_V (pc := 61) dX12_keep_61 rfl F
  · have F := F.2 c2
    refine wp_aload_n (pc := 24) dX12_keep_24 rfl ?_
    refine wp_getR (pc := 25) dX12_keep_25 fl_X12_38 rfl (TX12s_k th) (TX12s_r19 th) ?_
    refine wp_iload_n (pc := 28) dX12_keep_28 rfl ?_
    refine wp_iconst (v := 3) (pc := 29) dX12_keep_29 (by decide) ?_
    refine wp_iload (pc := 30) dX12_keep_30 rfl ?_
    refine wp_imul (pc := 32) dX12_keep_32 ?_
    refine wp_iadd (pc := 33) dX12_keep_33 ?_
    refine wp_iload (pc := 34) dX12_keep_34 rfl ?_
    refine wp_iadd (pc := 36) dX12_keep_36 ?_
    refine wp_aload_n (pc := 37) dX12_keep_37 rfl ?_
    refine wp_getR (pc := 38) dX12_keep_38 fl_X12_41 rfl (TX12s_k th) (TX12s_r20 th) ?_
    refine wp_iload (pc := 41) dX12_keep_41 rfl ?_
    refine wp_iald (pc := 43) dX12_keep_43 (TX12s_a20 th) F.1 ?_
    have F := F.2
    refine wp_iast (pc := 44) dX12_keep_44 (TX12s_a19 th) F.1 ?_
    have F := F.2
    refine wp_iinc (v := (x5 + 1)) (pc := 45) dX12_keep_45 rfl rfl rfl ?_
    show wp l M_X12_keep d 0 0 _ [some (.ref h), some (.int x1), some (.int x2), none, some (.int x4), some (.int (x5 + 1))] _ 0 0 kd _ _ mr _
    refine wp_goto (tgt := 18) (pc := 48) dX12_keep_48 (by decide) ?_
    exact wp_less (L' := [some (.ref h), some (.int x1), some (.int x2), none, some (.int x4), some (.int (x5 + 1))]) ⟨rfl, ⟨rfl, ⟨rfl, ⟨rfl, ⟨rfl, trivial⟩⟩⟩⟩⟩ F
/-- keep(III)V -/
theorem w_X12_keep {l : Launch} {d : Nat} {kd : pm_K} {mr : pm_R} {h : Nat} {x1 : Int32} {x2 : Int32} {x3 : Int32} {mi : pm_I} {ml : pm_L} {K : pm_I → pm_L → Prop} (th : TX12s kd mr h)
    (F : vp_in x1 121 ∧ ((¬ (mi (h + 10) (Int32.toNatClampNeg x1)) = x3 → c_X12_keep_18 l d kd mr h x1 x2 (mi (h + 10) (Int32.toNatClampNeg x1)) 0 mi ml K) ∧ ((mi (h + 10) (Int32.toNatClampNeg x1)) = x3 → K mi ml))) :
    wV l M_X12_keep d [.ref h, .int x1, .int x2, .int x3] kd mr mi ml K := by
  show wp l M_X12_keep d 0 0 0 [some (.ref h), some (.int x1), some (.int x2), some (.int x3), none, none] [] 0 0 kd mi ml mr _
  refine wp_aload_n (pc := 0) dX12_keep_0 rfl ?_
  refine wp_getR (pc := 1) dX12_keep_1 fl_X12_38 rfl (TX12s_k th) (TX12s_r19 th) ?_
  refine wp_iload_n (pc := 4) dX12_keep_4 rfl ?_
  refine wp_iald (pc := 5) dX12_keep_5 (TX12s_a19 th) F.1 ?_
  have F := F.2
  refine wp_istore (pc := 6) dX12_keep_6 (Nat.le_of_ble_eq_true rfl) rfl ?_
  show wp l M_X12_keep d 0 0 _ [some (.ref h), some (.int x1), some (.int x2), some (.int x3), some (.int (mi (h + 10) (Int32.toNatClampNeg x1))), none] _ 0 0 kd _ _ mr _
  refine wp_iload (pc := 8) dX12_keep_8 rfl ?_
  refine wp_iload_n (pc := 10) dX12_keep_10 rfl ?_
  refine wp_icmp_ne (tgt := 15) (pc := 11) dX12_keep_11 (by decide) (fun c1 => ?_) (fun c1 => ?_)
  · have F := F.1 c1
    refine wp_iconst (v := 0) (pc := 15) dX12_keep_15 (by decide) ?_
    refine wp_istore (pc := 16) dX12_keep_16 (Nat.le_of_ble_eq_true rfl) rfl ?_
    show wp l M_X12_keep d 0 0 _ [some (.ref h), some (.int x1), some (.int x2), some (.int x3), some (.int (mi (h + 10) (Int32.toNatClampNeg x1))), some (.int 0)] _ 0 0 kd _ _ mr _
    exact wp_less (L' := [some (.ref h), some (.int x1), some (.int x2), none, some (.int (mi (h + 10) (Int32.toNatClampNeg x1))), some (.int 0)]) ⟨rfl, ⟨rfl, ⟨rfl, ⟨rfl, ⟨rfl, trivial⟩⟩⟩⟩⟩ F
  · have F := F.2 c1
    exact r_V (pc := 14) dX12_keep_14 rfl F
def c_X12_trialLine_73 (l : Launch) (d : Nat) (kd : pm_K) (mr : pm_R) (h : Nat) (x1 : Int64) (x4 : Int32) (mi : pm_I) (ml : pm_L) (K : Bool → pm_I → pm_L → Prop) : Prop := wp l M_X12_trialLine d 0 0 73 [some (.ref h), some (.long x1), none, none, some (.int x4)] [] 0 0 kd mi ml mr (qB kd mr K)
def c_X12_trialLine_37 (l : Launch) (d : Nat) (kd : pm_K) (mr : pm_R) (h : Nat) (x1 : Int64) (x3 : Int32) (mi : pm_I) (ml : pm_L) (K : Bool → pm_I → pm_L → Prop) : Prop := wp l M_X12_trialLine d 0 0 37 [some (.ref h), some (.long x1), none, some (.int x3), none] [] 0 0 kd mi ml mr (qB kd mr K)
theorem w_X12_trialLine_37 {l : Launch} {d : Nat} {kd : pm_K} {mr : pm_R} {h : Nat} {x1 : Int64} {x3 : Int32} {mi : pm_I} {ml : pm_L} {K : Bool → pm_I → pm_L → Prop} (th : TX12s kd mr h)
    (F : (((decide ((lg_cmp x1 1935767923) = 0) || (decide ((lg_cmp x1 110386806875507) = 0))) = false → c_X12_trialLine_73 l (d + 1) kd mr h x1 (b2i (decide ((lg_cmp x1 1935767923) = 0) || (decide ((lg_cmp x1 110386806875507) = 0)))) mi ml K) ∧ ((decide ((lg_cmp x1 1935767923) = 0) || (decide ((lg_cmp x1 110386806875507) = 0))) = true → wV l M_X12_full d [.ref h, .int 2, .int 12, .int x3] kd mr mi ml (fun mi14 ml15 => c_X12_trialLine_73 l (d + 1) kd mr h x1 (b2i (decide ((lg_cmp x1 1935767923) = 0) || (decide ((lg_cmp x1 110386806875507) = 0)))) mi14 ml15 K)))) :
    c_X12_trialLine_37 l (d + 1) kd mr h x1 x3 mi ml K := by
  show wp l M_X12_trialLine (d + 1) 0 0 37 [some (.ref h), some (.long x1), none, some (.int x3), none] [] 0 0 kd mi ml mr _
  refine wp_lload_n (pc := 37) dX12_trialLine_37 rfl ?_
  refine wp_ldc2 (v := 1935767923) (pc := 38) dX12_trialLine_38 (tb_7 92 rfl rfl) ?_
  refine wp_lcmp (pc := 41) dX12_trialLine_41 ?_
  suffices J8 : ∀ v9 : Int32, v9 = (b2i (decide ((lg_cmp x1 1935767923) = 0) || (decide ((lg_cmp x1 110386806875507) = 0)))) → wp l M_X12_trialLine (d + 1) 0 0 58 [some (.ref h), some (.long x1), none, some (.int x3), none] [.int v9] 0 0 kd mi ml mr _ by
      refine wp_if_eq (tgt := 53) (pc := 42) dX12_trialLine_42 (by decide) (fun c10 => ?_) (fun c10 => ?_)
      · refine wp_iconst (v := 1) (pc := 53) dX12_trialLine_53 (by decide) ?_
        refine wp_goto (tgt := 58) (pc := 54) dX12_trialLine_54 (by decide) ?_
        exact J8 _ (by simp only [eq_true c10, if_true, if_false, decide_true, decide_false, Bool.not_true, Bool.not_false, Bool.true_and, Bool.false_and, Bool.true_or, Bool.false_or, b2i_t, b2i_f, ite_true, ite_false, not_true_eq_false, not_false_eq_true, reduceCtorEq, decide_eq_true_eq])
      · refine wp_lload_n (pc := 45) dX12_trialLine_45 rfl ?_
        refine wp_ldc2 (v := 110386806875507) (pc := 46) dX12_trialLine_46 (tb_7 93 rfl rfl) ?_
        refine wp_lcmp (pc := 49) dX12_trialLine_49 ?_
        refine wp_if_ne (tgt := 57) (pc := 50) dX12_trialLine_50 (by decide) (fun c11 => ?_) (fun c11 => ?_)
        · refine wp_iconst (v := 0) (pc := 57) dX12_trialLine_57 (by decide) ?_
          exact J8 _ (by simp only [c10, c11, if_true, if_false, decide_true, decide_false, Bool.not_true, Bool.not_false, Bool.true_and, Bool.false_and, Bool.true_or, Bool.false_or, b2i_t, b2i_f, ite_true, ite_false, not_true_eq_false, not_false_eq_true, reduceCtorEq, decide_eq_true_eq])
        · refine wp_iconst (v := 1) (pc := 53) dX12_trialLine_53 (by decide) ?_
          refine wp_goto (tgt := 58) (pc := 54) dX12_trialLine_54 (by decide) ?_
          exact J8 _ (by simp only [c10, eq_true c11, if_true, if_false, decide_true, decide_false, Bool.not_true, Bool.not_false, Bool.true_and, Bool.false_and, Bool.true_or, Bool.false_or, b2i_t, b2i_f, ite_true, ite_false, not_true_eq_false, not_false_eq_true, reduceCtorEq, decide_eq_true_eq])
  intro v9 ev9
  subst ev9
  refine wp_istore (pc := 58) dX12_trialLine_58 (Nat.le_of_ble_eq_true rfl) rfl ?_
  show wp l M_X12_trialLine (d + 1) 0 0 _ [some (.ref h), some (.long x1), none, some (.int x3), some (.int (b2i (decide ((lg_cmp x1 1935767923) = 0) || (decide ((lg_cmp x1 110386806875507) = 0)))))] _ 0 0 kd _ _ mr _
  refine wp_iload (pc := 60) dX12_trialLine_60 rfl ?_
  refine b_eq (tgt := 73) (pc := 62) dX12_trialLine_62 (by decide) (fun c12 => ?_) (fun c12 => ?_)
  · have F := F.1 c12
    exact wp_less (L' := [some (.ref h), some (.long x1), none, none, some (.int (b2i (decide ((lg_cmp x1 1935767923) = 0) || (decide ((lg_cmp x1 110386806875507) = 0)))))]) ⟨rfl, ⟨rfl, ⟨rfl, trivial⟩⟩⟩ F
  · have F := F.2 c12
    refine wp_aload_n (pc := 65) dX12_trialLine_65 rfl ?_
    refine wp_iconst (v := 2) (pc := 66) dX12_trialLine_66 (by decide) ?_
    refine wp_bipush (v := 12) (pc := 67) dX12_trialLine_67 (by decide) ?_
    refine wp_iload_n (pc := 69) dX12_trialLine_69 rfl ?_
    refine cvV [.int 2, .int 12, .int x3] [] (pc := 70) dX12_trialLine_70 ml_X12_233 iv_X12_full (TX12s_k th) (cl_X12 rfl) rfl rfl (Nat.le_of_ble_eq_true rfl) (Nat.le_of_ble_eq_true rfl) (wV.mono (fun mi14 ml15 F => ?_) F)
    exact wp_less (L' := [some (.ref h), some (.long x1), none, none, some (.int (b2i (decide ((lg_cmp x1 1935767923) = 0) || (decide ((lg_cmp x1 110386806875507) = 0)))))]) ⟨rfl, ⟨rfl, ⟨rfl, trivial⟩⟩⟩ F
theorem w_X12_trialLine_73 {l : Launch} {d : Nat} {kd : pm_K} {mr : pm_R} {h : Nat} {x1 : Int64} {x4 : Int32} {mi : pm_I} {ml : pm_L} {K : Bool → pm_I → pm_L → Prop} (th : TX12s kd mr h)
    (F : wV l M_X12_token d [.ref h] kd mr mi ml (fun mi17 ml18 => ((¬ x4 = 0 → wB l M_X12_take d [.ref h, .int 1, .int 0, .int 7] kd mr mi17 ml18 (fun r20 mi21 ml22 => ((r20 = false → K false mi21 ml22) ∧ (r20 = true → wB l M_X12_take d [.ref h, .int 2, .int 0, .int 7] kd mr mi21 ml22 (fun r24 mi25 ml26 => ((r24 = true → wI l M_X12_greater d [.int (mi25 (h + 11) (Int32.toNatClampNeg 1)), .int (mi25 (h + 11) (Int32.toNatClampNeg 2))] kd mr mi25 ml26 (fun r28 mi29 ml30 => wI l M_X12_greater d [.int (mi25 h 23), .int r28] kd mr mi29 ml30 (fun r31 mi32 ml33 => wV l M_X12_keep d [.ref h, .int 2, .int 3, .int 12] kd mr (pm_up (pm_up mi32 h 23 r31) (h + 11) (Int32.toNatClampNeg 0) (b2i (decide ((lg_cmp x1 1935767923) = 0)))) ml33 (fun mi38 ml39 => K true mi38 ml39)))) ∧ (r24 = false → K false mi25 ml26))))))) ∧ (x4 = 0 → wB l M_X12_take d [.ref h, .int 0, .int (b2i (decide ((lg_cmp x1 130220881569139) = 0))), .int 8] kd mr mi17 ml18 (fun r43 mi44 ml45 => ((r43 = true → vp_in (b2i (!decide ((lg_cmp x1 130220881569139) = 0))) 121 ∧ K true (pm_up mi44 (h + 10) (Int32.toNatClampNeg (b2i (!decide ((lg_cmp x1 130220881569139) = 0)))) (mi44 (h + 11) (Int32.toNatClampNeg 0))) ml45) ∧ (r43 = false → K false mi44 ml45))))))) :
    c_X12_trialLine_73 l (d + 1) kd mr h x1 x4 mi ml K := by
  show wp l M_X12_trialLine (d + 1) 0 0 73 [some (.ref h), some (.long x1), none, none, some (.int x4)] [] 0 0 kd mi ml mr _
  refine wp_aload_n (pc := 73) dX12_trialLine_73 rfl ?_
  refine cvV [] [] (pc := 74) dX12_trialLine_74 ml_X12_171 iv_X12_token (TX12s_k th) (cl_X12 rfl) rfl rfl (Nat.le_of_ble_eq_true rfl) (Nat.le_of_ble_eq_true rfl) (wV.mono (fun mi17 ml18 F => ?_) F)
  refine wp_iload (pc := 77) dX12_trialLine_77 rfl ?_
  refine wp_if_ne (tgt := 133) (pc := 79) dX12_trialLine_79 (by decide) (fun c19 => ?_) (fun c19 => ?_)
  · have F := F.1 c19
    refine wp_aload_n (pc := 133) dX12_trialLine_133 rfl ?_
    refine wp_iconst (v := 1) (pc := 134) dX12_trialLine_134 (by decide) ?_
    refine wp_iconst (v := 0) (pc := 135) dX12_trialLine_135 (by decide) ?_
    refine wp_bipush (v := 7) (pc := 136) dX12_trialLine_136 (by decide) ?_
    refine cvB [.int 1, .int 0, .int 7] [] (pc := 138) dX12_trialLine_138 ml_X12_174 iv_X12_take (TX12s_k th) (cl_X12 rfl) rfl rfl (Nat.le_of_ble_eq_true rfl) (Nat.le_of_ble_eq_true rfl) (wB.mono (fun r20 mi21 ml22 F => ?_) F)
    refine b_eq (tgt := 155) (pc := 141) dX12_trialLine_141 (by decide) (fun c23 => ?_) (fun c23 => ?_)
    · have F := F.1 c23
      refine wp_iconst (v := 0) (pc := 155) dX12_trialLine_155 (by decide) ?_
      exact r_Bx (pc := 156) dX12_trialLine_156 rfl rfl F
    · have F := F.2 c23
      refine wp_aload_n (pc := 144) dX12_trialLine_144 rfl ?_
      refine wp_iconst (v := 2) (pc := 145) dX12_trialLine_145 (by decide) ?_
      refine wp_iconst (v := 0) (pc := 146) dX12_trialLine_146 (by decide) ?_
      refine wp_bipush (v := 7) (pc := 147) dX12_trialLine_147 (by decide) ?_
      refine cvB [.int 2, .int 0, .int 7] [] (pc := 149) dX12_trialLine_149 ml_X12_174 iv_X12_take (TX12s_k th) (cl_X12 rfl) rfl rfl (Nat.le_of_ble_eq_true rfl) (Nat.le_of_ble_eq_true rfl) (wB.mono (fun r24 mi25 ml26 F => ?_) F)
      refine b_ne (tgt := 157) (pc := 152) dX12_trialLine_152 (by decide) (fun c27 => ?_) (fun c27 => ?_)
      · have F := F.1 c27
        refine wp_aload_n (pc := 157) dX12_trialLine_157 rfl ?_
        refine wp_aload_n (pc := 158) dX12_trialLine_158 rfl ?_
        refine wp_getI (pc := 159) dX12_trialLine_159 fl_X12_272 rfl (TX12s_k th) ?_
        refine wp_aload_n (pc := 162) dX12_trialLine_162 rfl ?_
        refine wp_getR (pc := 163) dX12_trialLine_163 fl_X12_41 rfl (TX12s_k th) (TX12s_r20 th) ?_
        refine wp_iconst (v := 1) (pc := 166) dX12_trialLine_166 (by decide) ?_
        refine wp_iald (pc := 167) dX12_trialLine_167 (TX12s_a20 th) (vp_dec (by decide)) ?_
        refine wp_aload_n (pc := 168) dX12_trialLine_168 rfl ?_
        refine wp_getR (pc := 169) dX12_trialLine_169 fl_X12_41 rfl (TX12s_k th) (TX12s_r20 th) ?_
        refine wp_iconst (v := 2) (pc := 172) dX12_trialLine_172 (by decide) ?_
        refine wp_iald (pc := 173) dX12_trialLine_173 (TX12s_a20 th) (vp_dec (by decide)) ?_
        refine csI [.int (mi25 (h + 11) (Int32.toNatClampNeg 1)), .int (mi25 (h + 11) (Int32.toNatClampNeg 2))] [.int (mi25 h 23), .ref h] (pc := 174) dX12_trialLine_174 ml_X12_180 st_X12_greater rfl rfl (Nat.le_of_ble_eq_true rfl) (Nat.le_of_ble_eq_true rfl) (wI.mono (fun r28 mi29 ml30 F => ?_) F)
        refine csI [.int (mi25 h 23), .int r28] [.ref h] (pc := 177) dX12_trialLine_177 ml_X12_180 st_X12_greater rfl rfl (Nat.le_of_ble_eq_true rfl) (Nat.le_of_ble_eq_true rfl) (wI.mono (fun r31 mi32 ml33 F => ?_) F)
        refine wp_putI (pc := 180) dX12_trialLine_180 fl_X12_272 rfl rfl (TX12s_k th) ?_
        refine wp_aload_n (pc := 183) dX12_trialLine_183 rfl ?_
        refine wp_getR (pc := 184) dX12_trialLine_184 fl_X12_41 rfl (TX12s_k th) (TX12s_r20 th) ?_
        refine wp_iconst (v := 0) (pc := 187) dX12_trialLine_187 (by decide) ?_
        refine wp_lload_n (pc := 188) dX12_trialLine_188 rfl ?_
        refine wp_ldc2 (v := 1935767923) (pc := 189) dX12_trialLine_189 (tb_7 92 rfl rfl) ?_
        refine wp_lcmp (pc := 192) dX12_trialLine_192 ?_
        suffices J34 : ∀ v35 : Int32, v35 = (b2i (decide ((lg_cmp x1 1935767923) = 0))) → wp l M_X12_trialLine (d + 1) 0 0 201 [some (.ref h), some (.long x1), none, none, some (.int x4)] [.int v35, .int 0, .ref (h + 11)] 0 0 kd (pm_up mi32 h 23 r31) ml33 mr _ by
            refine wp_if_ne (tgt := 200) (pc := 193) dX12_trialLine_193 (by decide) (fun c36 => ?_) (fun c36 => ?_)
            · refine wp_iconst (v := 0) (pc := 200) dX12_trialLine_200 (by decide) ?_
              exact J34 _ (by simp only [c36, if_true, if_false, decide_true, decide_false, Bool.not_true, Bool.not_false, Bool.true_and, Bool.false_and, Bool.true_or, Bool.false_or, b2i_t, b2i_f, ite_true, ite_false, not_true_eq_false, not_false_eq_true, reduceCtorEq, decide_eq_true_eq])
            · refine wp_iconst (v := 1) (pc := 196) dX12_trialLine_196 (by decide) ?_
              refine wp_goto (tgt := 201) (pc := 197) dX12_trialLine_197 (by decide) ?_
              exact J34 _ (by simp only [eq_true c36, if_true, if_false, decide_true, decide_false, Bool.not_true, Bool.not_false, Bool.true_and, Bool.false_and, Bool.true_or, Bool.false_or, b2i_t, b2i_f, ite_true, ite_false, not_true_eq_false, not_false_eq_true, reduceCtorEq, decide_eq_true_eq])
        intro v35 ev35
        subst ev35
        refine wp_iast (pc := 201) dX12_trialLine_201 (TX12s_a20 th) (vp_dec (by decide)) ?_
        refine wp_aload_n (pc := 202) dX12_trialLine_202 rfl ?_
        refine wp_iconst (v := 2) (pc := 203) dX12_trialLine_203 (by decide) ?_
        refine wp_iconst (v := 3) (pc := 204) dX12_trialLine_204 (by decide) ?_
        refine wp_bipush (v := 12) (pc := 205) dX12_trialLine_205 (by decide) ?_
        refine cvV [.int 2, .int 3, .int 12] [] (pc := 207) dX12_trialLine_207 ml_X12_261 iv_X12_keep (TX12s_k th) (cl_X12 rfl) rfl rfl (Nat.le_of_ble_eq_true rfl) (Nat.le_of_ble_eq_true rfl) (wV.mono (fun mi38 ml39 F => ?_) F)
        refine wp_iconst (v := 1) (pc := 210) dX12_trialLine_210 (by decide) ?_
        exact r_Bx (pc := 211) dX12_trialLine_211 rfl rfl F
      · have F := F.2 c27
        refine wp_iconst (v := 0) (pc := 155) dX12_trialLine_155 (by decide) ?_
        exact r_Bx (pc := 156) dX12_trialLine_156 rfl rfl F
  · have F := F.2 c19
    refine wp_aload_n (pc := 82) dX12_trialLine_82 rfl ?_
    refine wp_iconst (v := 0) (pc := 83) dX12_trialLine_83 (by decide) ?_
    refine wp_lload_n (pc := 84) dX12_trialLine_84 rfl ?_
    refine wp_ldc2 (v := 130220881569139) (pc := 85) dX12_trialLine_85 (tb_7 94 rfl rfl) ?_
    refine wp_lcmp (pc := 88) dX12_trialLine_88 ?_
    suffices J40 : ∀ v41 : Int32, v41 = (b2i (decide ((lg_cmp x1 130220881569139) = 0))) → wp l M_X12_trialLine (d + 1) 0 0 97 [some (.ref h), some (.long x1), none, none, some (.int x4)] [.int v41, .int 0, .ref h] 0 0 kd mi17 ml18 mr _ by
        refine wp_if_ne (tgt := 96) (pc := 89) dX12_trialLine_89 (by decide) (fun c42 => ?_) (fun c42 => ?_)
        · refine wp_iconst (v := 0) (pc := 96) dX12_trialLine_96 (by decide) ?_
          exact J40 _ (by simp only [c42, if_true, if_false, decide_true, decide_false, Bool.not_true, Bool.not_false, Bool.true_and, Bool.false_and, Bool.true_or, Bool.false_or, b2i_t, b2i_f, ite_true, ite_false, not_true_eq_false, not_false_eq_true, reduceCtorEq, decide_eq_true_eq])
        · refine wp_iconst (v := 1) (pc := 92) dX12_trialLine_92 (by decide) ?_
          refine wp_goto (tgt := 97) (pc := 93) dX12_trialLine_93 (by decide) ?_
          exact J40 _ (by simp only [eq_true c42, if_true, if_false, decide_true, decide_false, Bool.not_true, Bool.not_false, Bool.true_and, Bool.false_and, Bool.true_or, Bool.false_or, b2i_t, b2i_f, ite_true, ite_false, not_true_eq_false, not_false_eq_true, reduceCtorEq, decide_eq_true_eq])
    intro v41 ev41
    subst ev41
    refine wp_bipush (v := 8) (pc := 97) dX12_trialLine_97 (by decide) ?_
    refine cvB [.int 0, .int (b2i (decide ((lg_cmp x1 130220881569139) = 0))), .int 8] [] (pc := 99) dX12_trialLine_99 ml_X12_174 iv_X12_take (TX12s_k th) (cl_X12 rfl) rfl rfl (Nat.le_of_ble_eq_true rfl) (Nat.le_of_ble_eq_true rfl) (wB.mono (fun r43 mi44 ml45 F => ?_) F)
    refine b_ne (tgt := 107) (pc := 102) dX12_trialLine_102 (by decide) (fun c46 => ?_) (fun c46 => ?_)
    · have F := F.1 c46
      refine wp_aload_n (pc := 107) dX12_trialLine_107 rfl ?_
      refine wp_getR (pc := 108) dX12_trialLine_108 fl_X12_38 rfl (TX12s_k th) (TX12s_r19 th) ?_
      refine wp_lload_n (pc := 111) dX12_trialLine_111 rfl ?_
      refine wp_ldc2 (v := 130220881569139) (pc := 112) dX12_trialLine_112 (tb_7 94 rfl rfl) ?_
      refine wp_lcmp (pc := 115) dX12_trialLine_115 ?_
      suffices J47 : ∀ v48 : Int32, v48 = (b2i (!decide ((lg_cmp x1 130220881569139) = 0))) → wp l M_X12_trialLine (d + 1) 0 0 124 [some (.ref h), some (.long x1), none, none, some (.int x4)] [.int v48, .ref (h + 10)] 0 0 kd mi44 ml45 mr _ by
          refine wp_if_ne (tgt := 123) (pc := 116) dX12_trialLine_116 (by decide) (fun c49 => ?_) (fun c49 => ?_)
          · refine wp_iconst (v := 1) (pc := 123) dX12_trialLine_123 (by decide) ?_
            exact J47 _ (by simp only [c49, if_true, if_false, decide_true, decide_false, Bool.not_true, Bool.not_false, Bool.true_and, Bool.false_and, Bool.true_or, Bool.false_or, b2i_t, b2i_f, ite_true, ite_false, not_true_eq_false, not_false_eq_true, reduceCtorEq, decide_eq_true_eq])
          · refine wp_iconst (v := 0) (pc := 119) dX12_trialLine_119 (by decide) ?_
            refine wp_goto (tgt := 124) (pc := 120) dX12_trialLine_120 (by decide) ?_
            exact J47 _ (by simp only [eq_true c49, if_true, if_false, decide_true, decide_false, Bool.not_true, Bool.not_false, Bool.true_and, Bool.false_and, Bool.true_or, Bool.false_or, b2i_t, b2i_f, ite_true, ite_false, not_true_eq_false, not_false_eq_true, reduceCtorEq, decide_eq_true_eq])
      intro v48 ev48
      subst ev48
      refine wp_aload_n (pc := 124) dX12_trialLine_124 rfl ?_
      refine wp_getR (pc := 125) dX12_trialLine_125 fl_X12_41 rfl (TX12s_k th) (TX12s_r20 th) ?_
      refine wp_iconst (v := 0) (pc := 128) dX12_trialLine_128 (by decide) ?_
      refine wp_iald (pc := 129) dX12_trialLine_129 (TX12s_a20 th) (vp_dec (by decide)) ?_
      refine wp_iast (pc := 130) dX12_trialLine_130 (TX12s_a19 th) F.1 ?_
      have F := F.2
      refine wp_iconst (v := 1) (pc := 131) dX12_trialLine_131 (by decide) ?_
      exact r_Bx (pc := 132) dX12_trialLine_132 rfl rfl F
    · have F := F.2 c46
      refine wp_iconst (v := 0) (pc := 105) dX12_trialLine_105 (by decide) ?_
      exact r_Bx (pc := 106) dX12_trialLine_106 rfl rfl F
/-- trialLine(JI)Z -/
theorem w_X12_trialLine {l : Launch} {d : Nat} {kd : pm_K} {mr : pm_R} {h : Nat} {x1 : Int64} {x3 : Int32} {mi : pm_I} {ml : pm_L} {K : Bool → pm_I → pm_L → Prop} (th : TX12s kd mr h)
    (F : (((lg_cmp x1 1935767923) = 0 → c_X12_trialLine_37 l (d + 1) kd mr h x1 x3 mi ml K) ∧ (¬ (lg_cmp x1 1935767923) = 0 → (((lg_cmp x1 110386806875507) = 0 → c_X12_trialLine_37 l (d + 1) kd mr h x1 x3 mi ml K) ∧ (¬ (lg_cmp x1 110386806875507) = 0 → (((lg_cmp x1 130220881569139) = 0 → c_X12_trialLine_37 l (d + 1) kd mr h x1 x3 mi ml K) ∧ (¬ (lg_cmp x1 130220881569139) = 0 → (((lg_cmp x1 32765899181548915) = 0 → c_X12_trialLine_37 l (d + 1) kd mr h x1 x3 mi ml K) ∧ (¬ (lg_cmp x1 32765899181548915) = 0 → wB l M_X12_fails d [.ref h] kd mr mi ml (fun r5 mi6 ml7 => K r5 mi6 ml7)))))))))) :
    wB l M_X12_trialLine (d + 1) [.ref h, .long x1, .int x3] kd mr mi ml K := by
  show wp l M_X12_trialLine (d + 1) 0 0 0 [some (.ref h), some (.long x1), none, some (.int x3), none] [] 0 0 kd mi ml mr _
  refine wp_lload_n (pc := 0) dX12_trialLine_0 rfl ?_
  refine wp_ldc2 (v := 1935767923) (pc := 1) dX12_trialLine_1 (tb_7 92 rfl rfl) ?_
  refine wp_lcmp (pc := 4) dX12_trialLine_4 ?_
  refine wp_if_eq (tgt := 37) (pc := 5) dX12_trialLine_5 (by decide) (fun c1 => ?_) (fun c1 => ?_)
  · have F := F.1 c1
    exact wp_less (L' := [some (.ref h), some (.long x1), none, some (.int x3), none]) ⟨rfl, ⟨rfl, ⟨rfl, trivial⟩⟩⟩ F
  · have F := F.2 c1
    refine wp_lload_n (pc := 8) dX12_trialLine_8 rfl ?_
    refine wp_ldc2 (v := 110386806875507) (pc := 9) dX12_trialLine_9 (tb_7 93 rfl rfl) ?_
    refine wp_lcmp (pc := 12) dX12_trialLine_12 ?_
    refine wp_if_eq (tgt := 37) (pc := 13) dX12_trialLine_13 (by decide) (fun c2 => ?_) (fun c2 => ?_)
    · have F := F.1 c2
      exact wp_less (L' := [some (.ref h), some (.long x1), none, some (.int x3), none]) ⟨rfl, ⟨rfl, ⟨rfl, trivial⟩⟩⟩ F
    · have F := F.2 c2
      refine wp_lload_n (pc := 16) dX12_trialLine_16 rfl ?_
      refine wp_ldc2 (v := 130220881569139) (pc := 17) dX12_trialLine_17 (tb_7 94 rfl rfl) ?_
      refine wp_lcmp (pc := 20) dX12_trialLine_20 ?_
      refine wp_if_eq (tgt := 37) (pc := 21) dX12_trialLine_21 (by decide) (fun c3 => ?_) (fun c3 => ?_)
      · have F := F.1 c3
        exact wp_less (L' := [some (.ref h), some (.long x1), none, some (.int x3), none]) ⟨rfl, ⟨rfl, ⟨rfl, trivial⟩⟩⟩ F
      · have F := F.2 c3
        refine wp_lload_n (pc := 24) dX12_trialLine_24 rfl ?_
        refine wp_ldc2 (v := 32765899181548915) (pc := 25) dX12_trialLine_25 (tb_7 95 rfl rfl) ?_
        refine wp_lcmp (pc := 28) dX12_trialLine_28 ?_
        refine wp_if_eq (tgt := 37) (pc := 29) dX12_trialLine_29 (by decide) (fun c4 => ?_) (fun c4 => ?_)
        · have F := F.1 c4
          exact wp_less (L' := [some (.ref h), some (.long x1), none, some (.int x3), none]) ⟨rfl, ⟨rfl, ⟨rfl, trivial⟩⟩⟩ F
        · have F := F.2 c4
          refine wp_aload_n (pc := 32) dX12_trialLine_32 rfl ?_
          refine cvB [] [] (pc := 33) dX12_trialLine_33 ml_X12_159 iv_X12_fails (TX12s_k th) (cl_X12 rfl) rfl rfl (Nat.le_of_ble_eq_true rfl) (Nat.le_of_ble_eq_true rfl) (wB.mono (fun r5 mi6 ml7 F => ?_) F)
          exact r_B (pc := 36) dX12_trialLine_36 rfl F
def c_X12_sightLine_21 (l : Launch) (d : Nat) (kd : pm_K) (mr : pm_R) (h : Nat) (x1 : Int64) (x3 : Int32) (mi : pm_I) (ml : pm_L) (K : Bool → pm_I → pm_L → Prop) : Prop := wp l M_X12_sightLine d 0 0 21 [some (.ref h), some (.long x1), none, some (.int x3)] [] 0 0 kd mi ml mr (qB kd mr K)
theorem w_X12_sightLine_21 {l : Launch} {d : Nat} {kd : pm_K} {mr : pm_R} {h : Nat} {x1 : Int64} {x3 : Int32} {mi : pm_I} {ml : pm_L} {K : Bool → pm_I → pm_L → Prop} (th : TX12s kd mr h)
    (F : wV l M_X12_full d [.ref h, .int 0, .int 10, .int x3] kd mr mi ml (fun mi7 ml8 => wV l M_X12_token d [.ref h] kd mr mi7 ml8 (fun mi10 ml11 => wB l M_X12_take d [.ref h, .int 1, .int 0, .int 7] kd mr mi10 ml11 (fun r12 mi13 ml14 => ((r12 = false → K false mi13 ml14) ∧ (r12 = true → wB l M_X12_take d [.ref h, .int 2, .int 0, .int 7] kd mr mi13 ml14 (fun r16 mi17 ml18 => ((r16 = true → wV l M_X12_keep d [.ref h, .int 0, .int 1, .int 10] kd mr (pm_up mi17 (h + 11) (Int32.toNatClampNeg 0) (b2i (decide ((lg_cmp x1 1819243876) = 0)))) ml18 (fun mi24 ml25 => K true mi24 ml25)) ∧ (r16 = false → K false mi17 ml18))))))))) :
    c_X12_sightLine_21 l (d + 1) kd mr h x1 x3 mi ml K := by
  show wp l M_X12_sightLine (d + 1) 0 0 21 [some (.ref h), some (.long x1), none, some (.int x3)] [] 0 0 kd mi ml mr _
  refine wp_aload_n (pc := 21) dX12_sightLine_21 rfl ?_
  refine wp_iconst (v := 0) (pc := 22) dX12_sightLine_22 (by decide) ?_
  refine wp_bipush (v := 10) (pc := 23) dX12_sightLine_23 (by decide) ?_
  refine wp_iload_n (pc := 25) dX12_sightLine_25 rfl ?_
  refine cvV [.int 0, .int 10, .int x3] [] (pc := 26) dX12_sightLine_26 ml_X12_233 iv_X12_full (TX12s_k th) (cl_X12 rfl) rfl rfl (Nat.le_of_ble_eq_true rfl) (Nat.le_of_ble_eq_true rfl) (wV.mono (fun mi7 ml8 F => ?_) F)
  refine wp_aload_n (pc := 29) dX12_sightLine_29 rfl ?_
  refine cvV [] [] (pc := 30) dX12_sightLine_30 ml_X12_171 iv_X12_token (TX12s_k th) (cl_X12 rfl) rfl rfl (Nat.le_of_ble_eq_true rfl) (Nat.le_of_ble_eq_true rfl) (wV.mono (fun mi10 ml11 F => ?_) F)
  refine wp_aload_n (pc := 33) dX12_sightLine_33 rfl ?_
  refine wp_iconst (v := 1) (pc := 34) dX12_sightLine_34 (by decide) ?_
  refine wp_iconst (v := 0) (pc := 35) dX12_sightLine_35 (by decide) ?_
  refine wp_bipush (v := 7) (pc := 36) dX12_sightLine_36 (by decide) ?_
  refine cvB [.int 1, .int 0, .int 7] [] (pc := 38) dX12_sightLine_38 ml_X12_174 iv_X12_take (TX12s_k th) (cl_X12 rfl) rfl rfl (Nat.le_of_ble_eq_true rfl) (Nat.le_of_ble_eq_true rfl) (wB.mono (fun r12 mi13 ml14 F => ?_) F)
  refine b_eq (tgt := 55) (pc := 41) dX12_sightLine_41 (by decide) (fun c15 => ?_) (fun c15 => ?_)
  · have F := F.1 c15
    refine wp_iconst (v := 0) (pc := 55) dX12_sightLine_55 (by decide) ?_
    exact r_Bx (pc := 56) dX12_sightLine_56 rfl rfl F
  · have F := F.2 c15
    refine wp_aload_n (pc := 44) dX12_sightLine_44 rfl ?_
    refine wp_iconst (v := 2) (pc := 45) dX12_sightLine_45 (by decide) ?_
    refine wp_iconst (v := 0) (pc := 46) dX12_sightLine_46 (by decide) ?_
    refine wp_bipush (v := 7) (pc := 47) dX12_sightLine_47 (by decide) ?_
    refine cvB [.int 2, .int 0, .int 7] [] (pc := 49) dX12_sightLine_49 ml_X12_174 iv_X12_take (TX12s_k th) (cl_X12 rfl) rfl rfl (Nat.le_of_ble_eq_true rfl) (Nat.le_of_ble_eq_true rfl) (wB.mono (fun r16 mi17 ml18 F => ?_) F)
    refine b_ne (tgt := 57) (pc := 52) dX12_sightLine_52 (by decide) (fun c19 => ?_) (fun c19 => ?_)
    · have F := F.1 c19
      refine wp_aload_n (pc := 57) dX12_sightLine_57 rfl ?_
      refine wp_getR (pc := 58) dX12_sightLine_58 fl_X12_41 rfl (TX12s_k th) (TX12s_r20 th) ?_
      refine wp_iconst (v := 0) (pc := 61) dX12_sightLine_61 (by decide) ?_
      refine wp_lload_n (pc := 62) dX12_sightLine_62 rfl ?_
      refine wp_ldc2 (v := 1819243876) (pc := 63) dX12_sightLine_63 (tb_7 100 rfl rfl) ?_
      refine wp_lcmp (pc := 66) dX12_sightLine_66 ?_
      suffices J20 : ∀ v21 : Int32, v21 = (b2i (decide ((lg_cmp x1 1819243876) = 0))) → wp l M_X12_sightLine (d + 1) 0 0 75 [some (.ref h), some (.long x1), none, some (.int x3)] [.int v21, .int 0, .ref (h + 11)] 0 0 kd mi17 ml18 mr _ by
          refine wp_if_ne (tgt := 74) (pc := 67) dX12_sightLine_67 (by decide) (fun c22 => ?_) (fun c22 => ?_)
          · refine wp_iconst (v := 0) (pc := 74) dX12_sightLine_74 (by decide) ?_
            exact J20 _ (by simp only [c22, if_true, if_false, decide_true, decide_false, Bool.not_true, Bool.not_false, Bool.true_and, Bool.false_and, Bool.true_or, Bool.false_or, b2i_t, b2i_f, ite_true, ite_false, not_true_eq_false, not_false_eq_true, reduceCtorEq, decide_eq_true_eq])
          · refine wp_iconst (v := 1) (pc := 70) dX12_sightLine_70 (by decide) ?_
            refine wp_goto (tgt := 75) (pc := 71) dX12_sightLine_71 (by decide) ?_
            exact J20 _ (by simp only [eq_true c22, if_true, if_false, decide_true, decide_false, Bool.not_true, Bool.not_false, Bool.true_and, Bool.false_and, Bool.true_or, Bool.false_or, b2i_t, b2i_f, ite_true, ite_false, not_true_eq_false, not_false_eq_true, reduceCtorEq, decide_eq_true_eq])
      intro v21 ev21
      subst ev21
      refine wp_iast (pc := 75) dX12_sightLine_75 (TX12s_a20 th) (vp_dec (by decide)) ?_
      refine wp_aload_n (pc := 76) dX12_sightLine_76 rfl ?_
      refine wp_iconst (v := 0) (pc := 77) dX12_sightLine_77 (by decide) ?_
      refine wp_iconst (v := 1) (pc := 78) dX12_sightLine_78 (by decide) ?_
      refine wp_bipush (v := 10) (pc := 79) dX12_sightLine_79 (by decide) ?_
      refine cvV [.int 0, .int 1, .int 10] [] (pc := 81) dX12_sightLine_81 ml_X12_261 iv_X12_keep (TX12s_k th) (cl_X12 rfl) rfl rfl (Nat.le_of_ble_eq_true rfl) (Nat.le_of_ble_eq_true rfl) (wV.mono (fun mi24 ml25 F => ?_) F)
      refine wp_iconst (v := 1) (pc := 84) dX12_sightLine_84 (by decide) ?_
      exact r_Bx (pc := 85) dX12_sightLine_85 rfl rfl F
    · have F := F.2 c19
      refine wp_iconst (v := 0) (pc := 55) dX12_sightLine_55 (by decide) ?_
      exact r_Bx (pc := 56) dX12_sightLine_56 rfl rfl F
/-- sightLine(JI)Z -/
theorem w_X12_sightLine {l : Launch} {d : Nat} {kd : pm_K} {mr : pm_R} {h : Nat} {x1 : Int64} {x3 : Int32} {mi : pm_I} {ml : pm_L} {K : Bool → pm_I → pm_L → Prop} (th : TX12s kd mr h)
    (F : (((lg_cmp x1 1819243876) = 0 → c_X12_sightLine_21 l (d + 1) kd mr h x1 x3 mi ml K) ∧ (¬ (lg_cmp x1 1819243876) = 0 → (((lg_cmp x1 487301145972) = 0 → c_X12_sightLine_21 l (d + 1) kd mr h x1 x3 mi ml K) ∧ (¬ (lg_cmp x1 487301145972) = 0 → wB l M_X12_fails d [.ref h] kd mr mi ml (fun r3 mi4 ml5 => K r3 mi4 ml5)))))) :
    wB l M_X12_sightLine (d + 1) [.ref h, .long x1, .int x3] kd mr mi ml K := by
  show wp l M_X12_sightLine (d + 1) 0 0 0 [some (.ref h), some (.long x1), none, some (.int x3)] [] 0 0 kd mi ml mr _
  refine wp_lload_n (pc := 0) dX12_sightLine_0 rfl ?_
  refine wp_ldc2 (v := 1819243876) (pc := 1) dX12_sightLine_1 (tb_7 100 rfl rfl) ?_
  refine wp_lcmp (pc := 4) dX12_sightLine_4 ?_
  refine wp_if_eq (tgt := 21) (pc := 5) dX12_sightLine_5 (by decide) (fun c1 => ?_) (fun c1 => ?_)
  · have F := F.1 c1
    exact wp_less (L' := [some (.ref h), some (.long x1), none, some (.int x3)]) ⟨rfl, ⟨rfl, ⟨rfl, trivial⟩⟩⟩ F
  · have F := F.2 c1
    refine wp_lload_n (pc := 8) dX12_sightLine_8 rfl ?_
    refine wp_ldc2 (v := 487301145972) (pc := 9) dX12_sightLine_9 (tb_7 101 rfl rfl) ?_
    refine wp_lcmp (pc := 12) dX12_sightLine_12 ?_
    refine wp_if_eq (tgt := 21) (pc := 13) dX12_sightLine_13 (by decide) (fun c2 => ?_) (fun c2 => ?_)
    · have F := F.1 c2
      exact wp_less (L' := [some (.ref h), some (.long x1), none, some (.int x3)]) ⟨rfl, ⟨rfl, ⟨rfl, trivial⟩⟩⟩ F
    · have F := F.2 c2
      refine wp_aload_n (pc := 16) dX12_sightLine_16 rfl ?_
      refine cvB [] [] (pc := 17) dX12_sightLine_17 ml_X12_159 iv_X12_fails (TX12s_k th) (cl_X12 rfl) rfl rfl (Nat.le_of_ble_eq_true rfl) (Nat.le_of_ble_eq_true rfl) (wB.mono (fun r3 mi4 ml5 F => ?_) F)
      exact r_B (pc := 20) dX12_sightLine_20 rfl F
def c_X12_atEnd_60 (l : Launch) (d : Nat) (kd : pm_K) (mr : pm_R) (h : Nat) (x1 : Int32) (mi : pm_I) (ml : pm_L) (K : pm_I → pm_L → Prop) : Prop := wp l M_X12_atEnd d 0 0 60 [some (.ref h), some (.int x1)] [] 0 0 kd mi ml mr (qV kd mr K)
def c_X12_atEnd_30 (l : Launch) (d : Nat) (kd : pm_K) (mr : pm_R) (h : Nat) (x1 : Int32) (mi : pm_I) (ml : pm_L) (K : pm_I → pm_L → Prop) : Prop := wp l M_X12_atEnd d 0 0 30 [some (.ref h), some (.int x1)] [] 0 0 kd mi ml mr (qV kd mr K)
def c_X12_atEnd_48 (l : Launch) (d : Nat) (kd : pm_K) (mr : pm_R) (h : Nat)  (mi : pm_I) (ml : pm_L) (K : pm_I → pm_L → Prop) : Prop := wp l M_X12_atEnd d 0 0 48 [some (.ref h), none] [] 0 0 kd mi ml mr (qV kd mr K)
theorem w_X12_atEnd_48 {l : Launch} {d : Nat} {kd : pm_K} {mr : pm_R} {h : Nat}  {mi : pm_I} {ml : pm_L} {K : pm_I → pm_L → Prop} (th : TX12s kd mr h)
    (F : wV l M_X12_later d [.ref h, .int 4, .int (mi h 12)] kd mr mi ml (fun mi5 ml6 => K mi5 ml6)) :
    c_X12_atEnd_48 l (d + 1) kd mr h mi ml K := by
  show wp l M_X12_atEnd (d + 1) 0 0 48 [some (.ref h), none] [] 0 0 kd mi ml mr _
  refine wp_aload_n (pc := 48) dX12_atEnd_48 rfl ?_
  refine wp_iconst (v := 4) (pc := 49) dX12_atEnd_49 (by decide) ?_
  refine wp_aload_n (pc := 50) dX12_atEnd_50 rfl ?_
  refine wp_getI (pc := 51) dX12_atEnd_51 fl_X12_137 rfl (TX12s_k th) ?_
  refine cvV [.int 4, .int (mi h 12)] [] (pc := 54) dX12_atEnd_54 ml_X12_163 iv_X12_later (TX12s_k th) (cl_X12 rfl) rfl rfl (Nat.le_of_ble_eq_true rfl) (Nat.le_of_ble_eq_true rfl) (wV.mono (fun mi5 ml6 F => ?_) F)
  refine wp_goto (tgt := 80) (pc := 57) dX12_atEnd_57 (by decide) ?_
  exact r_V (pc := 80) dX12_atEnd_80 rfl F
theorem w_X12_atEnd_30 {l : Launch} {d : Nat} {kd : pm_K} {mr : pm_R} {h : Nat} {x1 : Int32} {mi : pm_I} {ml : pm_L} {K : pm_I → pm_L → Prop} (th : TX12s kd mr h)
    (F : ((¬ x1 = 2 → c_X12_atEnd_60 l (d + 1) kd mr h x1 mi ml K) ∧ (x1 = 2 → (((mi h 23) < (mi (h + 10) (Int32.toNatClampNeg 0)) → c_X12_atEnd_60 l (d + 1) kd mr h x1 mi ml K) ∧ (¬ (mi h 23) < (mi (h + 10) (Int32.toNatClampNeg 0)) → c_X12_atEnd_48 l (d + 1) kd mr h  mi ml K))))) :
    c_X12_atEnd_30 l (d + 1) kd mr h x1 mi ml K := by
  show wp l M_X12_atEnd (d + 1) 0 0 30 [some (.ref h), some (.int x1)] [] 0 0 kd mi ml mr _
  refine wp_iload_n (pc := 30) dX12_atEnd_30 rfl ?_
  refine wp_iconst (v := 2) (pc := 31) dX12_atEnd_31 (by decide) ?_
  refine wp_icmp_ne (tgt := 60) (pc := 32) dX12_atEnd_32 (by decide) (fun c7 => ?_) (fun c7 => ?_)
  · have F := F.1 c7
    exact wp_less (L' := [some (.ref h), some (.int x1)]) ⟨rfl, ⟨rfl, trivial⟩⟩ F
  · have F := F.2 c7
    refine wp_aload_n (pc := 35) dX12_atEnd_35 rfl ?_
    refine wp_getI (pc := 36) dX12_atEnd_36 fl_X12_272 rfl (TX12s_k th) ?_
    refine wp_aload_n (pc := 39) dX12_atEnd_39 rfl ?_
    refine wp_getR (pc := 40) dX12_atEnd_40 fl_X12_38 rfl (TX12s_k th) (TX12s_r19 th) ?_
    refine wp_iconst (v := 0) (pc := 43) dX12_atEnd_43 (by decide) ?_
    refine wp_iald (pc := 44) dX12_atEnd_44 (TX12s_a19 th) (vp_dec (by decide)) ?_
    refine wp_icmp_lt (tgt := 60) (pc := 45) dX12_atEnd_45 (by decide) (fun c8 => ?_) (fun c8 => ?_)
    · have F := F.1 c8
      exact wp_less (L' := [some (.ref h), some (.int x1)]) ⟨rfl, ⟨rfl, trivial⟩⟩ F
    · have F := F.2 c8
      exact wp_less (L' := [some (.ref h), none]) ⟨rfl, trivial⟩ F
theorem w_X12_atEnd_60 {l : Launch} {d : Nat} {kd : pm_K} {mr : pm_R} {h : Nat} {x1 : Int32} {mi : pm_I} {ml : pm_L} {K : pm_I → pm_L → Prop} (th : TX12s kd mr h)
    (F : ((¬ x1 = 0 → K mi ml) ∧ (x1 = 0 → wB l M_X12_isWalled d [.ref h] kd mr mi ml (fun r10 mi11 ml12 => ((r10 = false → K mi11 ml12) ∧ (r10 = true → wV l M_X12_later d [.ref h, .int 5, .int (mi11 h 12)] kd mr mi11 ml12 (fun mi15 ml16 => K mi15 ml16))))))) :
    c_X12_atEnd_60 l (d + 1) kd mr h x1 mi ml K := by
  show wp l M_X12_atEnd (d + 1) 0 0 60 [some (.ref h), some (.int x1)] [] 0 0 kd mi ml mr _
  refine wp_iload_n (pc := 60) dX12_atEnd_60 rfl ?_
  refine wp_if_ne (tgt := 80) (pc := 61) dX12_atEnd_61 (by decide) (fun c9 => ?_) (fun c9 => ?_)
  · have F := F.1 c9
    exact r_V (pc := 80) dX12_atEnd_80 rfl F
  · have F := F.2 c9
    refine wp_aload_n (pc := 64) dX12_atEnd_64 rfl ?_
    refine cvB [] [] (pc := 65) dX12_atEnd_65 ml_X12_296 iv_X12_isWalled (TX12s_k th) (cl_X12 rfl) rfl rfl (Nat.le_of_ble_eq_true rfl) (Nat.le_of_ble_eq_true rfl) (wB.mono (fun r10 mi11 ml12 F => ?_) F)
    refine b_eq (tgt := 80) (pc := 68) dX12_atEnd_68 (by decide) (fun c13 => ?_) (fun c13 => ?_)
    · have F := F.1 c13
      exact r_V (pc := 80) dX12_atEnd_80 rfl F
    · have F := F.2 c13
      refine wp_aload_n (pc := 71) dX12_atEnd_71 rfl ?_
      refine wp_iconst (v := 5) (pc := 72) dX12_atEnd_72 (by decide) ?_
      refine wp_aload_n (pc := 73) dX12_atEnd_73 rfl ?_
      refine wp_getI (pc := 74) dX12_atEnd_74 fl_X12_137 rfl (TX12s_k th) ?_
      refine cvV [.int 5, .int (mi11 h 12)] [] (pc := 77) dX12_atEnd_77 ml_X12_163 iv_X12_later (TX12s_k th) (cl_X12 rfl) rfl rfl (Nat.le_of_ble_eq_true rfl) (Nat.le_of_ble_eq_true rfl) (wV.mono (fun mi15 ml16 F => ?_) F)
      exact r_V (pc := 80) dX12_atEnd_80 rfl F
/-- atEnd(I)V -/
theorem w_X12_atEnd {l : Launch} {d : Nat} {kd : pm_K} {mr : pm_R} {h : Nat} {x1 : Int32} {mi : pm_I} {ml : pm_L} {K : pm_I → pm_L → Prop} (th : TX12s kd mr h)
    (F : ((¬ x1 = 0 → c_X12_atEnd_30 l (d + 1) kd mr h x1 mi ml K) ∧ (x1 = 0 → (((mi (h + 10) (Int32.toNatClampNeg 0)) ≤ (mi h 21) → c_X12_atEnd_48 l (d + 1) kd mr h  mi ml K) ∧ (¬ (mi (h + 10) (Int32.toNatClampNeg 0)) ≤ (mi h 21) → (((mi (h + 10) (Int32.toNatClampNeg 1)) ≤ (mi h 22) → c_X12_atEnd_48 l (d + 1) kd mr h  mi ml K) ∧ (¬ (mi (h + 10) (Int32.toNatClampNeg 1)) ≤ (mi h 22) → c_X12_atEnd_30 l (d + 1) kd mr h x1 mi ml K))))))) :
    wV l M_X12_atEnd (d + 1) [.ref h, .int x1] kd mr mi ml K := by
  show wp l M_X12_atEnd (d + 1) 0 0 0 [some (.ref h), some (.int x1)] [] 0 0 kd mi ml mr _
  refine wp_iload_n (pc := 0) dX12_atEnd_0 rfl ?_
  refine wp_if_ne (tgt := 30) (pc := 1) dX12_atEnd_1 (by decide) (fun c1 => ?_) (fun c1 => ?_)
  · have F := F.1 c1
    exact wp_less (L' := [some (.ref h), some (.int x1)]) ⟨rfl, ⟨rfl, trivial⟩⟩ F
  · have F := F.2 c1
    refine wp_aload_n (pc := 4) dX12_atEnd_4 rfl ?_
    refine wp_getI (pc := 5) dX12_atEnd_5 fl_X12_177 rfl (TX12s_k th) ?_
    refine wp_aload_n (pc := 8) dX12_atEnd_8 rfl ?_
    refine wp_getR (pc := 9) dX12_atEnd_9 fl_X12_38 rfl (TX12s_k th) (TX12s_r19 th) ?_
    refine wp_iconst (v := 0) (pc := 12) dX12_atEnd_12 (by decide) ?_
    refine wp_iald (pc := 13) dX12_atEnd_13 (TX12s_a19 th) (vp_dec (by decide)) ?_
    refine wp_icmp_ge (tgt := 48) (pc := 14) dX12_atEnd_14 (by decide) (fun c2 => ?_) (fun c2 => ?_)
    · have F := F.1 c2
      exact wp_less (L' := [some (.ref h), none]) ⟨rfl, trivial⟩ F
    · have F := F.2 c2
      refine wp_aload_n (pc := 17) dX12_atEnd_17 rfl ?_
      refine wp_getI (pc := 18) dX12_atEnd_18 fl_X12_184 rfl (TX12s_k th) ?_
      refine wp_aload_n (pc := 21) dX12_atEnd_21 rfl ?_
      refine wp_getR (pc := 22) dX12_atEnd_22 fl_X12_38 rfl (TX12s_k th) (TX12s_r19 th) ?_
      refine wp_iconst (v := 1) (pc := 25) dX12_atEnd_25 (by decide) ?_
      refine wp_iald (pc := 26) dX12_atEnd_26 (TX12s_a19 th) (vp_dec (by decide)) ?_
      refine wp_icmp_ge (tgt := 48) (pc := 27) dX12_atEnd_27 (by decide) (fun c3 => ?_) (fun c3 => ?_)
      · have F := F.1 c3
        exact wp_less (L' := [some (.ref h), none]) ⟨rfl, trivial⟩ F
      · have F := F.2 c3
        exact wp_less (L' := [some (.ref h), some (.int x1)]) ⟨rfl, ⟨rfl, trivial⟩⟩ F
def c_X12_isWalled_94 (l : Launch) (d : Nat) (kd : pm_K) (mr : pm_R) (h : Nat) (x1 : Int32) (mi : pm_I) (ml : pm_L) (K : Bool → pm_I → pm_L → Prop) : Prop := wp l M_X12_isWalled d 0 0 94 [some (.ref h), some (.int x1)] [] 0 0 kd mi ml mr (qB kd mr K)
def c_X12_isWalled_50 (l : Launch) (d : Nat) (kd : pm_K) (mr : pm_R) (h : Nat) (x1 : Int32) (mi : pm_I) (ml : pm_L) (K : Bool → pm_I → pm_L → Prop) : Prop := wp l M_X12_isWalled d 0 0 50 [some (.ref h), some (.int x1)] [] 0 0 kd mi ml mr (qB kd mr K)
def c_X12_isWalled_2 (l : Launch) (d : Nat) (kd : pm_K) (mr : pm_R) (h : Nat) (x1 : Int32) (mi : pm_I) (ml : pm_L) (K : Bool → pm_I → pm_L → Prop) : Prop := wp l M_X12_isWalled d 0 0 2 [some (.ref h), some (.int x1)] [] 0 0 kd mi ml mr (qB kd mr K)
theorem w_X12_isWalled_2 {l : Launch} {d : Nat} {kd : pm_K} {mr : pm_R} {h : Nat} {x1 : Int32} {mi : pm_I} {ml : pm_L} {K : Bool → pm_I → pm_L → Prop} (th : TX12s kd mr h)
    (F : ((6 ≤ x1 → K false mi ml) ∧ (¬ 6 ≤ x1 → (((mi (h + 10) (Int32.toNatClampNeg 3)) ≤ x1 → c_X12_isWalled_50 l (d + 1) kd mr h x1 mi ml K) ∧ (¬ (mi (h + 10) (Int32.toNatClampNeg 3)) ≤ x1 → vp_in (21 + x1) 121 ∧ vp_in (45 + (mi (h + 10) (Int32.toNatClampNeg (21 + x1)))) 121 ∧ vp_in (15 + x1) 121 ∧ wB l M_X12_has d [.int (mi (h + 10) (Int32.toNatClampNeg (45 + (mi (h + 10) (Int32.toNatClampNeg (21 + x1)))))), .int (mi (h + 10) (Int32.toNatClampNeg (15 + x1)))] kd mr mi ml (fun r3 mi4 ml5 => ((r3 = true → K true mi4 ml5) ∧ (r3 = false → c_X12_isWalled_50 l (d + 1) kd mr h x1 mi4 ml5 K)))))))) :
    c_X12_isWalled_2 l (d + 1) kd mr h x1 mi ml K := by
  show wp l M_X12_isWalled (d + 1) 0 0 2 [some (.ref h), some (.int x1)] [] 0 0 kd mi ml mr _
  refine wp_iload_n (pc := 2) dX12_isWalled_2 rfl ?_
  refine wp_bipush (v := 6) (pc := 3) dX12_isWalled_3 (by decide) ?_
  refine wp_icmp_ge (tgt := 100) (pc := 5) dX12_isWalled_5 (by decide) (fun c1 => ?_) (fun c1 => ?_)
  · have F := F.1 c1
    refine wp_iconst (v := 0) (pc := 100) dX12_isWalled_100 (by decide) ?_
    exact r_Bx (pc := 101) dX12_isWalled_101 rfl rfl F
  · have F := F.2 c1
    refine wp_iload_n (pc := 8) dX12_isWalled_8 rfl ?_
    refine wp_aload_n (pc := 9) dX12_isWalled_9 rfl ?_
    refine wp_getR (pc := 10) dX12_isWalled_10 fl_X12_38 rfl (TX12s_k th) (TX12s_r19 th) ?_
    refine wp_iconst (v := 3) (pc := 13) dX12_isWalled_13 (by decide) ?_
    refine wp_iald (pc := 14) dX12_isWalled_14 (TX12s_a19 th) (vp_dec (by decide)) ?_
    refine wp_icmp_ge (tgt := 50) (pc := 15) dX12_isWalled_15 (by decide) (fun c2 => ?_) (fun c2 => ?_)
    · have F := F.1 c2
      exact wp_less (L' := [some (.ref h), some (.int x1)]) ⟨rfl, ⟨rfl, trivial⟩⟩ F
    · have F := F.2 c2
      refine wp_aload_n (pc := 18) dX12_isWalled_18 rfl ?_
      refine wp_getR (pc := 19) dX12_isWalled_19 fl_X12_38 rfl (TX12s_k th) (TX12s_r19 th) ?_
      refine wp_bipush (v := 45) (pc := 22) dX12_isWalled_22 (by decide) ?_
      refine wp_aload_n (pc := 24) dX12_isWalled_24 rfl ?_
      refine wp_getR (pc := 25) dX12_isWalled_25 fl_X12_38 rfl (TX12s_k th) (TX12s_r19 th) ?_
      refine wp_bipush (v := 21) (pc := 28) dX12_isWalled_28 (by decide) ?_
      refine wp_iload_n (pc := 30) dX12_isWalled_30 rfl ?_
      refine wp_iadd (pc := 31) dX12_isWalled_31 ?_
      refine wp_iald (pc := 32) dX12_isWalled_32 (TX12s_a19 th) F.1 ?_
      have F := F.2
      refine wp_iadd (pc := 33) dX12_isWalled_33 ?_
      refine wp_iald (pc := 34) dX12_isWalled_34 (TX12s_a19 th) F.1 ?_
      have F := F.2
      refine wp_aload_n (pc := 35) dX12_isWalled_35 rfl ?_
      refine wp_getR (pc := 36) dX12_isWalled_36 fl_X12_38 rfl (TX12s_k th) (TX12s_r19 th) ?_
      refine wp_bipush (v := 15) (pc := 39) dX12_isWalled_39 (by decide) ?_
      refine wp_iload_n (pc := 41) dX12_isWalled_41 rfl ?_
      refine wp_iadd (pc := 42) dX12_isWalled_42 ?_
      refine wp_iald (pc := 43) dX12_isWalled_43 (TX12s_a19 th) F.1 ?_
      have F := F.2
      refine csB [.int (mi (h + 10) (Int32.toNatClampNeg (45 + (mi (h + 10) (Int32.toNatClampNeg (21 + x1)))))), .int (mi (h + 10) (Int32.toNatClampNeg (15 + x1)))] [] (pc := 44) dX12_isWalled_44 ml_X12_111 st_X12_has rfl rfl (Nat.le_of_ble_eq_true rfl) (Nat.le_of_ble_eq_true rfl) (wB.mono (fun r3 mi4 ml5 F => ?_) F)
      refine b_ne (tgt := 92) (pc := 47) dX12_isWalled_47 (by decide) (fun c6 => ?_) (fun c6 => ?_)
      · have F := F.1 c6
        refine wp_iconst (v := 1) (pc := 92) dX12_isWalled_92 (by decide) ?_
        exact r_Bx (pc := 93) dX12_isWalled_93 rfl rfl F
      · have F := F.2 c6
        exact wp_less (L' := [some (.ref h), some (.int x1)]) ⟨rfl, ⟨rfl, trivial⟩⟩ F
theorem w_X12_isWalled_50 {l : Launch} {d : Nat} {kd : pm_K} {mr : pm_R} {h : Nat} {x1 : Int32} {mi : pm_I} {ml : pm_L} {K : Bool → pm_I → pm_L → Prop} (th : TX12s kd mr h)
    (F : (((mi (h + 10) (Int32.toNatClampNeg 4)) ≤ x1 → c_X12_isWalled_94 l (d + 1) kd mr h x1 mi ml K) ∧ (¬ (mi (h + 10) (Int32.toNatClampNeg 4)) ≤ x1 → vp_in (39 + x1) 121 ∧ vp_in (45 + (mi (h + 10) (Int32.toNatClampNeg (39 + x1)))) 121 ∧ vp_in (33 + x1) 121 ∧ wB l M_X12_has d [.int (mi (h + 10) (Int32.toNatClampNeg (45 + (mi (h + 10) (Int32.toNatClampNeg (39 + x1)))))), .int (mi (h + 10) (Int32.toNatClampNeg (33 + x1)))] kd mr mi ml (fun r8 mi9 ml10 => ((r8 = false → c_X12_isWalled_94 l (d + 1) kd mr h x1 mi9 ml10 K) ∧ (r8 = true → K true mi9 ml10)))))) :
    c_X12_isWalled_50 l (d + 1) kd mr h x1 mi ml K := by
  show wp l M_X12_isWalled (d + 1) 0 0 50 [some (.ref h), some (.int x1)] [] 0 0 kd mi ml mr _
  refine wp_iload_n (pc := 50) dX12_isWalled_50 rfl ?_
  refine wp_aload_n (pc := 51) dX12_isWalled_51 rfl ?_
  refine wp_getR (pc := 52) dX12_isWalled_52 fl_X12_38 rfl (TX12s_k th) (TX12s_r19 th) ?_
  refine wp_iconst (v := 4) (pc := 55) dX12_isWalled_55 (by decide) ?_
  refine wp_iald (pc := 56) dX12_isWalled_56 (TX12s_a19 th) (vp_dec (by decide)) ?_
  refine wp_icmp_ge (tgt := 94) (pc := 57) dX12_isWalled_57 (by decide) (fun c7 => ?_) (fun c7 => ?_)
  · have F := F.1 c7
    exact wp_less (L' := [some (.ref h), some (.int x1)]) ⟨rfl, ⟨rfl, trivial⟩⟩ F
  · have F := F.2 c7
    refine wp_aload_n (pc := 60) dX12_isWalled_60 rfl ?_
    refine wp_getR (pc := 61) dX12_isWalled_61 fl_X12_38 rfl (TX12s_k th) (TX12s_r19 th) ?_
    refine wp_bipush (v := 45) (pc := 64) dX12_isWalled_64 (by decide) ?_
    refine wp_aload_n (pc := 66) dX12_isWalled_66 rfl ?_
    refine wp_getR (pc := 67) dX12_isWalled_67 fl_X12_38 rfl (TX12s_k th) (TX12s_r19 th) ?_
    refine wp_bipush (v := 39) (pc := 70) dX12_isWalled_70 (by decide) ?_
    refine wp_iload_n (pc := 72) dX12_isWalled_72 rfl ?_
    refine wp_iadd (pc := 73) dX12_isWalled_73 ?_
    refine wp_iald (pc := 74) dX12_isWalled_74 (TX12s_a19 th) F.1 ?_
    have F := F.2
    refine wp_iadd (pc := 75) dX12_isWalled_75 ?_
    refine wp_iald (pc := 76) dX12_isWalled_76 (TX12s_a19 th) F.1 ?_
    have F := F.2
    refine wp_aload_n (pc := 77) dX12_isWalled_77 rfl ?_
    refine wp_getR (pc := 78) dX12_isWalled_78 fl_X12_38 rfl (TX12s_k th) (TX12s_r19 th) ?_
    refine wp_bipush (v := 33) (pc := 81) dX12_isWalled_81 (by decide) ?_
    refine wp_iload_n (pc := 83) dX12_isWalled_83 rfl ?_
    refine wp_iadd (pc := 84) dX12_isWalled_84 ?_
    refine wp_iald (pc := 85) dX12_isWalled_85 (TX12s_a19 th) F.1 ?_
    have F := F.2
    refine csB [.int (mi (h + 10) (Int32.toNatClampNeg (45 + (mi (h + 10) (Int32.toNatClampNeg (39 + x1)))))), .int (mi (h + 10) (Int32.toNatClampNeg (33 + x1)))] [] (pc := 86) dX12_isWalled_86 ml_X12_111 st_X12_has rfl rfl (Nat.le_of_ble_eq_true rfl) (Nat.le_of_ble_eq_true rfl) (wB.mono (fun r8 mi9 ml10 F => ?_) F)
    refine b_eq (tgt := 94) (pc := 89) dX12_isWalled_89 (by decide) (fun c11 => ?_) (fun c11 => ?_)
    · have F := F.1 c11
      exact wp_less (L' := [some (.ref h), some (.int x1)]) ⟨rfl, ⟨rfl, trivial⟩⟩ F
    · have F := F.2 c11
      refine wp_iconst (v := 1) (pc := 92) dX12_isWalled_92 (by decide) ?_
      exact r_Bx (pc := 93) dX12_isWalled_93 rfl rfl F
theorem w_X12_isWalled_94 {l : Launch} {d : Nat} {kd : pm_K} {mr : pm_R} {h : Nat} {x1 : Int32} {mi : pm_I} {ml : pm_L} {K : Bool → pm_I → pm_L → Prop} (th : TX12s kd mr h)
    (F : c_X12_isWalled_2 l (d + 1) kd mr h (x1 + 1) mi ml K) :
    c_X12_isWalled_94 l (d + 1) kd mr h x1 mi ml K := by
  show wp l M_X12_isWalled (d + 1) 0 0 94 [some (.ref h), some (.int x1)] [] 0 0 kd mi ml mr _
  refine wp_iinc (v := (x1 + 1)) (pc := 94) dX12_isWalled_94 rfl rfl rfl ?_
  show wp l M_X12_isWalled (d + 1) 0 0 _ [some (.ref h), some (.int (x1 + 1))] _ 0 0 kd _ _ mr _
  refine wp_goto (tgt := 2) (pc := 97) dX12_isWalled_97 (by decide) ?_
  exact wp_less (L' := [some (.ref h), some (.int (x1 + 1))]) ⟨rfl, ⟨rfl, trivial⟩⟩ F
/-- isWalled()Z -/
theorem w_X12_isWalled {l : Launch} {d : Nat} {kd : pm_K} {mr : pm_R} {h : Nat}  {mi : pm_I} {ml : pm_L} {K : Bool → pm_I → pm_L → Prop} (th : TX12s kd mr h)
    (F : c_X12_isWalled_2 l (d + 1) kd mr h 0 mi ml K) :
    wB l M_X12_isWalled (d + 1) [.ref h] kd mr mi ml K := by
  show wp l M_X12_isWalled (d + 1) 0 0 0 [some (.ref h), none] [] 0 0 kd mi ml mr _
  refine wp_iconst (v := 0) (pc := 0) dX12_isWalled_0 (by decide) ?_
  refine wp_istore_n (pc := 1) dX12_isWalled_1 (Nat.le_of_ble_eq_true rfl) rfl ?_
  show wp l M_X12_isWalled (d + 1) 0 0 _ [some (.ref h), some (.int 0)] _ 0 0 kd _ _ mr _
  exact wp_less (L' := [some (.ref h), some (.int 0)]) ⟨rfl, ⟨rfl, trivial⟩⟩ F
/-- has(II)Z -/
theorem w_X12_has {l : Launch} {d : Nat} {kd : pm_K} {mr : pm_R}  {x0 : Int32} {x1 : Int32} {mi : pm_I} {ml : pm_L} {K : Bool → pm_I → pm_L → Prop} 
    (F : K (decide (((x0 >>> (x1 &&& 31)) &&& 1) = 1)) mi ml) :
    wB l M_X12_has d [.int x0, .int x1] kd mr mi ml K := by
  show wp l M_X12_has d 0 0 0 [some (.int x0), some (.int x1)] [] 0 0 kd mi ml mr _
  refine wp_iload_n (pc := 0) dX12_has_0 rfl ?_
  refine wp_iload_n (pc := 1) dX12_has_1 rfl ?_
  refine wp_ishr (pc := 2) dX12_has_2 ?_
  refine wp_iconst (v := 1) (pc := 3) dX12_has_3 (by decide) ?_
  refine wp_iand (pc := 4) dX12_has_4 ?_
  refine wp_iconst (v := 1) (pc := 5) dX12_has_5 (by decide) ?_
  suffices J1 : ∀ v2 : Int32, v2 = (b2i (decide (((x0 >>> (x1 &&& 31)) &&& 1) = 1))) → wp l M_X12_has d 0 0 14 [some (.int x0), some (.int x1)] [.int v2] 0 0 kd mi ml mr _ by
      refine wp_icmp_ne (tgt := 13) (pc := 6) dX12_has_6 (by decide) (fun c3 => ?_) (fun c3 => ?_)
      · refine wp_iconst (v := 0) (pc := 13) dX12_has_13 (by decide) ?_
        exact J1 _ (by simp only [c3, if_true, if_false, decide_true, decide_false, Bool.not_true, Bool.not_false, Bool.true_and, Bool.false_and, Bool.true_or, Bool.false_or, b2i_t, b2i_f, ite_true, ite_false, not_true_eq_false, not_false_eq_true, reduceCtorEq, decide_eq_true_eq])
      · refine wp_iconst (v := 1) (pc := 9) dX12_has_9 (by decide) ?_
        refine wp_goto (tgt := 14) (pc := 10) dX12_has_10 (by decide) ?_
        exact J1 _ (by simp only [eq_true c3, if_true, if_false, decide_true, decide_false, Bool.not_true, Bool.not_false, Bool.true_and, Bool.false_and, Bool.true_or, Bool.false_or, b2i_t, b2i_f, ite_true, ite_false, not_true_eq_false, not_false_eq_true, reduceCtorEq, decide_eq_true_eq])
  intro v2 ev2
  subst ev2
  exact r_B (pc := 14) dX12_has_14 rfl F
/-- storeAll(II)V -/
theorem w_X12_storeAll {l : Launch} {d : Nat} {kd : pm_K} {mr : pm_R} {h : Nat} {x1 : Int32} {x2 : Int32} {mi : pm_I} {ml : pm_L} {K : pm_I → pm_L → Prop} (th : TX12s kd mr h)
    (F : (((x1).toInt < 0 ∨ 2 < (x1).toInt → wV l M_X12_store d [.ref h, .ref (h + 9), .int 31, .int x2] kd mr mi ml (fun mi3 ml4 => K mi3 ml4)) ∧ ((x1).toInt = 0 → wV l M_X12_store d [.ref h, .ref (h + 6), .int 53, .int x2] kd mr mi ml (fun mi6 ml7 => K mi6 ml7)) ∧ ((x1).toInt = 1 → wV l M_X12_store d [.ref h, .ref (h + 7), .int 121, .int x2] kd mr mi ml (fun mi9 ml10 => K mi9 ml10)) ∧ ((x1).toInt = 2 → wV l M_X12_store d [.ref h, .ref (h + 8), .int 39, .int x2] kd mr mi ml (fun mi12 ml13 => K mi12 ml13)))) :
    wV l M_X12_storeAll (d + 1) [.ref h, .int x1, .int x2] kd mr mi ml K := by
  show wp l M_X12_storeAll (d + 1) 0 0 0 [some (.ref h), some (.int x1), some (.int x2)] [] 0 0 kd mi ml mr _
  refine wp_iload_n (pc := 0) dX12_storeAll_0 rfl ?_
  by_cases c1 : (x1).toInt < 0 ∨ 2 < (x1).toInt
  · have F := F.1 c1
    refine wp_tableOut (tgt := 64) (pc := 1) dX12_storeAll_1 c1 (by decide) ?_
    refine wp_aload_n (pc := 64) dX12_storeAll_64 rfl ?_
    refine wp_aload_n (pc := 65) dX12_storeAll_65 rfl ?_
    refine wp_getR (pc := 66) dX12_storeAll_66 fl_X12_35 rfl (TX12s_k th) (TX12s_r9 th) ?_
    refine wp_bipush (v := 31) (pc := 69) dX12_storeAll_69 (by decide) ?_
    refine wp_iload_n (pc := 71) dX12_storeAll_71 rfl ?_
    refine cvV [.ref (h + 9), .int 31, .int x2] [] (pc := 72) dX12_storeAll_72 ml_X12_308 iv_X12_store (TX12s_k th) (cl_X12 rfl) rfl rfl (Nat.le_of_ble_eq_true rfl) (Nat.le_of_ble_eq_true rfl) (wV.mono (fun mi3 ml4 F => ?_) F)
    exact r_V (pc := 75) dX12_storeAll_75 rfl F
  have c1 : (x1).toInt = 0 ∨ (x1).toInt = 1 ∨ (x1).toInt = 2 := by omega
  have F := F.2
  rcases c1 with c1 | c1 | c1
  · have F := F.1 c1
    refine wp_tableIn (tgt := 28) (pc := 1) dX12_storeAll_1 c1 (by decide) (by decide) rfl (by decide) ?_
    refine wp_aload_n (pc := 28) dX12_storeAll_28 rfl ?_
    refine wp_aload_n (pc := 29) dX12_storeAll_29 rfl ?_
    refine wp_getR (pc := 30) dX12_storeAll_30 fl_X12_26 rfl (TX12s_k th) (TX12s_r6 th) ?_
    refine wp_bipush (v := 53) (pc := 33) dX12_storeAll_33 (by decide) ?_
    refine wp_iload_n (pc := 35) dX12_storeAll_35 rfl ?_
    refine cvV [.ref (h + 6), .int 53, .int x2] [] (pc := 36) dX12_storeAll_36 ml_X12_308 iv_X12_store (TX12s_k th) (cl_X12 rfl) rfl rfl (Nat.le_of_ble_eq_true rfl) (Nat.le_of_ble_eq_true rfl) (wV.mono (fun mi6 ml7 F => ?_) F)
    exact r_V (pc := 39) dX12_storeAll_39 rfl F
  · have F := F.2.1 c1
    refine wp_tableIn (tgt := 40) (pc := 1) dX12_storeAll_1 c1 (by decide) (by decide) rfl (by decide) ?_
    refine wp_aload_n (pc := 40) dX12_storeAll_40 rfl ?_
    refine wp_aload_n (pc := 41) dX12_storeAll_41 rfl ?_
    refine wp_getR (pc := 42) dX12_storeAll_42 fl_X12_29 rfl (TX12s_k th) (TX12s_r7 th) ?_
    refine wp_bipush (v := 121) (pc := 45) dX12_storeAll_45 (by decide) ?_
    refine wp_iload_n (pc := 47) dX12_storeAll_47 rfl ?_
    refine cvV [.ref (h + 7), .int 121, .int x2] [] (pc := 48) dX12_storeAll_48 ml_X12_308 iv_X12_store (TX12s_k th) (cl_X12 rfl) rfl rfl (Nat.le_of_ble_eq_true rfl) (Nat.le_of_ble_eq_true rfl) (wV.mono (fun mi9 ml10 F => ?_) F)
    exact r_V (pc := 51) dX12_storeAll_51 rfl F
  · have F := F.2.2 c1
    refine wp_tableIn (tgt := 52) (pc := 1) dX12_storeAll_1 c1 (by decide) (by decide) rfl (by decide) ?_
    refine wp_aload_n (pc := 52) dX12_storeAll_52 rfl ?_
    refine wp_aload_n (pc := 53) dX12_storeAll_53 rfl ?_
    refine wp_getR (pc := 54) dX12_storeAll_54 fl_X12_32 rfl (TX12s_k th) (TX12s_r8 th) ?_
    refine wp_bipush (v := 39) (pc := 57) dX12_storeAll_57 (by decide) ?_
    refine wp_iload_n (pc := 59) dX12_storeAll_59 rfl ?_
    refine cvV [.ref (h + 8), .int 39, .int x2] [] (pc := 60) dX12_storeAll_60 ml_X12_308 iv_X12_store (TX12s_k th) (cl_X12 rfl) rfl rfl (Nat.le_of_ble_eq_true rfl) (Nat.le_of_ble_eq_true rfl) (wV.mono (fun mi12 ml13 F => ?_) F)
    exact r_V (pc := 63) dX12_storeAll_63 rfl F
def c_X12_store_3 (l : Launch) (d : Nat) (kd : pm_K) (mr : pm_R) (h : Nat) (a1 na1 : Nat) (x2 : Int32) (x3 : Int32) (x4 : Int32) (mi : pm_I) (ml : pm_L) (K : pm_I → pm_L → Prop) : Prop := wp l M_X12_store d 0 0 3 [some (.ref h), some (.ref a1), some (.int x2), some (.int x3), some (.int x4)] [] 0 0 kd mi ml mr (qV kd mr K)
theorem w_X12_store_3 {l : Launch} {d : Nat} {kd : pm_K} {mr : pm_R} {h : Nat} {a1 na1 : Nat} {x2 : Int32} {x3 : Int32} {x4 : Int32} {mi : pm_I} {ml : pm_L} {K : pm_I → pm_L → Prop} (th : TX12s kd mr h) (ka1 : kd[a1]? = some (1, na1))
    (F : ((x2 ≤ x4 → K mi ml) ∧ (¬ x2 ≤ x4 → vp_in x4 121 ∧ vp_in ((x2 * x3) + x4) na1 ∧ c_X12_store_3 l d kd mr h a1 na1 x2 x3 (x4 + 1) (pm_up mi a1 (Int32.toNatClampNeg ((x2 * x3) + x4)) (mi (h + 10) (Int32.toNatClampNeg x4))) ml K))) :
    c_X12_store_3 l d kd mr h a1 na1 x2 x3 x4 mi ml K := by
  show wp l M_X12_store d 0 0 3 [some (.ref h), some (.ref a1), some (.int x2), some (.int x3), some (.int x4)] [] 0 0 kd mi ml mr _
  refine wp_iload (pc := 3) dX12_store_3 rfl ?_
  refine wp_iload_n (pc := 5) dX12_store_5 rfl ?_
  refine wp_icmp_ge (tgt := 30) (pc := 6) dX12_store_6 (by decide) (fun c1 => ?_) (fun c1 => ?_)
  · have F := F.1 c1
    exact r_V (pc := 30) dX12_store_30 rfl F
  · have F := F.2 c1
    refine wp_aload_n (pc := 9) dX12_store_9 rfl ?_
    refine wp_iload_n (pc := 10) dX12_store_10 rfl ?_
    refine wp_iload_n (pc := 11) dX12_store_11 rfl ?_
    refine wp_imul (pc := 12) dX12_store_12 ?_
    refine wp_iload (pc := 13) dX12_store_13 rfl ?_
    refine wp_iadd (pc := 15) dX12_store_15 ?_
    refine wp_aload_n (pc := 16) dX12_store_16 rfl ?_
    refine wp_getR (pc := 17) dX12_store_17 fl_X12_38 rfl (TX12s_k th) (TX12s_r19 th) ?_
    refine wp_iload (pc := 20) dX12_store_20 rfl ?_
    refine wp_iald (pc := 22) dX12_store_22 (TX12s_a19 th) F.1 ?_
    have F := F.2
    refine wp_iast (pc := 23) dX12_store_23 ka1 F.1 ?_
    have F := F.2
    refine wp_iinc (v := (x4 + 1)) (pc := 24) dX12_store_24 rfl rfl rfl ?_
    show wp l M_X12_store d 0 0 _ [some (.ref h), some (.ref a1), some (.int x2), some (.int x3), some (.int (x4 + 1))] _ 0 0 kd _ _ mr _
    refine wp_goto (tgt := 3) (pc := 27) dX12_store_27 (by decide) ?_
    exact wp_less (L' := [some (.ref h), some (.ref a1), some (.int x2), some (.int x3), some (.int (x4 + 1))]) ⟨rfl, ⟨rfl, ⟨rfl, ⟨rfl, ⟨rfl, trivial⟩⟩⟩⟩⟩ F
/-- store([III)V -/
theorem w_X12_store {l : Launch} {d : Nat} {kd : pm_K} {mr : pm_R} {h : Nat} {a1 na1 : Nat} {x2 : Int32} {x3 : Int32} {mi : pm_I} {ml : pm_L} {K : pm_I → pm_L → Prop} (th : TX12s kd mr h) (ka1 : kd[a1]? = some (1, na1))
    (F : c_X12_store_3 l d kd mr h a1 na1 x2 x3 0 mi ml K) :
    wV l M_X12_store d [.ref h, .ref a1, .int x2, .int x3] kd mr mi ml K := by
  show wp l M_X12_store d 0 0 0 [some (.ref h), some (.ref a1), some (.int x2), some (.int x3), none] [] 0 0 kd mi ml mr _
  refine wp_iconst (v := 0) (pc := 0) dX12_store_0 (by decide) ?_
  refine wp_istore (pc := 1) dX12_store_1 (Nat.le_of_ble_eq_true rfl) rfl ?_
  show wp l M_X12_store d 0 0 _ [some (.ref h), some (.ref a1), some (.int x2), some (.int x3), some (.int 0)] _ 0 0 kd _ _ mr _
  exact wp_less (L' := [some (.ref h), some (.ref a1), some (.int x2), some (.int x3), some (.int 0)]) ⟨rfl, ⟨rfl, ⟨rfl, ⟨rfl, ⟨rfl, trivial⟩⟩⟩⟩⟩ F
/-- fault(I)I -/
theorem w_X12_fault {l : Launch} {d : Nat} {kd : pm_K} {mr : pm_R} {h : Nat} {x1 : Int32} {mi : pm_I} {ml : pm_L} {K : Int32 → pm_I → pm_L → Prop} (th : TX12s kd mr h)
    (F : ((¬ x1 = 0 → ((¬ x1 = 1 → K (-1) (pm_up mi h 0 0) ml) ∧ (x1 = 1 → K (mi (h + 4) (Int32.toNatClampNeg 0)) (pm_up mi h 0 0) ml))) ∧ (x1 = 0 → K (mi (h + 3) (Int32.toNatClampNeg 0)) (pm_up mi h 0 0) ml))) :
    wI l M_X12_fault d [.ref h, .int x1] kd mr mi ml K := by
  show wp l M_X12_fault d 0 0 0 [some (.ref h), some (.int x1)] [] 0 0 kd mi ml mr _
  refine wp_aload_n (pc := 0) dX12_fault_0 rfl ?_
  refine wp_iconst (v := 0) (pc := 1) dX12_fault_1 (by decide) ?_
  refine wp_putI (pc := 2) dX12_fault_2 fl_X12_107 rfl rfl (TX12s_k th) ?_
  refine wp_iload_n (pc := 5) dX12_fault_5 rfl ?_
  refine wp_if_ne (tgt := 18) (pc := 6) dX12_fault_6 (by decide) (fun c1 => ?_) (fun c1 => ?_)
  · have F := F.1 c1
    refine wp_iload_n (pc := 18) dX12_fault_18 rfl ?_
    refine wp_iconst (v := 1) (pc := 19) dX12_fault_19 (by decide) ?_
    refine wp_icmp_ne (tgt := 32) (pc := 20) dX12_fault_20 (by decide) (fun c2 => ?_) (fun c2 => ?_)
    · have F := F.1 c2
      refine wp_iconst (v := -1) (pc := 32) dX12_fault_32 (by decide) ?_
      exact r_I (pc := 33) dX12_fault_33 rfl F
    · have F := F.2 c2
      refine wp_aload_n (pc := 23) dX12_fault_23 rfl ?_
      refine wp_getR (pc := 24) dX12_fault_24 fl_X12_20 rfl (TX12s_k th) (TX12s_r4 th) ?_
      refine wp_iconst (v := 0) (pc := 27) dX12_fault_27 (by decide) ?_
      refine wp_iald (pc := 28) dX12_fault_28 (TX12s_a4 th) (vp_dec (by decide)) ?_
      refine t_I (show ((pm_up mi h 0 0) (h + 4) (Int32.toNatClampNeg 0)) = (mi (h + 4) (Int32.toNatClampNeg 0)) from pm_up_k _ _ (by omega)) ?_
      refine wp_goto (tgt := 33) (pc := 29) dX12_fault_29 (by decide) ?_
      exact r_I (pc := 33) dX12_fault_33 rfl F
  · have F := F.2 c1
    refine wp_aload_n (pc := 9) dX12_fault_9 rfl ?_
    refine wp_getR (pc := 10) dX12_fault_10 fl_X12_17 rfl (TX12s_k th) (TX12s_r3 th) ?_
    refine wp_iconst (v := 0) (pc := 13) dX12_fault_13 (by decide) ?_
    refine wp_iald (pc := 14) dX12_fault_14 (TX12s_a3 th) (vp_dec (by decide)) ?_
    refine t_I (show ((pm_up mi h 0 0) (h + 3) (Int32.toNatClampNeg 0)) = (mi (h + 3) (Int32.toNatClampNeg 0)) from pm_up_k _ _ (by omega)) ?_
    refine wp_goto (tgt := 33) (pc := 15) dX12_fault_15 (by decide) ?_
    exact r_I (pc := 33) dX12_fault_33 rfl F
/-- city(II)I -/
theorem w_X12_city {l : Launch} {d : Nat} {kd : pm_K} {mr : pm_R} {h : Nat} {x1 : Int32} {x2 : Int32} {mi : pm_I} {ml : pm_L} {K : Int32 → pm_I → pm_L → Prop} (th : TX12s kd mr h)
    (F : wB l M_X12_hand d [.ref h, .int x1] kd mr (pm_up mi h 0 0) ml (fun r1 mi2 ml3 => ((r1 = true → ((((x2 / 10)).toInt < 1 ∨ 5 < ((x2 / 10)).toInt → wB l M_X12_in d [.int x2, .int 100, .int (99 + (mi2 h 27))] kd mr mi2 ml3 (fun r6 mi7 ml8 => ((r6 = false → wB l M_X12_in d [.int x2, .int 0, .int 4] kd mr mi7 ml8 (fun r10 mi11 ml12 => ((r10 = false → K (-1) mi11 ml12) ∧ (r10 = true → wI l M_X12_of d [.ref h, .int x2] kd mr mi11 ml12 (fun r14 mi15 ml16 => K r14 mi15 ml16))))) ∧ (r6 = true → wB l M_X12_isWall d [.ref h, .int (x2 - 100)] kd mr mi7 ml8 (fun r17 mi18 ml19 => K (b2i (decide (r17 = true))) mi18 ml19))))) ∧ (((x2 / 10)).toInt = 1 → wB l M_X12_in d [.int x2, .int 10, .int 13] kd mr mi2 ml3 (fun r23 mi24 ml25 => ((r23 = false → K (-1) mi24 ml25) ∧ (r23 = true → wI l M_X12_of d [.ref h, .int (5 + (x2 - x2 / 10 * 10))] kd mr mi24 ml25 (fun r27 mi28 ml29 => K r27 mi28 ml29))))) ∧ (((x2 / 10)).toInt = 2 → wB l M_X12_isPlayer d [.ref h, .int (x2 - x2 / 10 * 10)] kd mr mi2 ml3 (fun r30 mi31 ml32 => ((r30 = false → K (-1) mi31 ml32) ∧ (r30 = true → wI l M_X12_of d [.ref h, .int (9 + (x2 - x2 / 10 * 10))] kd mr mi31 ml32 (fun r34 mi35 ml36 => K r34 mi35 ml36))))) ∧ (((x2 / 10)).toInt = 3 → wB l M_X12_isPlayer d [.ref h, .int (x2 - x2 / 10 * 10)] kd mr mi2 ml3 (fun r37 mi38 ml39 => ((r37 = false → K (-1) mi38 ml39) ∧ (r37 = true → wI l M_X12_cellOf d [.ref h, .int 9, .int (x2 - x2 / 10 * 10)] kd mr mi38 ml39 (fun r41 mi42 ml43 => K r41 mi42 ml43))))) ∧ (((x2 / 10)).toInt = 4 → wB l M_X12_isPerson d [.ref h, .int (x2 - x2 / 10 * 10)] kd mr mi2 ml3 (fun r44 mi45 ml46 => ((r44 = false → K (-1) mi45 ml46) ∧ (r44 = true → wI l M_X12_of d [.ref h, .int (27 + (x2 - x2 / 10 * 10))] kd mr mi45 ml46 (fun r48 mi49 ml50 => K r48 mi49 ml50))))) ∧ (((x2 / 10)).toInt = 5 → wB l M_X12_isPerson d [.ref h, .int (x2 - x2 / 10 * 10)] kd mr mi2 ml3 (fun r51 mi52 ml53 => ((r51 = false → K (-1) mi52 ml53) ∧ (r51 = true → wI l M_X12_cellOf d [.ref h, .int 27, .int (x2 - x2 / 10 * 10)] kd mr mi52 ml53 (fun r55 mi56 ml57 => K r55 mi56 ml57))))))) ∧ (r1 = false → K (-1) mi2 ml3)))) :
    wI l M_X12_city (d + 1) [.ref h, .int x1, .int x2] kd mr mi ml K := by
  show wp l M_X12_city (d + 1) 0 0 0 [some (.ref h), some (.int x1), some (.int x2), none] [] 0 0 kd mi ml mr _
  refine wp_aload_n (pc := 0) dX12_city_0 rfl ?_
  refine wp_iconst (v := 0) (pc := 1) dX12_city_1 (by decide) ?_
  refine wp_putI (pc := 2) dX12_city_2 fl_X12_107 rfl rfl (TX12s_k th) ?_
  refine wp_aload_n (pc := 5) dX12_city_5 rfl ?_
  refine wp_iload_n (pc := 6) dX12_city_6 rfl ?_
  refine cvB [.int x1] [] (pc := 7) dX12_city_7 ml_X12_346 iv_X12_hand (TX12s_k th) (cl_X12 rfl) rfl rfl (Nat.le_of_ble_eq_true rfl) (Nat.le_of_ble_eq_true rfl) (wB.mono (fun r1 mi2 ml3 F => ?_) F)
  refine b_ne (tgt := 15) (pc := 10) dX12_city_10 (by decide) (fun c4 => ?_) (fun c4 => ?_)
  · have F := F.1 c4
    refine wp_iload_n (pc := 15) dX12_city_15 rfl ?_
    refine wp_bipush (v := 10) (pc := 16) dX12_city_16 (by decide) ?_
    refine wp_irem (pc := 18) dX12_city_18 (by decide) ?_
    refine wp_istore_n (pc := 19) dX12_city_19 (Nat.le_of_ble_eq_true rfl) rfl ?_
    show wp l M_X12_city (d + 1) 0 0 _ [some (.ref h), some (.int x1), some (.int x2), some (.int (x2 - x2 / 10 * 10))] _ 0 0 kd _ _ mr _
    refine wp_iload_n (pc := 20) dX12_city_20 rfl ?_
    refine wp_bipush (v := 10) (pc := 21) dX12_city_21 (by decide) ?_
    refine wp_idiv (pc := 23) dX12_city_23 (by decide) ?_
    by_cases c5 : ((x2 / 10)).toInt < 1 ∨ 5 < ((x2 / 10)).toInt
    · have F := F.1 c5
      refine wp_tableOut (tgt := 165) (pc := 24) dX12_city_24 c5 (by decide) ?_
      refine wp_iload_n (pc := 165) dX12_city_165 rfl ?_
      refine wp_bipush (v := 100) (pc := 166) dX12_city_166 (by decide) ?_
      refine wp_bipush (v := 99) (pc := 168) dX12_city_168 (by decide) ?_
      refine wp_aload_n (pc := 170) dX12_city_170 rfl ?_
      refine wp_getI (pc := 171) dX12_city_171 fl_X12_331 rfl (TX12s_k th) ?_
      refine wp_iadd (pc := 174) dX12_city_174 ?_
      refine csB [.int x2, .int 100, .int (99 + (mi2 h 27))] [] (pc := 175) dX12_city_175 ml_X12_119 st_X12_in rfl rfl (Nat.le_of_ble_eq_true rfl) (Nat.le_of_ble_eq_true rfl) (wB.mono (fun r6 mi7 ml8 F => ?_) F)
      refine b_eq (tgt := 200) (pc := 178) dX12_city_178 (by decide) (fun c9 => ?_) (fun c9 => ?_)
      · have F := F.1 c9
        refine wp_iload_n (pc := 200) dX12_city_200 rfl ?_
        refine wp_iconst (v := 0) (pc := 201) dX12_city_201 (by decide) ?_
        refine wp_iconst (v := 4) (pc := 202) dX12_city_202 (by decide) ?_
        refine csB [.int x2, .int 0, .int 4] [] (pc := 203) dX12_city_203 ml_X12_119 st_X12_in rfl rfl (Nat.le_of_ble_eq_true rfl) (Nat.le_of_ble_eq_true rfl) (wB.mono (fun r10 mi11 ml12 F => ?_) F)
        refine b_eq (tgt := 217) (pc := 206) dX12_city_206 (by decide) (fun c13 => ?_) (fun c13 => ?_)
        · have F := F.1 c13
          refine wp_iconst (v := -1) (pc := 217) dX12_city_217 (by decide) ?_
          exact r_I (pc := 218) dX12_city_218 rfl F
        · have F := F.2 c13
          refine wp_aload_n (pc := 209) dX12_city_209 rfl ?_
          refine wp_iload_n (pc := 210) dX12_city_210 rfl ?_
          refine cvI [.int x2] [] (pc := 211) dX12_city_211 ml_X12_324 iv_X12_of (TX12s_k th) (cl_X12 rfl) rfl rfl (Nat.le_of_ble_eq_true rfl) (Nat.le_of_ble_eq_true rfl) (wI.mono (fun r14 mi15 ml16 F => ?_) F)
          refine wp_goto (tgt := 218) (pc := 214) dX12_city_214 (by decide) ?_
          exact r_I (pc := 218) dX12_city_218 rfl F
      · have F := F.2 c9
        refine wp_aload_n (pc := 181) dX12_city_181 rfl ?_
        refine wp_iload_n (pc := 182) dX12_city_182 rfl ?_
        refine wp_bipush (v := 100) (pc := 183) dX12_city_183 (by decide) ?_
        refine wp_isub (pc := 185) dX12_city_185 ?_
        refine cvB [.int (x2 - 100)] [] (pc := 186) dX12_city_186 ml_X12_343 iv_X12_isWall (TX12s_k th) (cl_X12 rfl) rfl rfl (Nat.le_of_ble_eq_true rfl) (Nat.le_of_ble_eq_true rfl) (wB.mono (fun r17 mi18 ml19 F => ?_) F)
        suffices J20 : ∀ v21 : Int32, v21 = (b2i (decide (r17 = true))) → wp l M_X12_city (d + 1) 0 0 218 [some (.ref h), some (.int x1), some (.int x2), some (.int (x2 - x2 / 10 * 10))] [.int v21] 0 0 kd mi18 ml19 mr _ by
            refine b_eq (tgt := 196) (pc := 189) dX12_city_189 (by decide) (fun c22 => ?_) (fun c22 => ?_)
            · refine wp_iconst (v := 0) (pc := 196) dX12_city_196 (by decide) ?_
              refine wp_goto (tgt := 218) (pc := 197) dX12_city_197 (by decide) ?_
              exact J20 _ (by simp only [c22, if_true, if_false, decide_true, decide_false, Bool.not_true, Bool.not_false, Bool.true_and, Bool.false_and, Bool.true_or, Bool.false_or, b2i_t, b2i_f, ite_true, ite_false, not_true_eq_false, not_false_eq_true, reduceCtorEq, decide_eq_true_eq])
            · refine wp_iconst (v := 1) (pc := 192) dX12_city_192 (by decide) ?_
              refine wp_goto (tgt := 218) (pc := 193) dX12_city_193 (by decide) ?_
              exact J20 _ (by simp only [c22, if_true, if_false, decide_true, decide_false, Bool.not_true, Bool.not_false, Bool.true_and, Bool.false_and, Bool.true_or, Bool.false_or, b2i_t, b2i_f, ite_true, ite_false, not_true_eq_false, not_false_eq_true, reduceCtorEq, decide_eq_true_eq])
        intro v21 ev21
        subst ev21
        exact r_I (pc := 218) dX12_city_218 rfl F
    have c5 : ((x2 / 10)).toInt = 1 ∨ ((x2 / 10)).toInt = 2 ∨ ((x2 / 10)).toInt = 3 ∨ ((x2 / 10)).toInt = 4 ∨ ((x2 / 10)).toInt = 5 := by omega
    have F := F.2
    rcases c5 with c5 | c5 | c5 | c5 | c5
    · have F := F.1 c5
      refine wp_tableIn (tgt := 60) (pc := 24) dX12_city_24 c5 (by decide) (by decide) rfl (by decide) ?_
      refine wp_iload_n (pc := 60) dX12_city_60 rfl ?_
      refine wp_bipush (v := 10) (pc := 61) dX12_city_61 (by decide) ?_
      refine wp_bipush (v := 13) (pc := 63) dX12_city_63 (by decide) ?_
      refine csB [.int x2, .int 10, .int 13] [] (pc := 65) dX12_city_65 ml_X12_119 st_X12_in rfl rfl (Nat.le_of_ble_eq_true rfl) (Nat.le_of_ble_eq_true rfl) (wB.mono (fun r23 mi24 ml25 F => ?_) F)
      refine b_eq (tgt := 81) (pc := 68) dX12_city_68 (by decide) (fun c26 => ?_) (fun c26 => ?_)
      · have F := F.1 c26
        refine wp_iconst (v := -1) (pc := 81) dX12_city_81 (by decide) ?_
        exact r_I (pc := 82) dX12_city_82 rfl F
      · have F := F.2 c26
        refine wp_aload_n (pc := 71) dX12_city_71 rfl ?_
        refine wp_iconst (v := 5) (pc := 72) dX12_city_72 (by decide) ?_
        refine wp_iload_n (pc := 73) dX12_city_73 rfl ?_
        refine wp_iadd (pc := 74) dX12_city_74 ?_
        refine cvI [.int (5 + (x2 - x2 / 10 * 10))] [] (pc := 75) dX12_city_75 ml_X12_324 iv_X12_of (TX12s_k th) (cl_X12 rfl) rfl rfl (Nat.le_of_ble_eq_true rfl) (Nat.le_of_ble_eq_true rfl) (wI.mono (fun r27 mi28 ml29 F => ?_) F)
        refine wp_goto (tgt := 82) (pc := 78) dX12_city_78 (by decide) ?_
        exact r_I (pc := 82) dX12_city_82 rfl F
    · have F := F.2.1 c5
      refine wp_tableIn (tgt := 83) (pc := 24) dX12_city_24 c5 (by decide) (by decide) rfl (by decide) ?_
      refine wp_aload_n (pc := 83) dX12_city_83 rfl ?_
      refine wp_iload_n (pc := 84) dX12_city_84 rfl ?_
      refine cvB [.int (x2 - x2 / 10 * 10)] [] (pc := 85) dX12_city_85 ml_X12_349 iv_X12_isPlayer (TX12s_k th) (cl_X12 rfl) rfl rfl (Nat.le_of_ble_eq_true rfl) (Nat.le_of_ble_eq_true rfl) (wB.mono (fun r30 mi31 ml32 F => ?_) F)
      refine b_eq (tgt := 102) (pc := 88) dX12_city_88 (by decide) (fun c33 => ?_) (fun c33 => ?_)
      · have F := F.1 c33
        refine wp_iconst (v := -1) (pc := 102) dX12_city_102 (by decide) ?_
        exact r_I (pc := 103) dX12_city_103 rfl F
      · have F := F.2 c33
        refine wp_aload_n (pc := 91) dX12_city_91 rfl ?_
        refine wp_bipush (v := 9) (pc := 92) dX12_city_92 (by decide) ?_
        refine wp_iload_n (pc := 94) dX12_city_94 rfl ?_
        refine wp_iadd (pc := 95) dX12_city_95 ?_
        refine cvI [.int (9 + (x2 - x2 / 10 * 10))] [] (pc := 96) dX12_city_96 ml_X12_324 iv_X12_of (TX12s_k th) (cl_X12 rfl) rfl rfl (Nat.le_of_ble_eq_true rfl) (Nat.le_of_ble_eq_true rfl) (wI.mono (fun r34 mi35 ml36 F => ?_) F)
        refine wp_goto (tgt := 103) (pc := 99) dX12_city_99 (by decide) ?_
        exact r_I (pc := 103) dX12_city_103 rfl F
    · have F := F.2.2.1 c5
      refine wp_tableIn (tgt := 104) (pc := 24) dX12_city_24 c5 (by decide) (by decide) rfl (by decide) ?_
      refine wp_aload_n (pc := 104) dX12_city_104 rfl ?_
      refine wp_iload_n (pc := 105) dX12_city_105 rfl ?_
      refine cvB [.int (x2 - x2 / 10 * 10)] [] (pc := 106) dX12_city_106 ml_X12_349 iv_X12_isPlayer (TX12s_k th) (cl_X12 rfl) rfl rfl (Nat.le_of_ble_eq_true rfl) (Nat.le_of_ble_eq_true rfl) (wB.mono (fun r37 mi38 ml39 F => ?_) F)
      refine b_eq (tgt := 122) (pc := 109) dX12_city_109 (by decide) (fun c40 => ?_) (fun c40 => ?_)
      · have F := F.1 c40
        refine wp_iconst (v := -1) (pc := 122) dX12_city_122 (by decide) ?_
        exact r_I (pc := 123) dX12_city_123 rfl F
      · have F := F.2 c40
        refine wp_aload_n (pc := 112) dX12_city_112 rfl ?_
        refine wp_bipush (v := 9) (pc := 113) dX12_city_113 (by decide) ?_
        refine wp_iload_n (pc := 115) dX12_city_115 rfl ?_
        refine cvI [.int 9, .int (x2 - x2 / 10 * 10)] [] (pc := 116) dX12_city_116 ml_X12_352 iv_X12_cellOf (TX12s_k th) (cl_X12 rfl) rfl rfl (Nat.le_of_ble_eq_true rfl) (Nat.le_of_ble_eq_true rfl) (wI.mono (fun r41 mi42 ml43 F => ?_) F)
        refine wp_goto (tgt := 123) (pc := 119) dX12_city_119 (by decide) ?_
        exact r_I (pc := 123) dX12_city_123 rfl F
    · have F := F.2.2.2.1 c5
      refine wp_tableIn (tgt := 124) (pc := 24) dX12_city_24 c5 (by decide) (by decide) rfl (by decide) ?_
      refine wp_aload_n (pc := 124) dX12_city_124 rfl ?_
      refine wp_iload_n (pc := 125) dX12_city_125 rfl ?_
      refine cvB [.int (x2 - x2 / 10 * 10)] [] (pc := 126) dX12_city_126 ml_X12_355 iv_X12_isPerson (TX12s_k th) (cl_X12 rfl) rfl rfl (Nat.le_of_ble_eq_true rfl) (Nat.le_of_ble_eq_true rfl) (wB.mono (fun r44 mi45 ml46 F => ?_) F)
      refine b_eq (tgt := 143) (pc := 129) dX12_city_129 (by decide) (fun c47 => ?_) (fun c47 => ?_)
      · have F := F.1 c47
        refine wp_iconst (v := -1) (pc := 143) dX12_city_143 (by decide) ?_
        exact r_I (pc := 144) dX12_city_144 rfl F
      · have F := F.2 c47
        refine wp_aload_n (pc := 132) dX12_city_132 rfl ?_
        refine wp_bipush (v := 27) (pc := 133) dX12_city_133 (by decide) ?_
        refine wp_iload_n (pc := 135) dX12_city_135 rfl ?_
        refine wp_iadd (pc := 136) dX12_city_136 ?_
        refine cvI [.int (27 + (x2 - x2 / 10 * 10))] [] (pc := 137) dX12_city_137 ml_X12_324 iv_X12_of (TX12s_k th) (cl_X12 rfl) rfl rfl (Nat.le_of_ble_eq_true rfl) (Nat.le_of_ble_eq_true rfl) (wI.mono (fun r48 mi49 ml50 F => ?_) F)
        refine wp_goto (tgt := 144) (pc := 140) dX12_city_140 (by decide) ?_
        exact r_I (pc := 144) dX12_city_144 rfl F
    · have F := F.2.2.2.2 c5
      refine wp_tableIn (tgt := 145) (pc := 24) dX12_city_24 c5 (by decide) (by decide) rfl (by decide) ?_
      refine wp_aload_n (pc := 145) dX12_city_145 rfl ?_
      refine wp_iload_n (pc := 146) dX12_city_146 rfl ?_
      refine cvB [.int (x2 - x2 / 10 * 10)] [] (pc := 147) dX12_city_147 ml_X12_355 iv_X12_isPerson (TX12s_k th) (cl_X12 rfl) rfl rfl (Nat.le_of_ble_eq_true rfl) (Nat.le_of_ble_eq_true rfl) (wB.mono (fun r51 mi52 ml53 F => ?_) F)
      refine b_eq (tgt := 163) (pc := 150) dX12_city_150 (by decide) (fun c54 => ?_) (fun c54 => ?_)
      · have F := F.1 c54
        refine wp_iconst (v := -1) (pc := 163) dX12_city_163 (by decide) ?_
        exact r_I (pc := 164) dX12_city_164 rfl F
      · have F := F.2 c54
        refine wp_aload_n (pc := 153) dX12_city_153 rfl ?_
        refine wp_bipush (v := 27) (pc := 154) dX12_city_154 (by decide) ?_
        refine wp_iload_n (pc := 156) dX12_city_156 rfl ?_
        refine cvI [.int 27, .int (x2 - x2 / 10 * 10)] [] (pc := 157) dX12_city_157 ml_X12_352 iv_X12_cellOf (TX12s_k th) (cl_X12 rfl) rfl rfl (Nat.le_of_ble_eq_true rfl) (Nat.le_of_ble_eq_true rfl) (wI.mono (fun r55 mi56 ml57 F => ?_) F)
        refine wp_goto (tgt := 164) (pc := 160) dX12_city_160 (by decide) ?_
        exact r_I (pc := 164) dX12_city_164 rfl F
  · have F := F.2 c4
    refine wp_iconst (v := -1) (pc := 13) dX12_city_13 (by decide) ?_
    exact r_I (pc := 14) dX12_city_14 rfl F
/-- hand(I)Z -/
theorem w_X12_hand {l : Launch} {d : Nat} {kd : pm_K} {mr : pm_R} {h : Nat} {x1 : Int32} {mi : pm_I} {ml : pm_L} {K : Bool → pm_I → pm_L → Prop} (th : TX12s kd mr h)
    (F : wB l M_X12_is d [.ref h, .int 0, .int x1] kd mr mi ml (fun r1 mi2 ml3 => ((r1 = true → wI l M_X12_of d [.ref h, .int 0] kd mr (pm_up mi2 h 25 x1) ml3 (fun r5 mi6 ml7 => wI l M_X12_of d [.ref h, .int 1] kd mr (pm_up mi6 h 26 r5) ml7 (fun r8 mi9 ml10 => wI l M_X12_of d [.ref h, .int 3] kd mr (pm_up mi9 h 27 (r5 * r8)) ml10 (fun r11 mi12 ml13 => wI l M_X12_of d [.ref h, .int 4] kd mr (pm_up mi12 h 28 r11) ml13 (fun r14 mi15 ml16 => K true (pm_up mi15 h 29 r14) ml16))))) ∧ (r1 = false → K false mi2 ml3)))) :
    wB l M_X12_hand (d + 1) [.ref h, .int x1] kd mr mi ml K := by
  show wp l M_X12_hand (d + 1) 0 0 0 [some (.ref h), some (.int x1)] [] 0 0 kd mi ml mr _
  refine wp_aload_n (pc := 0) dX12_hand_0 rfl ?_
  refine wp_iconst (v := 0) (pc := 1) dX12_hand_1 (by decide) ?_
  refine wp_iload_n (pc := 2) dX12_hand_2 rfl ?_
  refine cvB [.int 0, .int x1] [] (pc := 3) dX12_hand_3 ml_X12_312 iv_X12_is (TX12s_k th) (cl_X12 rfl) rfl rfl (Nat.le_of_ble_eq_true rfl) (Nat.le_of_ble_eq_true rfl) (wB.mono (fun r1 mi2 ml3 F => ?_) F)
  refine b_ne (tgt := 11) (pc := 6) dX12_hand_6 (by decide) (fun c4 => ?_) (fun c4 => ?_)
  · have F := F.1 c4
    refine wp_aload_n (pc := 11) dX12_hand_11 rfl ?_
    refine wp_iload_n (pc := 12) dX12_hand_12 rfl ?_
    refine wp_putI (pc := 13) dX12_hand_13 fl_X12_321 rfl rfl (TX12s_k th) ?_
    refine wp_aload_n (pc := 16) dX12_hand_16 rfl ?_
    refine wp_aload_n (pc := 17) dX12_hand_17 rfl ?_
    refine wp_iconst (v := 0) (pc := 18) dX12_hand_18 (by decide) ?_
    refine cvI [.int 0] [.ref h] (pc := 19) dX12_hand_19 ml_X12_324 iv_X12_of (TX12s_k th) (cl_X12 rfl) rfl rfl (Nat.le_of_ble_eq_true rfl) (Nat.le_of_ble_eq_true rfl) (wI.mono (fun r5 mi6 ml7 F => ?_) F)
    refine wp_putI (pc := 22) dX12_hand_22 fl_X12_328 rfl rfl (TX12s_k th) ?_
    refine wp_aload_n (pc := 25) dX12_hand_25 rfl ?_
    refine wp_aload_n (pc := 26) dX12_hand_26 rfl ?_
    refine wp_getI (pc := 27) dX12_hand_27 fl_X12_328 rfl (TX12s_k th) ?_
    refine t_I (show ((pm_up mi6 h 26 r5) h 26) = r5 from pm_up_s _ _ _ _) ?_
    refine wp_aload_n (pc := 30) dX12_hand_30 rfl ?_
    refine wp_iconst (v := 1) (pc := 31) dX12_hand_31 (by decide) ?_
    refine cvI [.int 1] [.int r5, .ref h] (pc := 32) dX12_hand_32 ml_X12_324 iv_X12_of (TX12s_k th) (cl_X12 rfl) rfl rfl (Nat.le_of_ble_eq_true rfl) (Nat.le_of_ble_eq_true rfl) (wI.mono (fun r8 mi9 ml10 F => ?_) F)
    refine wp_imul (pc := 35) dX12_hand_35 ?_
    refine wp_putI (pc := 36) dX12_hand_36 fl_X12_331 rfl rfl (TX12s_k th) ?_
    refine wp_aload_n (pc := 39) dX12_hand_39 rfl ?_
    refine wp_aload_n (pc := 40) dX12_hand_40 rfl ?_
    refine wp_iconst (v := 3) (pc := 41) dX12_hand_41 (by decide) ?_
    refine cvI [.int 3] [.ref h] (pc := 42) dX12_hand_42 ml_X12_324 iv_X12_of (TX12s_k th) (cl_X12 rfl) rfl rfl (Nat.le_of_ble_eq_true rfl) (Nat.le_of_ble_eq_true rfl) (wI.mono (fun r11 mi12 ml13 F => ?_) F)
    refine wp_putI (pc := 45) dX12_hand_45 fl_X12_334 rfl rfl (TX12s_k th) ?_
    refine wp_aload_n (pc := 48) dX12_hand_48 rfl ?_
    refine wp_aload_n (pc := 49) dX12_hand_49 rfl ?_
    refine wp_iconst (v := 4) (pc := 50) dX12_hand_50 (by decide) ?_
    refine cvI [.int 4] [.ref h] (pc := 51) dX12_hand_51 ml_X12_324 iv_X12_of (TX12s_k th) (cl_X12 rfl) rfl rfl (Nat.le_of_ble_eq_true rfl) (Nat.le_of_ble_eq_true rfl) (wI.mono (fun r14 mi15 ml16 F => ?_) F)
    refine wp_putI (pc := 54) dX12_hand_54 fl_X12_337 rfl rfl (TX12s_k th) ?_
    refine wp_iconst (v := 1) (pc := 57) dX12_hand_57 (by decide) ?_
    exact r_Bx (pc := 58) dX12_hand_58 rfl rfl F
  · have F := F.2 c4
    refine wp_iconst (v := 0) (pc := 9) dX12_hand_9 (by decide) ?_
    exact r_Bx (pc := 10) dX12_hand_10 rfl rfl F
/-- of(I)I -/
theorem w_X12_of {l : Launch} {d : Nat} {kd : pm_K} {mr : pm_R} {h : Nat} {x1 : Int32} {mi : pm_I} {ml : pm_L} {K : Int32 → pm_I → pm_L → Prop} (th : TX12s kd mr h)
    (F : vp_in ((53 * (mi h 25)) + x1) 424 ∧ K (mi (h + 6) (Int32.toNatClampNeg ((53 * (mi h 25)) + x1))) mi ml) :
    wI l M_X12_of d [.ref h, .int x1] kd mr mi ml K := by
  show wp l M_X12_of d 0 0 0 [some (.ref h), some (.int x1)] [] 0 0 kd mi ml mr _
  refine wp_aload_n (pc := 0) dX12_of_0 rfl ?_
  refine wp_getR (pc := 1) dX12_of_1 fl_X12_26 rfl (TX12s_k th) (TX12s_r6 th) ?_
  refine wp_bipush (v := 53) (pc := 4) dX12_of_4 (by decide) ?_
  refine wp_aload_n (pc := 6) dX12_of_6 rfl ?_
  refine wp_getI (pc := 7) dX12_of_7 fl_X12_321 rfl (TX12s_k th) ?_
  refine wp_imul (pc := 10) dX12_of_10 ?_
  refine wp_iload_n (pc := 11) dX12_of_11 rfl ?_
  refine wp_iadd (pc := 12) dX12_of_12 ?_
  refine wp_iald (pc := 13) dX12_of_13 (TX12s_a6 th) F.1 ?_
  have F := F.2
  exact r_I (pc := 14) dX12_of_14 rfl F
/-- isPlayer(I)Z -/
theorem w_X12_isPlayer {l : Launch} {d : Nat} {kd : pm_K} {mr : pm_R} {h : Nat} {x1 : Int32} {mi : pm_I} {ml : pm_L} {K : Bool → pm_I → pm_L → Prop} (th : TX12s kd mr h)
    (F : wB l M_X12_in d [.int x1, .int 0, .int ((mi h 28) - 1)] kd mr mi ml (fun r1 mi2 ml3 => K r1 mi2 ml3)) :
    wB l M_X12_isPlayer (d + 1) [.ref h, .int x1] kd mr mi ml K := by
  show wp l M_X12_isPlayer (d + 1) 0 0 0 [some (.ref h), some (.int x1)] [] 0 0 kd mi ml mr _
  refine wp_iload_n (pc := 0) dX12_isPlayer_0 rfl ?_
  refine wp_iconst (v := 0) (pc := 1) dX12_isPlayer_1 (by decide) ?_
  refine wp_aload_n (pc := 2) dX12_isPlayer_2 rfl ?_
  refine wp_getI (pc := 3) dX12_isPlayer_3 fl_X12_334 rfl (TX12s_k th) ?_
  refine wp_iconst (v := 1) (pc := 6) dX12_isPlayer_6 (by decide) ?_
  refine wp_isub (pc := 7) dX12_isPlayer_7 ?_
  refine csB [.int x1, .int 0, .int ((mi h 28) - 1)] [] (pc := 8) dX12_isPlayer_8 ml_X12_119 st_X12_in rfl rfl (Nat.le_of_ble_eq_true rfl) (Nat.le_of_ble_eq_true rfl) (wB.mono (fun r1 mi2 ml3 F => ?_) F)
  exact r_B (pc := 11) dX12_isPlayer_11 rfl F
/-- cellOf(II)I -/
theorem w_X12_cellOf {l : Launch} {d : Nat} {kd : pm_K} {mr : pm_R} {h : Nat} {x1 : Int32} {x2 : Int32} {mi : pm_I} {ml : pm_L} {K : Int32 → pm_I → pm_L → Prop} (th : TX12s kd mr h)
    (F : wI l M_X12_of d [.ref h, .int ((x1 + 12) + x2)] kd mr mi ml (fun r1 mi2 ml3 => wI l M_X12_of d [.ref h, .int ((x1 + 6) + x2)] kd mr mi2 ml3 (fun r4 mi5 ml6 => K (((mi h 26) * r1) + r4) mi5 ml6))) :
    wI l M_X12_cellOf (d + 1) [.ref h, .int x1, .int x2] kd mr mi ml K := by
  show wp l M_X12_cellOf (d + 1) 0 0 0 [some (.ref h), some (.int x1), some (.int x2)] [] 0 0 kd mi ml mr _
  refine wp_aload_n (pc := 0) dX12_cellOf_0 rfl ?_
  refine wp_getI (pc := 1) dX12_cellOf_1 fl_X12_328 rfl (TX12s_k th) ?_
  refine wp_aload_n (pc := 4) dX12_cellOf_4 rfl ?_
  refine wp_iload_n (pc := 5) dX12_cellOf_5 rfl ?_
  refine wp_bipush (v := 12) (pc := 6) dX12_cellOf_6 (by decide) ?_
  refine wp_iadd (pc := 8) dX12_cellOf_8 ?_
  refine wp_iload_n (pc := 9) dX12_cellOf_9 rfl ?_
  refine wp_iadd (pc := 10) dX12_cellOf_10 ?_
  refine cvI [.int ((x1 + 12) + x2)] [.int (mi h 26)] (pc := 11) dX12_cellOf_11 ml_X12_324 iv_X12_of (TX12s_k th) (cl_X12 rfl) rfl rfl (Nat.le_of_ble_eq_true rfl) (Nat.le_of_ble_eq_true rfl) (wI.mono (fun r1 mi2 ml3 F => ?_) F)
  refine wp_imul (pc := 14) dX12_cellOf_14 ?_
  refine wp_aload_n (pc := 15) dX12_cellOf_15 rfl ?_
  refine wp_iload_n (pc := 16) dX12_cellOf_16 rfl ?_
  refine wp_bipush (v := 6) (pc := 17) dX12_cellOf_17 (by decide) ?_
  refine wp_iadd (pc := 19) dX12_cellOf_19 ?_
  refine wp_iload_n (pc := 20) dX12_cellOf_20 rfl ?_
  refine wp_iadd (pc := 21) dX12_cellOf_21 ?_
  refine cvI [.int ((x1 + 6) + x2)] [.int ((mi h 26) * r1)] (pc := 22) dX12_cellOf_22 ml_X12_324 iv_X12_of (TX12s_k th) (cl_X12 rfl) rfl rfl (Nat.le_of_ble_eq_true rfl) (Nat.le_of_ble_eq_true rfl) (wI.mono (fun r4 mi5 ml6 F => ?_) F)
  refine wp_iadd (pc := 25) dX12_cellOf_25 ?_
  exact r_I (pc := 26) dX12_cellOf_26 rfl F
/-- isPerson(I)Z -/
theorem w_X12_isPerson {l : Launch} {d : Nat} {kd : pm_K} {mr : pm_R} {h : Nat} {x1 : Int32} {mi : pm_I} {ml : pm_L} {K : Bool → pm_I → pm_L → Prop} (th : TX12s kd mr h)
    (F : wB l M_X12_in d [.int x1, .int 0, .int ((mi h 29) - 1)] kd mr mi ml (fun r1 mi2 ml3 => K r1 mi2 ml3)) :
    wB l M_X12_isPerson (d + 1) [.ref h, .int x1] kd mr mi ml K := by
  show wp l M_X12_isPerson (d + 1) 0 0 0 [some (.ref h), some (.int x1)] [] 0 0 kd mi ml mr _
  refine wp_iload_n (pc := 0) dX12_isPerson_0 rfl ?_
  refine wp_iconst (v := 0) (pc := 1) dX12_isPerson_1 (by decide) ?_
  refine wp_aload_n (pc := 2) dX12_isPerson_2 rfl ?_
  refine wp_getI (pc := 3) dX12_isPerson_3 fl_X12_337 rfl (TX12s_k th) ?_
  refine wp_iconst (v := 1) (pc := 6) dX12_isPerson_6 (by decide) ?_
  refine wp_isub (pc := 7) dX12_isPerson_7 ?_
  refine csB [.int x1, .int 0, .int ((mi h 29) - 1)] [] (pc := 8) dX12_isPerson_8 ml_X12_119 st_X12_in rfl rfl (Nat.le_of_ble_eq_true rfl) (Nat.le_of_ble_eq_true rfl) (wB.mono (fun r1 mi2 ml3 F => ?_) F)
  exact r_B (pc := 11) dX12_isPerson_11 rfl F
/-- isWall(I)Z -/
theorem w_X12_isWall {l : Launch} {d : Nat} {kd : pm_K} {mr : pm_R} {h : Nat} {x1 : Int32} {mi : pm_I} {ml : pm_L} {K : Bool → pm_I → pm_L → Prop} (th : TX12s kd mr h)
    (F : ¬ (mi h 26) = 0 ∧ wI l M_X12_of d [.ref h, .int (45 + (x1 / (mi h 26)))] kd mr mi ml (fun r1 mi2 ml3 => ¬ (mi2 h 26) = 0 ∧ wB l M_X12_has d [.int r1, .int (x1 - x1 / (mi2 h 26) * (mi2 h 26))] kd mr mi2 ml3 (fun r4 mi5 ml6 => K r4 mi5 ml6))) :
    wB l M_X12_isWall (d + 1) [.ref h, .int x1] kd mr mi ml K := by
  show wp l M_X12_isWall (d + 1) 0 0 0 [some (.ref h), some (.int x1)] [] 0 0 kd mi ml mr _
  refine wp_aload_n (pc := 0) dX12_isWall_0 rfl ?_
  refine wp_bipush (v := 45) (pc := 1) dX12_isWall_1 (by decide) ?_
  refine wp_iload_n (pc := 3) dX12_isWall_3 rfl ?_
  refine wp_aload_n (pc := 4) dX12_isWall_4 rfl ?_
  refine wp_getI (pc := 5) dX12_isWall_5 fl_X12_328 rfl (TX12s_k th) ?_
  refine wp_idiv (pc := 8) dX12_isWall_8 F.1 ?_
  have F := F.2
  refine wp_iadd (pc := 9) dX12_isWall_9 ?_
  refine cvI [.int (45 + (x1 / (mi h 26)))] [] (pc := 10) dX12_isWall_10 ml_X12_324 iv_X12_of (TX12s_k th) (cl_X12 rfl) rfl rfl (Nat.le_of_ble_eq_true rfl) (Nat.le_of_ble_eq_true rfl) (wI.mono (fun r1 mi2 ml3 F => ?_) F)
  refine wp_iload_n (pc := 13) dX12_isWall_13 rfl ?_
  refine wp_aload_n (pc := 14) dX12_isWall_14 rfl ?_
  refine wp_getI (pc := 15) dX12_isWall_15 fl_X12_328 rfl (TX12s_k th) ?_
  refine wp_irem (pc := 18) dX12_isWall_18 F.1 ?_
  have F := F.2
  refine csB [.int r1, .int (x1 - x1 / (mi2 h 26) * (mi2 h 26))] [] (pc := 19) dX12_isWall_19 ml_X12_111 st_X12_has rfl rfl (Nat.le_of_ble_eq_true rfl) (Nat.le_of_ble_eq_true rfl) (wB.mono (fun r4 mi5 ml6 F => ?_) F)
  exact r_B (pc := 22) dX12_isWall_22 rfl F
/-- deed(III)I -/
theorem w_X12_deed {l : Launch} {d : Nat} {kd : pm_K} {mr : pm_R} {h : Nat} {x1 : Int32} {x2 : Int32} {x3 : Int32} {mi : pm_I} {ml : pm_L} {K : Int32 → pm_I → pm_L → Prop} (th : TX12s kd mr h)
    (F : wB l M_X12_hasNight d [.ref h, .int x1] kd mr (pm_up mi h 0 0) ml (fun r1 mi2 ml3 => ((r1 = true → ((¬ x2 = (-1) → wI l M_X12_deeds d [.ref h] kd mr mi2 ml3 (fun r6 mi7 ml8 => wB l M_X12_in d [.int x2, .int 0, .int (r6 - 1)] kd mr mi7 ml8 (fun r9 mi10 ml11 => ((r9 = false → K (-2) mi10 ml11) ∧ (r9 = true → wB l M_X12_in d [.int x3, .int 0, .int 2] kd mr mi10 ml11 (fun r13 mi14 ml15 => ((r13 = false → K (-2) mi14 ml15) ∧ (r13 = true → wI l M_X12_deedOf d [.ref h, .int x2, .int x3] kd mr mi14 ml15 (fun r17 mi18 ml19 => K r17 mi18 ml19))))))))) ∧ (x2 = (-1) → ((¬ x3 = 0 → K (-2) mi2 ml3) ∧ (x3 = 0 → wI l M_X12_deeds d [.ref h] kd mr mi2 ml3 (fun r21 mi22 ml23 => K r21 mi22 ml23)))))) ∧ (r1 = false → K (-2) mi2 ml3)))) :
    wI l M_X12_deed (d + 1) [.ref h, .int x1, .int x2, .int x3] kd mr mi ml K := by
  show wp l M_X12_deed (d + 1) 0 0 0 [some (.ref h), some (.int x1), some (.int x2), some (.int x3)] [] 0 0 kd mi ml mr _
  refine wp_aload_n (pc := 0) dX12_deed_0 rfl ?_
  refine wp_iconst (v := 0) (pc := 1) dX12_deed_1 (by decide) ?_
  refine wp_putI (pc := 2) dX12_deed_2 fl_X12_107 rfl rfl (TX12s_k th) ?_
  refine wp_aload_n (pc := 5) dX12_deed_5 rfl ?_
  refine wp_iload_n (pc := 6) dX12_deed_6 rfl ?_
  refine cvB [.int x1] [] (pc := 7) dX12_deed_7 ml_X12_361 iv_X12_hasNight (TX12s_k th) (cl_X12 rfl) rfl rfl (Nat.le_of_ble_eq_true rfl) (Nat.le_of_ble_eq_true rfl) (wB.mono (fun r1 mi2 ml3 F => ?_) F)
  refine b_ne (tgt := 16) (pc := 10) dX12_deed_10 (by decide) (fun c4 => ?_) (fun c4 => ?_)
  · have F := F.1 c4
    refine wp_iload_n (pc := 16) dX12_deed_16 rfl ?_
    refine wp_iconst (v := -1) (pc := 17) dX12_deed_17 (by decide) ?_
    refine wp_icmp_ne (tgt := 35) (pc := 18) dX12_deed_18 (by decide) (fun c5 => ?_) (fun c5 => ?_)
    · have F := F.1 c5
      refine wp_iload_n (pc := 35) dX12_deed_35 rfl ?_
      refine wp_iconst (v := 0) (pc := 36) dX12_deed_36 (by decide) ?_
      refine wp_aload_n (pc := 37) dX12_deed_37 rfl ?_
      refine cvI [] [.int 0, .int x2] (pc := 38) dX12_deed_38 ml_X12_364 iv_X12_deeds (TX12s_k th) (cl_X12 rfl) rfl rfl (Nat.le_of_ble_eq_true rfl) (Nat.le_of_ble_eq_true rfl) (wI.mono (fun r6 mi7 ml8 F => ?_) F)
      refine wp_iconst (v := 1) (pc := 41) dX12_deed_41 (by decide) ?_
      refine wp_isub (pc := 42) dX12_deed_42 ?_
      refine csB [.int x2, .int 0, .int (r6 - 1)] [] (pc := 43) dX12_deed_43 ml_X12_119 st_X12_in rfl rfl (Nat.le_of_ble_eq_true rfl) (Nat.le_of_ble_eq_true rfl) (wB.mono (fun r9 mi10 ml11 F => ?_) F)
      refine b_eq (tgt := 67) (pc := 46) dX12_deed_46 (by decide) (fun c12 => ?_) (fun c12 => ?_)
      · have F := F.1 c12
        refine wp_bipush (v := -2) (pc := 67) dX12_deed_67 (by decide) ?_
        exact r_I (pc := 69) dX12_deed_69 rfl F
      · have F := F.2 c12
        refine wp_iload_n (pc := 49) dX12_deed_49 rfl ?_
        refine wp_iconst (v := 0) (pc := 50) dX12_deed_50 (by decide) ?_
        refine wp_iconst (v := 2) (pc := 51) dX12_deed_51 (by decide) ?_
        refine csB [.int x3, .int 0, .int 2] [] (pc := 52) dX12_deed_52 ml_X12_119 st_X12_in rfl rfl (Nat.le_of_ble_eq_true rfl) (Nat.le_of_ble_eq_true rfl) (wB.mono (fun r13 mi14 ml15 F => ?_) F)
        refine b_eq (tgt := 67) (pc := 55) dX12_deed_55 (by decide) (fun c16 => ?_) (fun c16 => ?_)
        · have F := F.1 c16
          refine wp_bipush (v := -2) (pc := 67) dX12_deed_67 (by decide) ?_
          exact r_I (pc := 69) dX12_deed_69 rfl F
        · have F := F.2 c16
          refine wp_aload_n (pc := 58) dX12_deed_58 rfl ?_
          refine wp_iload_n (pc := 59) dX12_deed_59 rfl ?_
          refine wp_iload_n (pc := 60) dX12_deed_60 rfl ?_
          refine cvI [.int x2, .int x3] [] (pc := 61) dX12_deed_61 ml_X12_367 iv_X12_deedOf (TX12s_k th) (cl_X12 rfl) rfl rfl (Nat.le_of_ble_eq_true rfl) (Nat.le_of_ble_eq_true rfl) (wI.mono (fun r17 mi18 ml19 F => ?_) F)
          refine wp_goto (tgt := 69) (pc := 64) dX12_deed_64 (by decide) ?_
          exact r_I (pc := 69) dX12_deed_69 rfl F
    · have F := F.2 c5
      refine wp_iload_n (pc := 21) dX12_deed_21 rfl ?_
      refine wp_if_ne (tgt := 32) (pc := 22) dX12_deed_22 (by decide) (fun c20 => ?_) (fun c20 => ?_)
      · have F := F.1 c20
        refine wp_bipush (v := -2) (pc := 32) dX12_deed_32 (by decide) ?_
        exact r_I (pc := 34) dX12_deed_34 rfl F
      · have F := F.2 c20
        refine wp_aload_n (pc := 25) dX12_deed_25 rfl ?_
        refine cvI [] [] (pc := 26) dX12_deed_26 ml_X12_364 iv_X12_deeds (TX12s_k th) (cl_X12 rfl) rfl rfl (Nat.le_of_ble_eq_true rfl) (Nat.le_of_ble_eq_true rfl) (wI.mono (fun r21 mi22 ml23 F => ?_) F)
        refine wp_goto (tgt := 34) (pc := 29) dX12_deed_29 (by decide) ?_
        exact r_I (pc := 34) dX12_deed_34 rfl F
  · have F := F.2 c4
    refine wp_bipush (v := -2) (pc := 13) dX12_deed_13 (by decide) ?_
    exact r_I (pc := 15) dX12_deed_15 rfl F
/-- hasNight(I)Z -/
theorem w_X12_hasNight {l : Launch} {d : Nat} {kd : pm_K} {mr : pm_R} {h : Nat} {x1 : Int32} {mi : pm_I} {ml : pm_L} {K : Bool → pm_I → pm_L → Prop} (th : TX12s kd mr h)
    (F : wB l M_X12_is d [.ref h, .int 1, .int x1] kd mr (pm_up mi h 30 x1) ml (fun r1 mi2 ml3 => K r1 mi2 ml3)) :
    wB l M_X12_hasNight (d + 1) [.ref h, .int x1] kd mr mi ml K := by
  show wp l M_X12_hasNight (d + 1) 0 0 0 [some (.ref h), some (.int x1)] [] 0 0 kd mi ml mr _
  refine wp_aload_n (pc := 0) dX12_hasNight_0 rfl ?_
  refine wp_iload_n (pc := 1) dX12_hasNight_1 rfl ?_
  refine wp_putI (pc := 2) dX12_hasNight_2 fl_X12_358 rfl rfl (TX12s_k th) ?_
  refine wp_aload_n (pc := 5) dX12_hasNight_5 rfl ?_
  refine wp_iconst (v := 1) (pc := 6) dX12_hasNight_6 (by decide) ?_
  refine wp_iload_n (pc := 7) dX12_hasNight_7 rfl ?_
  refine cvB [.int 1, .int x1] [] (pc := 8) dX12_hasNight_8 ml_X12_312 iv_X12_is (TX12s_k th) (cl_X12 rfl) rfl rfl (Nat.le_of_ble_eq_true rfl) (Nat.le_of_ble_eq_true rfl) (wB.mono (fun r1 mi2 ml3 F => ?_) F)
  exact r_B (pc := 11) dX12_hasNight_11 rfl F
/-- deeds()I -/
theorem w_X12_deeds {l : Launch} {d : Nat} {kd : pm_K} {mr : pm_R} {h : Nat}  {mi : pm_I} {ml : pm_L} {K : Int32 → pm_I → pm_L → Prop} (th : TX12s kd mr h)
    (F : vp_in (121 * (mi h 30)) 968 ∧ K (mi (h + 7) (Int32.toNatClampNeg (121 * (mi h 30)))) mi ml) :
    wI l M_X12_deeds d [.ref h] kd mr mi ml K := by
  show wp l M_X12_deeds d 0 0 0 [some (.ref h)] [] 0 0 kd mi ml mr _
  refine wp_aload_n (pc := 0) dX12_deeds_0 rfl ?_
  refine wp_getR (pc := 1) dX12_deeds_1 fl_X12_29 rfl (TX12s_k th) (TX12s_r7 th) ?_
  refine wp_bipush (v := 121) (pc := 4) dX12_deeds_4 (by decide) ?_
  refine wp_aload_n (pc := 6) dX12_deeds_6 rfl ?_
  refine wp_getI (pc := 7) dX12_deeds_7 fl_X12_358 rfl (TX12s_k th) ?_
  refine wp_imul (pc := 10) dX12_deeds_10 ?_
  refine wp_iald (pc := 11) dX12_deeds_11 (TX12s_a7 th) F.1 ?_
  have F := F.2
  exact r_I (pc := 12) dX12_deeds_12 rfl F
/-- deedOf(II)I -/
theorem w_X12_deedOf {l : Launch} {d : Nat} {kd : pm_K} {mr : pm_R} {h : Nat} {x1 : Int32} {x2 : Int32} {mi : pm_I} {ml : pm_L} {K : Int32 → pm_I → pm_L → Prop} (th : TX12s kd mr h)
    (F : vp_in ((((121 * (mi h 30)) + 1) + (3 * x1)) + x2) 968 ∧ K (mi (h + 7) (Int32.toNatClampNeg ((((121 * (mi h 30)) + 1) + (3 * x1)) + x2))) mi ml) :
    wI l M_X12_deedOf d [.ref h, .int x1, .int x2] kd mr mi ml K := by
  show wp l M_X12_deedOf d 0 0 0 [some (.ref h), some (.int x1), some (.int x2)] [] 0 0 kd mi ml mr _
  refine wp_aload_n (pc := 0) dX12_deedOf_0 rfl ?_
  refine wp_getR (pc := 1) dX12_deedOf_1 fl_X12_29 rfl (TX12s_k th) (TX12s_r7 th) ?_
  refine wp_bipush (v := 121) (pc := 4) dX12_deedOf_4 (by decide) ?_
  refine wp_aload_n (pc := 6) dX12_deedOf_6 rfl ?_
  refine wp_getI (pc := 7) dX12_deedOf_7 fl_X12_358 rfl (TX12s_k th) ?_
  refine wp_imul (pc := 10) dX12_deedOf_10 ?_
  refine wp_iconst (v := 1) (pc := 11) dX12_deedOf_11 (by decide) ?_
  refine wp_iadd (pc := 12) dX12_deedOf_12 ?_
  refine wp_iconst (v := 3) (pc := 13) dX12_deedOf_13 (by decide) ?_
  refine wp_iload_n (pc := 14) dX12_deedOf_14 rfl ?_
  refine wp_imul (pc := 15) dX12_deedOf_15 ?_
  refine wp_iadd (pc := 16) dX12_deedOf_16 ?_
  refine wp_iload_n (pc := 17) dX12_deedOf_17 rfl ?_
  refine wp_iadd (pc := 18) dX12_deedOf_18 ?_
  refine wp_iald (pc := 19) dX12_deedOf_19 (TX12s_a7 th) F.1 ?_
  have F := F.2
  exact r_I (pc := 20) dX12_deedOf_20 rfl F
/-- stop(II)I -/
theorem w_X12_stop {l : Launch} {d : Nat} {kd : pm_K} {mr : pm_R} {h : Nat} {x1 : Int32} {x2 : Int32} {mi : pm_I} {ml : pm_L} {K : Int32 → pm_I → pm_L → Prop} (th : TX12s kd mr h)
    (F : wB l M_X12_layAll d [.ref h, .int x1, .int x2] kd mr (pm_up mi h 0 0) ml (fun r1 mi2 ml3 => ((r1 = false → K (-1) mi2 ml3) ∧ (r1 = true → wI l M_X12_deeds d [.ref h] kd mr mi2 ml3 (fun r5 mi6 ml7 => wI l M_X12_play d [.ref h, .int r5] kd mr mi6 ml7 (fun r8 mi9 ml10 => K r8 mi9 ml10)))))) :
    wI l M_X12_stop (d + 1) [.ref h, .int x1, .int x2] kd mr mi ml K := by
  show wp l M_X12_stop (d + 1) 0 0 0 [some (.ref h), some (.int x1), some (.int x2)] [] 0 0 kd mi ml mr _
  refine wp_aload_n (pc := 0) dX12_stop_0 rfl ?_
  refine wp_iconst (v := 0) (pc := 1) dX12_stop_1 (by decide) ?_
  refine wp_putI (pc := 2) dX12_stop_2 fl_X12_107 rfl rfl (TX12s_k th) ?_
  refine wp_aload_n (pc := 5) dX12_stop_5 rfl ?_
  refine wp_iload_n (pc := 6) dX12_stop_6 rfl ?_
  refine wp_iload_n (pc := 7) dX12_stop_7 rfl ?_
  refine cvB [.int x1, .int x2] [] (pc := 8) dX12_stop_8 ml_X12_416 iv_X12_layAll (TX12s_k th) (cl_X12 rfl) rfl rfl (Nat.le_of_ble_eq_true rfl) (Nat.le_of_ble_eq_true rfl) (wB.mono (fun r1 mi2 ml3 F => ?_) F)
  refine b_eq (tgt := 25) (pc := 11) dX12_stop_11 (by decide) (fun c4 => ?_) (fun c4 => ?_)
  · have F := F.1 c4
    refine wp_iconst (v := -1) (pc := 25) dX12_stop_25 (by decide) ?_
    exact r_I (pc := 26) dX12_stop_26 rfl F
  · have F := F.2 c4
    refine wp_aload_n (pc := 14) dX12_stop_14 rfl ?_
    refine wp_aload_n (pc := 15) dX12_stop_15 rfl ?_
    refine cvI [] [.ref h] (pc := 16) dX12_stop_16 ml_X12_364 iv_X12_deeds (TX12s_k th) (cl_X12 rfl) rfl rfl (Nat.le_of_ble_eq_true rfl) (Nat.le_of_ble_eq_true rfl) (wI.mono (fun r5 mi6 ml7 F => ?_) F)
    refine cvI [.int r5] [] (pc := 19) dX12_stop_19 ml_X12_419 iv_X12_play (TX12s_k th) (cl_X12 rfl) rfl rfl (Nat.le_of_ble_eq_true rfl) (Nat.le_of_ble_eq_true rfl) (wI.mono (fun r8 mi9 ml10 F => ?_) F)
    refine wp_goto (tgt := 26) (pc := 22) dX12_stop_22 (by decide) ?_
    exact r_I (pc := 26) dX12_stop_26 rfl F
/-- layAll(II)Z -/
theorem w_X12_layAll {l : Launch} {d : Nat} {kd : pm_K} {mr : pm_R} {h : Nat} {x1 : Int32} {x2 : Int32} {mi : pm_I} {ml : pm_L} {K : Bool → pm_I → pm_L → Prop} (th : TX12s kd mr h)
    (F : wB l M_X12_hasNight d [.ref h, .int x2] kd mr mi ml (fun r1 mi2 ml3 => ((r1 = false → K false mi2 ml3) ∧ (r1 = true → wB l M_X12_hand d [.ref h, .int x1] kd mr mi2 ml3 (fun r5 mi6 ml7 => K (decide (r5 = true)) mi6 ml7))))) :
    wB l M_X12_layAll (d + 1) [.ref h, .int x1, .int x2] kd mr mi ml K := by
  show wp l M_X12_layAll (d + 1) 0 0 0 [some (.ref h), some (.int x1), some (.int x2)] [] 0 0 kd mi ml mr _
  refine wp_aload_n (pc := 0) dX12_layAll_0 rfl ?_
  refine wp_iload_n (pc := 1) dX12_layAll_1 rfl ?_
  refine cvB [.int x2] [] (pc := 2) dX12_layAll_2 ml_X12_361 iv_X12_hasNight (TX12s_k th) (cl_X12 rfl) rfl rfl (Nat.le_of_ble_eq_true rfl) (Nat.le_of_ble_eq_true rfl) (wB.mono (fun r1 mi2 ml3 F => ?_) F)
  refine b_eq (tgt := 20) (pc := 5) dX12_layAll_5 (by decide) (fun c4 => ?_) (fun c4 => ?_)
  · have F := F.1 c4
    refine wp_iconst (v := 0) (pc := 20) dX12_layAll_20 (by decide) ?_
    exact r_Bx (pc := 21) dX12_layAll_21 rfl rfl F
  · have F := F.2 c4
    refine wp_aload_n (pc := 8) dX12_layAll_8 rfl ?_
    refine wp_iload_n (pc := 9) dX12_layAll_9 rfl ?_
    refine cvB [.int x1] [] (pc := 10) dX12_layAll_10 ml_X12_346 iv_X12_hand (TX12s_k th) (cl_X12 rfl) rfl rfl (Nat.le_of_ble_eq_true rfl) (Nat.le_of_ble_eq_true rfl) (wB.mono (fun r5 mi6 ml7 F => ?_) F)
    suffices J8 : ∀ v9 : Int32, v9 = (b2i (decide (r5 = true))) → wp l M_X12_layAll (d + 1) 0 0 21 [some (.ref h), some (.int x1), some (.int x2)] [.int v9] 0 0 kd mi6 ml7 mr _ by
        refine b_eq (tgt := 20) (pc := 13) dX12_layAll_13 (by decide) (fun c10 => ?_) (fun c10 => ?_)
        · refine wp_iconst (v := 0) (pc := 20) dX12_layAll_20 (by decide) ?_
          exact J8 _ (by simp only [c10, if_true, if_false, decide_true, decide_false, Bool.not_true, Bool.not_false, Bool.true_and, Bool.false_and, Bool.true_or, Bool.false_or, b2i_t, b2i_f, ite_true, ite_false, not_true_eq_false, not_false_eq_true, reduceCtorEq, decide_eq_true_eq])
        · refine wp_iconst (v := 1) (pc := 16) dX12_layAll_16 (by decide) ?_
          refine wp_goto (tgt := 21) (pc := 17) dX12_layAll_17 (by decide) ?_
          exact J8 _ (by simp only [c10, if_true, if_false, decide_true, decide_false, Bool.not_true, Bool.not_false, Bool.true_and, Bool.false_and, Bool.true_or, Bool.false_or, b2i_t, b2i_f, ite_true, ite_false, not_true_eq_false, not_false_eq_true, reduceCtorEq, decide_eq_true_eq])
    intro v9 ev9
    subst ev9
    exact r_B (pc := 21) dX12_layAll_21 rfl F
def c_X12_play_6 (l : Launch) (d : Nat) (kd : pm_K) (mr : pm_R) (h : Nat) (x1 : Int32) (x2 : Int32) (mi : pm_I) (ml : pm_L) (K : Int32 → pm_I → pm_L → Prop) : Prop := wp l M_X12_play d 0 0 6 [some (.ref h), some (.int x1), some (.int x2)] [] 0 0 kd mi ml mr (qI kd mr K)
theorem w_X12_play_6 {l : Launch} {d : Nat} {kd : pm_K} {mr : pm_R} {h : Nat} {x1 : Int32} {x2 : Int32} {mi : pm_I} {ml : pm_L} {K : Int32 → pm_I → pm_L → Prop} (th : TX12s kd mr h)
    (F : ((x1 ≤ x2 → K x2 mi ml) ∧ (¬ x1 ≤ x2 → wI l M_X12_deedOf d [.ref h, .int x2, .int 0] kd mr mi ml (fun r5 mi6 ml7 => wI l M_X12_deedOf d [.ref h, .int x2, .int 1] kd mr mi6 ml7 (fun r8 mi9 ml10 => wI l M_X12_deedOf d [.ref h, .int x2, .int 2] kd mr mi9 ml10 (fun r11 mi12 ml13 => wB l M_X12_does d [.ref h, .int r5, .int r8, .int r11] kd mr mi12 ml13 (fun r14 mi15 ml16 => ((r14 = false → K x2 mi15 ml16) ∧ (r14 = true → c_X12_play_6 l (d + 1) kd mr h x1 (x2 + 1) mi15 ml16 K))))))))) :
    c_X12_play_6 l (d + 1) kd mr h x1 x2 mi ml K := by
  show wp l M_X12_play (d + 1) 0 0 6 [some (.ref h), some (.int x1), some (.int x2)] [] 0 0 kd mi ml mr _
  refine wp_iload_n (pc := 6) dX12_play_6 rfl ?_
  refine wp_iload_n (pc := 7) dX12_play_7 rfl ?_
  refine wp_icmp_ge (tgt := 42) (pc := 8) dX12_play_8 (by decide) (fun c4 => ?_) (fun c4 => ?_)
  · have F := F.1 c4
    refine wp_iload_n (pc := 42) dX12_play_42 rfl ?_
    exact r_I (pc := 43) dX12_play_43 rfl F
  · have F := F.2 c4
    refine wp_aload_n (pc := 11) dX12_play_11 rfl ?_
    refine wp_aload_n (pc := 12) dX12_play_12 rfl ?_
    refine wp_iload_n (pc := 13) dX12_play_13 rfl ?_
    refine wp_iconst (v := 0) (pc := 14) dX12_play_14 (by decide) ?_
    refine cvI [.int x2, .int 0] [.ref h] (pc := 15) dX12_play_15 ml_X12_367 iv_X12_deedOf (TX12s_k th) (cl_X12 rfl) rfl rfl (Nat.le_of_ble_eq_true rfl) (Nat.le_of_ble_eq_true rfl) (wI.mono (fun r5 mi6 ml7 F => ?_) F)
    refine wp_aload_n (pc := 18) dX12_play_18 rfl ?_
    refine wp_iload_n (pc := 19) dX12_play_19 rfl ?_
    refine wp_iconst (v := 1) (pc := 20) dX12_play_20 (by decide) ?_
    refine cvI [.int x2, .int 1] [.int r5, .ref h] (pc := 21) dX12_play_21 ml_X12_367 iv_X12_deedOf (TX12s_k th) (cl_X12 rfl) rfl rfl (Nat.le_of_ble_eq_true rfl) (Nat.le_of_ble_eq_true rfl) (wI.mono (fun r8 mi9 ml10 F => ?_) F)
    refine wp_aload_n (pc := 24) dX12_play_24 rfl ?_
    refine wp_iload_n (pc := 25) dX12_play_25 rfl ?_
    refine wp_iconst (v := 2) (pc := 26) dX12_play_26 (by decide) ?_
    refine cvI [.int x2, .int 2] [.int r8, .int r5, .ref h] (pc := 27) dX12_play_27 ml_X12_367 iv_X12_deedOf (TX12s_k th) (cl_X12 rfl) rfl rfl (Nat.le_of_ble_eq_true rfl) (Nat.le_of_ble_eq_true rfl) (wI.mono (fun r11 mi12 ml13 F => ?_) F)
    refine cvB [.int r5, .int r8, .int r11] [] (pc := 30) dX12_play_30 ml_X12_413 iv_X12_does (TX12s_k th) (cl_X12 rfl) rfl rfl (Nat.le_of_ble_eq_true rfl) (Nat.le_of_ble_eq_true rfl) (wB.mono (fun r14 mi15 ml16 F => ?_) F)
    refine b_eq (tgt := 42) (pc := 33) dX12_play_33 (by decide) (fun c17 => ?_) (fun c17 => ?_)
    · have F := F.1 c17
      refine wp_iload_n (pc := 42) dX12_play_42 rfl ?_
      exact r_I (pc := 43) dX12_play_43 rfl F
    · have F := F.2 c17
      refine wp_iinc (v := (x2 + 1)) (pc := 36) dX12_play_36 rfl rfl rfl ?_
      show wp l M_X12_play (d + 1) 0 0 _ [some (.ref h), some (.int x1), some (.int (x2 + 1))] _ 0 0 kd _ _ mr _
      refine wp_goto (tgt := 6) (pc := 39) dX12_play_39 (by decide) ?_
      exact wp_less (L' := [some (.ref h), some (.int x1), some (.int (x2 + 1))]) ⟨rfl, ⟨rfl, ⟨rfl, trivial⟩⟩⟩ F
/-- play(I)I -/
theorem w_X12_play {l : Launch} {d : Nat} {kd : pm_K} {mr : pm_R} {h : Nat} {x1 : Int32} {mi : pm_I} {ml : pm_L} {K : Int32 → pm_I → pm_L → Prop} (th : TX12s kd mr h)
    (F : wV l M_X12_begin d [.ref h] kd mr mi ml (fun mi2 ml3 => c_X12_play_6 l (d + 1) kd mr h x1 0 mi2 ml3 K)) :
    wI l M_X12_play (d + 1) [.ref h, .int x1] kd mr mi ml K := by
  show wp l M_X12_play (d + 1) 0 0 0 [some (.ref h), some (.int x1), none] [] 0 0 kd mi ml mr _
  refine wp_aload_n (pc := 0) dX12_play_0 rfl ?_
  refine cvV [] [] (pc := 1) dX12_play_1 ml_X12_410 iv_X12_begin (TX12s_k th) (cl_X12 rfl) rfl rfl (Nat.le_of_ble_eq_true rfl) (Nat.le_of_ble_eq_true rfl) (wV.mono (fun mi2 ml3 F => ?_) F)
  refine wp_iconst (v := 0) (pc := 4) dX12_play_4 (by decide) ?_
  refine wp_istore_n (pc := 5) dX12_play_5 (Nat.le_of_ble_eq_true rfl) rfl ?_
  show wp l M_X12_play (d + 1) 0 0 _ [some (.ref h), some (.int x1), some (.int 0)] _ 0 0 kd _ _ mr _
  exact wp_less (L' := [some (.ref h), some (.int x1), some (.int 0)]) ⟨rfl, ⟨rfl, ⟨rfl, trivial⟩⟩⟩ F
def c_X12_begin_57 (l : Launch) (d : Nat) (kd : pm_K) (mr : pm_R) (h : Nat) (x1 : Int32) (s0 : Int32) (s1 : Int32) (mi : pm_I) (ml : pm_L) (K : pm_I → pm_L → Prop) : Prop := wp l M_X12_begin d 0 0 57 [some (.ref h), some (.int x1)] [.int s0, .int s1, .ref (h + 16)] 0 0 kd mi ml mr (qV kd mr K)
def c_X12_begin_32 (l : Launch) (d : Nat) (kd : pm_K) (mr : pm_R) (h : Nat) (x1 : Int32) (s0 : Int32) (s1 : Int32) (mi : pm_I) (ml : pm_L) (K : pm_I → pm_L → Prop) : Prop := wp l M_X12_begin d 0 0 32 [some (.ref h), some (.int x1)] [.int s0, .int s1, .ref (h + 13)] 0 0 kd mi ml mr (qV kd mr K)
def c_X12_begin_2 (l : Launch) (d : Nat) (kd : pm_K) (mr : pm_R) (h : Nat) (x1 : Int32) (mi : pm_I) (ml : pm_L) (K : pm_I → pm_L → Prop) : Prop := wp l M_X12_begin d 0 0 2 [some (.ref h), some (.int x1)] [] 0 0 kd mi ml mr (qV kd mr K)
theorem w_X12_begin_2 {l : Launch} {d : Nat} {kd : pm_K} {mr : pm_R} {h : Nat} {x1 : Int32} {mi : pm_I} {ml : pm_L} {K : pm_I → pm_L → Prop} (th : TX12s kd mr h)
    (F : ((6 ≤ x1 → K (pm_up (pm_up (pm_up mi h 36 0) h 37 0) h 38 0) ml) ∧ (¬ 6 ≤ x1 → (((mi h 29) ≤ x1 → c_X12_begin_32 l (d + 1) kd mr h x1 0 x1 mi ml K) ∧ (¬ (mi h 29) ≤ x1 → wI l M_X12_cellOf d [.ref h, .int 27, .int x1] kd mr mi ml (fun r3 mi4 ml5 => c_X12_begin_32 l (d + 1) kd mr h x1 r3 x1 mi4 ml5 K)))))) :
    c_X12_begin_2 l (d + 1) kd mr h x1 mi ml K := by
  show wp l M_X12_begin (d + 1) 0 0 2 [some (.ref h), some (.int x1)] [] 0 0 kd mi ml mr _
  refine wp_iload_n (pc := 2) dX12_begin_2 rfl ?_
  refine wp_bipush (v := 6) (pc := 3) dX12_begin_3 (by decide) ?_
  refine wp_icmp_ge (tgt := 78) (pc := 5) dX12_begin_5 (by decide) (fun c1 => ?_) (fun c1 => ?_)
  · have F := F.1 c1
    refine wp_aload_n (pc := 78) dX12_begin_78 rfl ?_
    refine wp_iconst (v := 0) (pc := 79) dX12_begin_79 (by decide) ?_
    refine wp_putI (pc := 80) dX12_begin_80 fl_X12_374 rfl rfl (TX12s_k th) ?_
    refine wp_aload_n (pc := 83) dX12_begin_83 rfl ?_
    refine wp_iconst (v := 0) (pc := 84) dX12_begin_84 (by decide) ?_
    refine wp_putI (pc := 85) dX12_begin_85 fl_X12_377 rfl rfl (TX12s_k th) ?_
    refine wp_aload_n (pc := 88) dX12_begin_88 rfl ?_
    refine wp_iconst (v := 0) (pc := 89) dX12_begin_89 (by decide) ?_
    refine wp_putI (pc := 90) dX12_begin_90 fl_X12_380 rfl rfl (TX12s_k th) ?_
    exact r_V (pc := 93) dX12_begin_93 rfl F
  · have F := F.2 c1
    refine wp_aload_n (pc := 8) dX12_begin_8 rfl ?_
    refine wp_getR (pc := 9) dX12_begin_9 fl_X12_47 rfl (TX12s_k th) (TX12s_r32 th) ?_
    refine wp_iload_n (pc := 12) dX12_begin_12 rfl ?_
    refine wp_iload_n (pc := 13) dX12_begin_13 rfl ?_
    refine wp_aload_n (pc := 14) dX12_begin_14 rfl ?_
    refine wp_getI (pc := 15) dX12_begin_15 fl_X12_337 rfl (TX12s_k th) ?_
    refine wp_icmp_ge (tgt := 31) (pc := 18) dX12_begin_18 (by decide) (fun c2 => ?_) (fun c2 => ?_)
    · have F := F.1 c2
      refine wp_iconst (v := 0) (pc := 31) dX12_begin_31 (by decide) ?_
      exact wp_less (L' := [some (.ref h), some (.int x1)]) ⟨rfl, ⟨rfl, trivial⟩⟩ F
    · have F := F.2 c2
      refine wp_aload_n (pc := 21) dX12_begin_21 rfl ?_
      refine wp_bipush (v := 27) (pc := 22) dX12_begin_22 (by decide) ?_
      refine wp_iload_n (pc := 24) dX12_begin_24 rfl ?_
      refine cvI [.int 27, .int x1] [.int x1, .ref (h + 13)] (pc := 25) dX12_begin_25 ml_X12_352 iv_X12_cellOf (TX12s_k th) (cl_X12 rfl) rfl rfl (Nat.le_of_ble_eq_true rfl) (Nat.le_of_ble_eq_true rfl) (wI.mono (fun r3 mi4 ml5 F => ?_) F)
      refine wp_goto (tgt := 32) (pc := 28) dX12_begin_28 (by decide) ?_
      exact wp_less (L' := [some (.ref h), some (.int x1)]) ⟨rfl, ⟨rfl, trivial⟩⟩ F
theorem w_X12_begin_32 {l : Launch} {d : Nat} {kd : pm_K} {mr : pm_R} {h : Nat} {x1 : Int32} {s0 : Int32} {s1 : Int32} {mi : pm_I} {ml : pm_L} {K : pm_I → pm_L → Prop} (th : TX12s kd mr h)
    (F : vp_in s1 6 ∧ (((mi h 28) ≤ x1 → c_X12_begin_57 l (d + 1) kd mr h x1 0 x1 (pm_up mi (h + 13) (Int32.toNatClampNeg s1) s0) ml K) ∧ (¬ (mi h 28) ≤ x1 → wI l M_X12_cellOf d [.ref h, .int 9, .int x1] kd mr (pm_up mi (h + 13) (Int32.toNatClampNeg s1) s0) ml (fun r7 mi8 ml9 => c_X12_begin_57 l (d + 1) kd mr h x1 r7 x1 mi8 ml9 K)))) :
    c_X12_begin_32 l (d + 1) kd mr h x1 s0 s1 mi ml K := by
  show wp l M_X12_begin (d + 1) 0 0 32 [some (.ref h), some (.int x1)] [.int s0, .int s1, .ref (h + 13)] 0 0 kd mi ml mr _
  refine wp_iast (pc := 32) dX12_begin_32 (TX12s_a32 th) F.1 ?_
  have F := F.2
  refine wp_aload_n (pc := 33) dX12_begin_33 rfl ?_
  refine wp_getR (pc := 34) dX12_begin_34 fl_X12_56 rfl (TX12s_k th) (TX12s_r35 th) ?_
  refine wp_iload_n (pc := 37) dX12_begin_37 rfl ?_
  refine wp_iload_n (pc := 38) dX12_begin_38 rfl ?_
  refine wp_aload_n (pc := 39) dX12_begin_39 rfl ?_
  refine wp_getI (pc := 40) dX12_begin_40 fl_X12_334 rfl (TX12s_k th) ?_
  refine t_I (show ((pm_up mi (h + 13) (Int32.toNatClampNeg s1) s0) h 28) = (mi h 28) from pm_up_k _ _ (by omega)) ?_
  refine wp_icmp_ge (tgt := 56) (pc := 43) dX12_begin_43 (by decide) (fun c6 => ?_) (fun c6 => ?_)
  · have F := F.1 c6
    refine wp_iconst (v := 0) (pc := 56) dX12_begin_56 (by decide) ?_
    exact wp_less (L' := [some (.ref h), some (.int x1)]) ⟨rfl, ⟨rfl, trivial⟩⟩ F
  · have F := F.2 c6
    refine wp_aload_n (pc := 46) dX12_begin_46 rfl ?_
    refine wp_bipush (v := 9) (pc := 47) dX12_begin_47 (by decide) ?_
    refine wp_iload_n (pc := 49) dX12_begin_49 rfl ?_
    refine cvI [.int 9, .int x1] [.int x1, .ref (h + 16)] (pc := 50) dX12_begin_50 ml_X12_352 iv_X12_cellOf (TX12s_k th) (cl_X12 rfl) rfl rfl (Nat.le_of_ble_eq_true rfl) (Nat.le_of_ble_eq_true rfl) (wI.mono (fun r7 mi8 ml9 F => ?_) F)
    refine wp_goto (tgt := 57) (pc := 53) dX12_begin_53 (by decide) ?_
    exact wp_less (L' := [some (.ref h), some (.int x1)]) ⟨rfl, ⟨rfl, trivial⟩⟩ F
theorem w_X12_begin_57 {l : Launch} {d : Nat} {kd : pm_K} {mr : pm_R} {h : Nat} {x1 : Int32} {s0 : Int32} {s1 : Int32} {mi : pm_I} {ml : pm_L} {K : pm_I → pm_L → Prop} (th : TX12s kd mr h)
    (F : vp_in s1 6 ∧ vp_in x1 6 ∧ vp_in x1 6 ∧ c_X12_begin_2 l (d + 1) kd mr h (x1 + 1) (pm_up (pm_up (pm_up mi (h + 16) (Int32.toNatClampNeg s1) s0) (h + 14) (Int32.toNatClampNeg x1) (-1)) (h + 15) (Int32.toNatClampNeg x1) 0) ml K) :
    c_X12_begin_57 l (d + 1) kd mr h x1 s0 s1 mi ml K := by
  show wp l M_X12_begin (d + 1) 0 0 57 [some (.ref h), some (.int x1)] [.int s0, .int s1, .ref (h + 16)] 0 0 kd mi ml mr _
  refine wp_iast (pc := 57) dX12_begin_57 (TX12s_a35 th) F.1 ?_
  have F := F.2
  refine wp_aload_n (pc := 58) dX12_begin_58 rfl ?_
  refine wp_getR (pc := 59) dX12_begin_59 fl_X12_50 rfl (TX12s_k th) (TX12s_r33 th) ?_
  refine wp_iload_n (pc := 62) dX12_begin_62 rfl ?_
  refine wp_iconst (v := -1) (pc := 63) dX12_begin_63 (by decide) ?_
  refine wp_iast (pc := 64) dX12_begin_64 (TX12s_a33 th) F.1 ?_
  have F := F.2
  refine wp_aload_n (pc := 65) dX12_begin_65 rfl ?_
  refine wp_getR (pc := 66) dX12_begin_66 fl_X12_53 rfl (TX12s_k th) (TX12s_r34 th) ?_
  refine wp_iload_n (pc := 69) dX12_begin_69 rfl ?_
  refine wp_iconst (v := 0) (pc := 70) dX12_begin_70 (by decide) ?_
  refine wp_iast (pc := 71) dX12_begin_71 (TX12s_a34 th) F.1 ?_
  have F := F.2
  refine wp_iinc (v := (x1 + 1)) (pc := 72) dX12_begin_72 rfl rfl rfl ?_
  show wp l M_X12_begin (d + 1) 0 0 _ [some (.ref h), some (.int (x1 + 1))] _ 0 0 kd _ _ mr _
  refine wp_goto (tgt := 2) (pc := 75) dX12_begin_75 (by decide) ?_
  exact wp_less (L' := [some (.ref h), some (.int (x1 + 1))]) ⟨rfl, ⟨rfl, trivial⟩⟩ F
/-- begin()V -/
theorem w_X12_begin {l : Launch} {d : Nat} {kd : pm_K} {mr : pm_R} {h : Nat}  {mi : pm_I} {ml : pm_L} {K : pm_I → pm_L → Prop} (th : TX12s kd mr h)
    (F : c_X12_begin_2 l (d + 1) kd mr h 0 mi ml K) :
    wV l M_X12_begin (d + 1) [.ref h] kd mr mi ml K := by
  show wp l M_X12_begin (d + 1) 0 0 0 [some (.ref h), none] [] 0 0 kd mi ml mr _
  refine wp_iconst (v := 0) (pc := 0) dX12_begin_0 (by decide) ?_
  refine wp_istore_n (pc := 1) dX12_begin_1 (Nat.le_of_ble_eq_true rfl) rfl ?_
  show wp l M_X12_begin (d + 1) 0 0 _ [some (.ref h), some (.int 0)] _ 0 0 kd _ _ mr _
  exact wp_less (L' := [some (.ref h), some (.int 0)]) ⟨rfl, ⟨rfl, trivial⟩⟩ F
/-- does(III)Z -/
theorem w_X12_does {l : Launch} {d : Nat} {kd : pm_K} {mr : pm_R} {h : Nat} {x1 : Int32} {x2 : Int32} {x3 : Int32} {mi : pm_I} {ml : pm_L} {K : Bool → pm_I → pm_L → Prop} (th : TX12s kd mr h)
    (F : ((3 < x1 → ((¬ x1 = 4 → ((¬ x1 = 5 → wB l M_X12_rests d [.ref h] kd mr mi ml (fun r4 mi5 ml6 => K r4 mi5 ml6)) ∧ (x1 = 5 → wB l M_X12_goes d [.ref h, .int x2, .int x3] kd mr mi ml (fun r7 mi8 ml9 => K r7 mi8 ml9)))) ∧ (x1 = 4 → wB l M_X12_walks d [.ref h, .int x2, .int x3] kd mr mi ml (fun r10 mi11 ml12 => K r10 mi11 ml12)))) ∧ (¬ 3 < x1 → wB l M_X12_isPlayed d [.ref h, .int x2, .int x1, .int x3] kd mr mi ml (fun r13 mi14 ml15 => K r13 mi14 ml15)))) :
    wB l M_X12_does (d + 1) [.ref h, .int x1, .int x2, .int x3] kd mr mi ml K := by
  show wp l M_X12_does (d + 1) 0 0 0 [some (.ref h), some (.int x1), some (.int x2), some (.int x3)] [] 0 0 kd mi ml mr _
  refine wp_iload_n (pc := 0) dX12_does_0 rfl ?_
  refine wp_iconst (v := 3) (pc := 1) dX12_does_1 (by decide) ?_
  refine wp_icmp_gt (tgt := 15) (pc := 2) dX12_does_2 (by decide) (fun c1 => ?_) (fun c1 => ?_)
  · have F := F.1 c1
    refine wp_iload_n (pc := 15) dX12_does_15 rfl ?_
    refine wp_iconst (v := 4) (pc := 16) dX12_does_16 (by decide) ?_
    refine wp_icmp_ne (tgt := 29) (pc := 17) dX12_does_17 (by decide) (fun c2 => ?_) (fun c2 => ?_)
    · have F := F.1 c2
      refine wp_iload_n (pc := 29) dX12_does_29 rfl ?_
      refine wp_iconst (v := 5) (pc := 30) dX12_does_30 (by decide) ?_
      refine wp_icmp_ne (tgt := 43) (pc := 31) dX12_does_31 (by decide) (fun c3 => ?_) (fun c3 => ?_)
      · have F := F.1 c3
        refine wp_aload_n (pc := 43) dX12_does_43 rfl ?_
        refine cvB [] [] (pc := 44) dX12_does_44 ml_X12_407 iv_X12_rests (TX12s_k th) (cl_X12 rfl) rfl rfl (Nat.le_of_ble_eq_true rfl) (Nat.le_of_ble_eq_true rfl) (wB.mono (fun r4 mi5 ml6 F => ?_) F)
        exact r_B (pc := 47) dX12_does_47 rfl F
      · have F := F.2 c3
        refine wp_aload_n (pc := 34) dX12_does_34 rfl ?_
        refine wp_iload_n (pc := 35) dX12_does_35 rfl ?_
        refine wp_iload_n (pc := 36) dX12_does_36 rfl ?_
        refine cvB [.int x2, .int x3] [] (pc := 37) dX12_does_37 ml_X12_404 iv_X12_goes (TX12s_k th) (cl_X12 rfl) rfl rfl (Nat.le_of_ble_eq_true rfl) (Nat.le_of_ble_eq_true rfl) (wB.mono (fun r7 mi8 ml9 F => ?_) F)
        refine wp_goto (tgt := 47) (pc := 40) dX12_does_40 (by decide) ?_
        exact r_B (pc := 47) dX12_does_47 rfl F
    · have F := F.2 c2
      refine wp_aload_n (pc := 20) dX12_does_20 rfl ?_
      refine wp_iload_n (pc := 21) dX12_does_21 rfl ?_
      refine wp_iload_n (pc := 22) dX12_does_22 rfl ?_
      refine cvB [.int x2, .int x3] [] (pc := 23) dX12_does_23 ml_X12_401 iv_X12_walks (TX12s_k th) (cl_X12 rfl) rfl rfl (Nat.le_of_ble_eq_true rfl) (Nat.le_of_ble_eq_true rfl) (wB.mono (fun r10 mi11 ml12 F => ?_) F)
      refine wp_goto (tgt := 47) (pc := 26) dX12_does_26 (by decide) ?_
      exact r_B (pc := 47) dX12_does_47 rfl F
  · have F := F.2 c1
    refine wp_aload_n (pc := 5) dX12_does_5 rfl ?_
    refine wp_iload_n (pc := 6) dX12_does_6 rfl ?_
    refine wp_iload_n (pc := 7) dX12_does_7 rfl ?_
    refine wp_iload_n (pc := 8) dX12_does_8 rfl ?_
    refine cvB [.int x2, .int x1, .int x3] [] (pc := 9) dX12_does_9 ml_X12_398 iv_X12_isPlayed (TX12s_k th) (cl_X12 rfl) rfl rfl (Nat.le_of_ble_eq_true rfl) (Nat.le_of_ble_eq_true rfl) (wB.mono (fun r13 mi14 ml15 F => ?_) F)
    refine wp_goto (tgt := 47) (pc := 12) dX12_does_12 (by decide) ?_
    exact r_B (pc := 47) dX12_does_47 rfl F
def c_X12_isPlayed_138 (l : Launch) (d : Nat) (kd : pm_K) (mr : pm_R) (h : Nat) (x1 : Int32) (x2 : Int32) (x3 : Int32) (x4 : Int32) (mi : pm_I) (ml : pm_L) (K : Bool → pm_I → pm_L → Prop) : Prop := wp l M_X12_isPlayed d 0 0 138 [some (.ref h), some (.int x1), some (.int x2), some (.int x3), some (.int x4), none] [] 0 0 kd mi ml mr (qB kd mr K)
def c_X12_isPlayed_104 (l : Launch) (d : Nat) (kd : pm_K) (mr : pm_R) (h : Nat) (x1 : Int32) (x2 : Int32) (x3 : Int32) (x4 : Int32) (s0 : Int32) (mi : pm_I) (ml : pm_L) (K : Bool → pm_I → pm_L → Prop) : Prop := wp l M_X12_isPlayed d 0 0 104 [some (.ref h), some (.int x1), some (.int x2), some (.int x3), some (.int x4), none] [.int s0] 0 0 kd mi ml mr (qB kd mr K)
def c_X12_isPlayed_103 (l : Launch) (d : Nat) (kd : pm_K) (mr : pm_R) (h : Nat) (x1 : Int32) (x2 : Int32) (x3 : Int32) (x4 : Int32) (mi : pm_I) (ml : pm_L) (K : Bool → pm_I → pm_L → Prop) : Prop := wp l M_X12_isPlayed d 0 0 103 [some (.ref h), some (.int x1), some (.int x2), some (.int x3), some (.int x4), none] [] 0 0 kd mi ml mr (qB kd mr K)
def c_X12_isPlayed_23 (l : Launch) (d : Nat) (kd : pm_K) (mr : pm_R) (h : Nat) (x1 : Int32) (x2 : Int32) (x3 : Int32) (x4 : Int32) (mi : pm_I) (ml : pm_L) (K : Bool → pm_I → pm_L → Prop) : Prop := wp l M_X12_isPlayed d 0 0 23 [some (.ref h), some (.int x1), some (.int x2), some (.int x3), some (.int x4), none] [] 0 0 kd mi ml mr (qB kd mr K)
theorem w_X12_isPlayed_23 {l : Launch} {d : Nat} {kd : pm_K} {mr : pm_R} {h : Nat} {x1 : Int32} {x2 : Int32} {x3 : Int32} {x4 : Int32} {mi : pm_I} {ml : pm_L} {K : Bool → pm_I → pm_L → Prop} (th : TX12s kd mr h)
    (F : (((mi h 29) ≤ x4 → K true mi ml) ∧ (¬ (mi h 29) ≤ x4 → wI l M_X12_of d [.ref h, .int (27 + x4)] kd mr mi ml (fun r9 mi10 ml11 => ((r9 = 3 → c_X12_isPlayed_138 l (d + 1) kd mr h x1 x2 x3 x4 mi10 ml11 K) ∧ (¬ r9 = 3 → vp_in x4 6 ∧ vp_in (mi10 (h + 13) (Int32.toNatClampNeg x4)) 64 ∧ wI l M_X12_of d [.ref h, .int (9 + x1)] kd mr mi10 ml11 (fun r13 mi14 ml15 => wI l M_X12_range d [.int r13] kd mr mi14 ml15 (fun r16 mi17 ml18 => ((r16 < (mi10 (h + 12) (Int32.toNatClampNeg (mi10 (h + 13) (Int32.toNatClampNeg x4)))) → c_X12_isPlayed_138 l (d + 1) kd mr h x1 x2 x3 x4 mi17 ml18 K) ∧ (¬ r16 < (mi10 (h + 12) (Int32.toNatClampNeg (mi10 (h + 13) (Int32.toNatClampNeg x4)))) → vp_in x4 6 ∧ (((mi17 (h + 14) (Int32.toNatClampNeg x4)) = x2 → c_X12_isPlayed_103 l (d + 1) kd mr h x1 x2 x3 x4 mi17 ml18 K) ∧ (¬ (mi17 (h + 14) (Int32.toNatClampNeg x4)) = x2 → wI l M_X12_of d [.ref h, .int (27 + x4)] kd mr mi17 ml18 (fun r21 mi22 ml23 => vp_in x4 6 ∧ vp_in x4 6 ∧ vp_in x4 6 ∧ (((!decide (r21 = 2) || (!decide (x2 = 0))) = false → c_X12_isPlayed_138 l (d + 1) kd mr h x1 x2 x3 x4 (pm_up (pm_up mi22 (h + 14) (Int32.toNatClampNeg x4) x2) (h + 15) (Int32.toNatClampNeg x4) ((mi22 (h + 15) (Int32.toNatClampNeg x4)) + 1)) ml23 K) ∧ ((!decide (r21 = 2) || (!decide (x2 = 0))) = true → wV l M_X12_obeys d [.ref h, .int x4, .int x2, .int x3] kd mr (pm_up (pm_up mi22 (h + 14) (Int32.toNatClampNeg x4) x2) (h + 15) (Int32.toNatClampNeg x4) ((mi22 (h + 15) (Int32.toNatClampNeg x4)) + 1)) ml23 (fun mi30 ml31 => c_X12_isPlayed_138 l (d + 1) kd mr h x1 x2 x3 x4 mi30 ml31 K)))))))))))))))) :
    c_X12_isPlayed_23 l (d + 1) kd mr h x1 x2 x3 x4 mi ml K := by
  show wp l M_X12_isPlayed (d + 1) 0 0 23 [some (.ref h), some (.int x1), some (.int x2), some (.int x3), some (.int x4), none] [] 0 0 kd mi ml mr _
  refine wp_iload (pc := 23) dX12_isPlayed_23 rfl ?_
  refine wp_aload_n (pc := 25) dX12_isPlayed_25 rfl ?_
  refine wp_getI (pc := 26) dX12_isPlayed_26 fl_X12_337 rfl (TX12s_k th) ?_
  refine wp_icmp_ge (tgt := 144) (pc := 29) dX12_isPlayed_29 (by decide) (fun c8 => ?_) (fun c8 => ?_)
  · have F := F.1 c8
    refine wp_iconst (v := 1) (pc := 144) dX12_isPlayed_144 (by decide) ?_
    exact r_Bx (pc := 145) dX12_isPlayed_145 rfl rfl F
  · have F := F.2 c8
    refine wp_aload_n (pc := 32) dX12_isPlayed_32 rfl ?_
    refine wp_bipush (v := 27) (pc := 33) dX12_isPlayed_33 (by decide) ?_
    refine wp_iload (pc := 35) dX12_isPlayed_35 rfl ?_
    refine wp_iadd (pc := 37) dX12_isPlayed_37 ?_
    refine cvI [.int (27 + x4)] [] (pc := 38) dX12_isPlayed_38 ml_X12_324 iv_X12_of (TX12s_k th) (cl_X12 rfl) rfl rfl (Nat.le_of_ble_eq_true rfl) (Nat.le_of_ble_eq_true rfl) (wI.mono (fun r9 mi10 ml11 F => ?_) F)
    refine wp_iconst (v := 3) (pc := 41) dX12_isPlayed_41 (by decide) ?_
    refine wp_icmp_eq (tgt := 138) (pc := 42) dX12_isPlayed_42 (by decide) (fun c12 => ?_) (fun c12 => ?_)
    · have F := F.1 c12
      exact wp_less (L' := [some (.ref h), some (.int x1), some (.int x2), some (.int x3), some (.int x4), none]) ⟨rfl, ⟨rfl, ⟨rfl, ⟨rfl, ⟨rfl, trivial⟩⟩⟩⟩⟩ F
    · have F := F.2 c12
      refine wp_aload_n (pc := 45) dX12_isPlayed_45 rfl ?_
      refine wp_getR (pc := 46) dX12_isPlayed_46 fl_X12_44 rfl (TX12s_k th) (TX12s_r31 th) ?_
      refine wp_aload_n (pc := 49) dX12_isPlayed_49 rfl ?_
      refine wp_getR (pc := 50) dX12_isPlayed_50 fl_X12_47 rfl (TX12s_k th) (TX12s_r32 th) ?_
      refine wp_iload (pc := 53) dX12_isPlayed_53 rfl ?_
      refine wp_iald (pc := 55) dX12_isPlayed_55 (TX12s_a32 th) F.1 ?_
      have F := F.2
      refine wp_iald (pc := 56) dX12_isPlayed_56 (TX12s_a31 th) F.1 ?_
      have F := F.2
      refine wp_aload_n (pc := 57) dX12_isPlayed_57 rfl ?_
      refine wp_bipush (v := 9) (pc := 58) dX12_isPlayed_58 (by decide) ?_
      refine wp_iload_n (pc := 60) dX12_isPlayed_60 rfl ?_
      refine wp_iadd (pc := 61) dX12_isPlayed_61 ?_
      refine cvI [.int (9 + x1)] [.int (mi10 (h + 12) (Int32.toNatClampNeg (mi10 (h + 13) (Int32.toNatClampNeg x4))))] (pc := 62) dX12_isPlayed_62 ml_X12_324 iv_X12_of (TX12s_k th) (cl_X12 rfl) rfl rfl (Nat.le_of_ble_eq_true rfl) (Nat.le_of_ble_eq_true rfl) (wI.mono (fun r13 mi14 ml15 F => ?_) F)
      refine csI [.int r13] [.int (mi10 (h + 12) (Int32.toNatClampNeg (mi10 (h + 13) (Int32.toNatClampNeg x4))))] (pc := 65) dX12_isPlayed_65 ml_X12_392 st_X12_range rfl rfl (Nat.le_of_ble_eq_true rfl) (Nat.le_of_ble_eq_true rfl) (wI.mono (fun r16 mi17 ml18 F => ?_) F)
      refine wp_icmp_gt (tgt := 138) (pc := 68) dX12_isPlayed_68 (by decide) (fun c19 => ?_) (fun c19 => ?_)
      · have F := F.1 c19
        exact wp_less (L' := [some (.ref h), some (.int x1), some (.int x2), some (.int x3), some (.int x4), none]) ⟨rfl, ⟨rfl, ⟨rfl, ⟨rfl, ⟨rfl, trivial⟩⟩⟩⟩⟩ F
      · have F := F.2 c19
        refine wp_aload_n (pc := 71) dX12_isPlayed_71 rfl ?_
        refine wp_getR (pc := 72) dX12_isPlayed_72 fl_X12_50 rfl (TX12s_k th) (TX12s_r33 th) ?_
        refine wp_iload (pc := 75) dX12_isPlayed_75 rfl ?_
        refine wp_iald (pc := 77) dX12_isPlayed_77 (TX12s_a33 th) F.1 ?_
        have F := F.2
        refine wp_iload_n (pc := 78) dX12_isPlayed_78 rfl ?_
        refine wp_icmp_eq (tgt := 103) (pc := 79) dX12_isPlayed_79 (by decide) (fun c20 => ?_) (fun c20 => ?_)
        · have F := F.1 c20
          exact wp_less (L' := [some (.ref h), some (.int x1), some (.int x2), some (.int x3), some (.int x4), none]) ⟨rfl, ⟨rfl, ⟨rfl, ⟨rfl, ⟨rfl, trivial⟩⟩⟩⟩⟩ F
        · have F := F.2 c20
          refine wp_aload_n (pc := 82) dX12_isPlayed_82 rfl ?_
          refine wp_bipush (v := 27) (pc := 83) dX12_isPlayed_83 (by decide) ?_
          refine wp_iload (pc := 85) dX12_isPlayed_85 rfl ?_
          refine wp_iadd (pc := 87) dX12_isPlayed_87 ?_
          refine cvI [.int (27 + x4)] [] (pc := 88) dX12_isPlayed_88 ml_X12_324 iv_X12_of (TX12s_k th) (cl_X12 rfl) rfl rfl (Nat.le_of_ble_eq_true rfl) (Nat.le_of_ble_eq_true rfl) (wI.mono (fun r21 mi22 ml23 F => ?_) F)
          refine wp_iconst (v := 2) (pc := 91) dX12_isPlayed_91 (by decide) ?_
          suffices J24 : ∀ v25 : Int32, v25 = (b2i (!decide (r21 = 2) || (!decide (x2 = 0)))) → wp l M_X12_isPlayed (d + 1) 0 0 104 [some (.ref h), some (.int x1), some (.int x2), some (.int x3), some (.int x4), none] [.int v25] 0 0 kd mi22 ml23 mr _ by
              refine wp_icmp_ne (tgt := 99) (pc := 92) dX12_isPlayed_92 (by decide) (fun c26 => ?_) (fun c26 => ?_)
              · refine wp_iconst (v := 1) (pc := 99) dX12_isPlayed_99 (by decide) ?_
                refine wp_goto (tgt := 104) (pc := 100) dX12_isPlayed_100 (by decide) ?_
                exact J24 _ (by simp only [c26, if_true, if_false, decide_true, decide_false, Bool.not_true, Bool.not_false, Bool.true_and, Bool.false_and, Bool.true_or, Bool.false_or, b2i_t, b2i_f, ite_true, ite_false, not_true_eq_false, not_false_eq_true, reduceCtorEq, decide_eq_true_eq])
              · refine wp_iload_n (pc := 95) dX12_isPlayed_95 rfl ?_
                refine wp_if_eq (tgt := 103) (pc := 96) dX12_isPlayed_96 (by decide) (fun c27 => ?_) (fun c27 => ?_)
                · refine wp_iconst (v := 0) (pc := 103) dX12_isPlayed_103 (by decide) ?_
                  exact J24 _ (by simp only [eq_true c26, eq_true c27, if_true, if_false, decide_true, decide_false, Bool.not_true, Bool.not_false, Bool.true_and, Bool.false_and, Bool.true_or, Bool.false_or, b2i_t, b2i_f, ite_true, ite_false, not_true_eq_false, not_false_eq_true, reduceCtorEq, decide_eq_true_eq])
                · refine wp_iconst (v := 1) (pc := 99) dX12_isPlayed_99 (by decide) ?_
                  refine wp_goto (tgt := 104) (pc := 100) dX12_isPlayed_100 (by decide) ?_
                  exact J24 _ (by simp only [eq_true c26, c27, if_true, if_false, decide_true, decide_false, Bool.not_true, Bool.not_false, Bool.true_and, Bool.false_and, Bool.true_or, Bool.false_or, b2i_t, b2i_f, ite_true, ite_false, not_true_eq_false, not_false_eq_true, reduceCtorEq, decide_eq_true_eq])
          intro v25 ev25
          subst ev25
          refine wp_istore (pc := 104) dX12_isPlayed_104 (Nat.le_of_ble_eq_true rfl) rfl ?_
          show wp l M_X12_isPlayed (d + 1) 0 0 _ [some (.ref h), some (.int x1), some (.int x2), some (.int x3), some (.int x4), some (.int (b2i (!decide (r21 = 2) || (!decide (x2 = 0)))))] _ 0 0 kd _ _ mr _
          refine wp_aload_n (pc := 106) dX12_isPlayed_106 rfl ?_
          refine wp_getR (pc := 107) dX12_isPlayed_107 fl_X12_50 rfl (TX12s_k th) (TX12s_r33 th) ?_
          refine wp_iload (pc := 110) dX12_isPlayed_110 rfl ?_
          refine wp_iload_n (pc := 112) dX12_isPlayed_112 rfl ?_
          refine wp_iast (pc := 113) dX12_isPlayed_113 (TX12s_a33 th) F.1 ?_
          have F := F.2
          refine wp_aload_n (pc := 114) dX12_isPlayed_114 rfl ?_
          refine wp_getR (pc := 115) dX12_isPlayed_115 fl_X12_53 rfl (TX12s_k th) (TX12s_r34 th) ?_
          refine wp_iload (pc := 118) dX12_isPlayed_118 rfl ?_
          refine wp_dup2 (pc := 120) dX12_isPlayed_120 rfl rfl ?_
          refine wp_iald (pc := 121) dX12_isPlayed_121 (TX12s_a34 th) F.1 ?_
          have F := F.2
          refine t_I (show ((pm_up mi22 (h + 14) (Int32.toNatClampNeg x4) x2) (h + 15) (Int32.toNatClampNeg x4)) = (mi22 (h + 15) (Int32.toNatClampNeg x4)) from pm_up_k _ _ (by omega)) ?_
          refine wp_iconst (v := 1) (pc := 122) dX12_isPlayed_122 (by decide) ?_
          refine wp_iadd (pc := 123) dX12_isPlayed_123 ?_
          refine wp_iast (pc := 124) dX12_isPlayed_124 (TX12s_a34 th) F.1 ?_
          have F := F.2
          refine wp_iload (pc := 125) dX12_isPlayed_125 rfl ?_
          refine b_eq (tgt := 138) (pc := 127) dX12_isPlayed_127 (by decide) (fun c28 => ?_) (fun c28 => ?_)
          · have F := F.1 c28
            exact wp_less (L' := [some (.ref h), some (.int x1), some (.int x2), some (.int x3), some (.int x4), none]) ⟨rfl, ⟨rfl, ⟨rfl, ⟨rfl, ⟨rfl, trivial⟩⟩⟩⟩⟩ F
          · have F := F.2 c28
            refine wp_aload_n (pc := 130) dX12_isPlayed_130 rfl ?_
            refine wp_iload (pc := 131) dX12_isPlayed_131 rfl ?_
            refine wp_iload_n (pc := 133) dX12_isPlayed_133 rfl ?_
            refine wp_iload_n (pc := 134) dX12_isPlayed_134 rfl ?_
            refine cvV [.int x4, .int x2, .int x3] [] (pc := 135) dX12_isPlayed_135 ml_X12_395 iv_X12_obeys (TX12s_k th) (cl_X12 rfl) rfl rfl (Nat.le_of_ble_eq_true rfl) (Nat.le_of_ble_eq_true rfl) (wV.mono (fun mi30 ml31 F => ?_) F)
            exact wp_less (L' := [some (.ref h), some (.int x1), some (.int x2), some (.int x3), some (.int x4), none]) ⟨rfl, ⟨rfl, ⟨rfl, ⟨rfl, ⟨rfl, trivial⟩⟩⟩⟩⟩ F
theorem w_X12_isPlayed_103 {l : Launch} {d : Nat} {kd : pm_K} {mr : pm_R} {h : Nat} {x1 : Int32} {x2 : Int32} {x3 : Int32} {x4 : Int32} {mi : pm_I} {ml : pm_L} {K : Bool → pm_I → pm_L → Prop} (th : TX12s kd mr h)
    (F : c_X12_isPlayed_104 l (d + 1) kd mr h x1 x2 x3 x4 0 mi ml K) :
    c_X12_isPlayed_103 l (d + 1) kd mr h x1 x2 x3 x4 mi ml K := by
  show wp l M_X12_isPlayed (d + 1) 0 0 103 [some (.ref h), some (.int x1), some (.int x2), some (.int x3), some (.int x4), none] [] 0 0 kd mi ml mr _
  refine wp_iconst (v := 0) (pc := 103) dX12_isPlayed_103 (by decide) ?_
  exact wp_less (L' := [some (.ref h), some (.int x1), some (.int x2), some (.int x3), some (.int x4), none]) ⟨rfl, ⟨rfl, ⟨rfl, ⟨rfl, ⟨rfl, trivial⟩⟩⟩⟩⟩ F
theorem w_X12_isPlayed_104 {l : Launch} {d : Nat} {kd : pm_K} {mr : pm_R} {h : Nat} {x1 : Int32} {x2 : Int32} {x3 : Int32} {x4 : Int32} {s0 : Int32} {mi : pm_I} {ml : pm_L} {K : Bool → pm_I → pm_L → Prop} (th : TX12s kd mr h)
    (F : vp_in x4 6 ∧ vp_in x4 6 ∧ vp_in x4 6 ∧ ((s0 = 0 → c_X12_isPlayed_138 l (d + 1) kd mr h x1 x2 x3 x4 (pm_up (pm_up mi (h + 14) (Int32.toNatClampNeg x4) x2) (h + 15) (Int32.toNatClampNeg x4) ((mi (h + 15) (Int32.toNatClampNeg x4)) + 1)) ml K) ∧ (¬ s0 = 0 → wV l M_X12_obeys d [.ref h, .int x4, .int x2, .int x3] kd mr (pm_up (pm_up mi (h + 14) (Int32.toNatClampNeg x4) x2) (h + 15) (Int32.toNatClampNeg x4) ((mi (h + 15) (Int32.toNatClampNeg x4)) + 1)) ml (fun mi34 ml35 => c_X12_isPlayed_138 l (d + 1) kd mr h x1 x2 x3 x4 mi34 ml35 K)))) :
    c_X12_isPlayed_104 l (d + 1) kd mr h x1 x2 x3 x4 s0 mi ml K := by
  show wp l M_X12_isPlayed (d + 1) 0 0 104 [some (.ref h), some (.int x1), some (.int x2), some (.int x3), some (.int x4), none] [.int s0] 0 0 kd mi ml mr _
  refine wp_istore (pc := 104) dX12_isPlayed_104 (Nat.le_of_ble_eq_true rfl) rfl ?_
  show wp l M_X12_isPlayed (d + 1) 0 0 _ [some (.ref h), some (.int x1), some (.int x2), some (.int x3), some (.int x4), some (.int s0)] _ 0 0 kd _ _ mr _
  refine wp_aload_n (pc := 106) dX12_isPlayed_106 rfl ?_
  refine wp_getR (pc := 107) dX12_isPlayed_107 fl_X12_50 rfl (TX12s_k th) (TX12s_r33 th) ?_
  refine wp_iload (pc := 110) dX12_isPlayed_110 rfl ?_
  refine wp_iload_n (pc := 112) dX12_isPlayed_112 rfl ?_
  refine wp_iast (pc := 113) dX12_isPlayed_113 (TX12s_a33 th) F.1 ?_
  have F := F.2
  refine wp_aload_n (pc := 114) dX12_isPlayed_114 rfl ?_
  refine wp_getR (pc := 115) dX12_isPlayed_115 fl_X12_53 rfl (TX12s_k th) (TX12s_r34 th) ?_
  refine wp_iload (pc := 118) dX12_isPlayed_118 rfl ?_
  refine wp_dup2 (pc := 120) dX12_isPlayed_120 rfl rfl ?_
  refine wp_iald (pc := 121) dX12_isPlayed_121 (TX12s_a34 th) F.1 ?_
  have F := F.2
  refine t_I (show ((pm_up mi (h + 14) (Int32.toNatClampNeg x4) x2) (h + 15) (Int32.toNatClampNeg x4)) = (mi (h + 15) (Int32.toNatClampNeg x4)) from pm_up_k _ _ (by omega)) ?_
  refine wp_iconst (v := 1) (pc := 122) dX12_isPlayed_122 (by decide) ?_
  refine wp_iadd (pc := 123) dX12_isPlayed_123 ?_
  refine wp_iast (pc := 124) dX12_isPlayed_124 (TX12s_a34 th) F.1 ?_
  have F := F.2
  refine wp_iload (pc := 125) dX12_isPlayed_125 rfl ?_
  refine wp_if_eq (tgt := 138) (pc := 127) dX12_isPlayed_127 (by decide) (fun c32 => ?_) (fun c32 => ?_)
  · have F := F.1 c32
    exact wp_less (L' := [some (.ref h), some (.int x1), some (.int x2), some (.int x3), some (.int x4), none]) ⟨rfl, ⟨rfl, ⟨rfl, ⟨rfl, ⟨rfl, trivial⟩⟩⟩⟩⟩ F
  · have F := F.2 c32
    refine wp_aload_n (pc := 130) dX12_isPlayed_130 rfl ?_
    refine wp_iload (pc := 131) dX12_isPlayed_131 rfl ?_
    refine wp_iload_n (pc := 133) dX12_isPlayed_133 rfl ?_
    refine wp_iload_n (pc := 134) dX12_isPlayed_134 rfl ?_
    refine cvV [.int x4, .int x2, .int x3] [] (pc := 135) dX12_isPlayed_135 ml_X12_395 iv_X12_obeys (TX12s_k th) (cl_X12 rfl) rfl rfl (Nat.le_of_ble_eq_true rfl) (Nat.le_of_ble_eq_true rfl) (wV.mono (fun mi34 ml35 F => ?_) F)
    exact wp_less (L' := [some (.ref h), some (.int x1), some (.int x2), some (.int x3), some (.int x4), none]) ⟨rfl, ⟨rfl, ⟨rfl, ⟨rfl, ⟨rfl, trivial⟩⟩⟩⟩⟩ F
theorem w_X12_isPlayed_138 {l : Launch} {d : Nat} {kd : pm_K} {mr : pm_R} {h : Nat} {x1 : Int32} {x2 : Int32} {x3 : Int32} {x4 : Int32} {mi : pm_I} {ml : pm_L} {K : Bool → pm_I → pm_L → Prop} (th : TX12s kd mr h)
    (F : c_X12_isPlayed_23 l (d + 1) kd mr h x1 x2 x3 (x4 + 1) mi ml K) :
    c_X12_isPlayed_138 l (d + 1) kd mr h x1 x2 x3 x4 mi ml K := by
  show wp l M_X12_isPlayed (d + 1) 0 0 138 [some (.ref h), some (.int x1), some (.int x2), some (.int x3), some (.int x4), none] [] 0 0 kd mi ml mr _
  refine wp_iinc (v := (x4 + 1)) (pc := 138) dX12_isPlayed_138 rfl rfl rfl ?_
  show wp l M_X12_isPlayed (d + 1) 0 0 _ [some (.ref h), some (.int x1), some (.int x2), some (.int x3), some (.int (x4 + 1)), none] _ 0 0 kd _ _ mr _
  refine wp_goto (tgt := 23) (pc := 141) dX12_isPlayed_141 (by decide) ?_
  exact wp_less (L' := [some (.ref h), some (.int x1), some (.int x2), some (.int x3), some (.int (x4 + 1)), none]) ⟨rfl, ⟨rfl, ⟨rfl, ⟨rfl, ⟨rfl, trivial⟩⟩⟩⟩⟩ F
/-- isPlayed(III)Z -/
theorem w_X12_isPlayed {l : Launch} {d : Nat} {kd : pm_K} {mr : pm_R} {h : Nat} {x1 : Int32} {x2 : Int32} {x3 : Int32} {mi : pm_I} {ml : pm_L} {K : Bool → pm_I → pm_L → Prop} (th : TX12s kd mr h)
    (F : wB l M_X12_isPlayer d [.ref h, .int x1] kd mr mi ml (fun r1 mi2 ml3 => ((r1 = true → vp_in x1 6 ∧ wV l M_X12_findCost d [.ref h, .int (mi2 (h + 16) (Int32.toNatClampNeg x1))] kd mr mi2 ml3 (fun mi6 ml7 => c_X12_isPlayed_23 l (d + 1) kd mr h x1 x2 x3 0 mi6 ml7 K)) ∧ (r1 = false → K false mi2 ml3)))) :
    wB l M_X12_isPlayed (d + 1) [.ref h, .int x1, .int x2, .int x3] kd mr mi ml K := by
  show wp l M_X12_isPlayed (d + 1) 0 0 0 [some (.ref h), some (.int x1), some (.int x2), some (.int x3), none, none] [] 0 0 kd mi ml mr _
  refine wp_aload_n (pc := 0) dX12_isPlayed_0 rfl ?_
  refine wp_iload_n (pc := 1) dX12_isPlayed_1 rfl ?_
  refine cvB [.int x1] [] (pc := 2) dX12_isPlayed_2 ml_X12_349 iv_X12_isPlayer (TX12s_k th) (cl_X12 rfl) rfl rfl (Nat.le_of_ble_eq_true rfl) (Nat.le_of_ble_eq_true rfl) (wB.mono (fun r1 mi2 ml3 F => ?_) F)
  refine b_ne (tgt := 10) (pc := 5) dX12_isPlayed_5 (by decide) (fun c4 => ?_) (fun c4 => ?_)
  · have F := F.1 c4
    refine wp_aload_n (pc := 10) dX12_isPlayed_10 rfl ?_
    refine wp_aload_n (pc := 11) dX12_isPlayed_11 rfl ?_
    refine wp_getR (pc := 12) dX12_isPlayed_12 fl_X12_56 rfl (TX12s_k th) (TX12s_r35 th) ?_
    refine wp_iload_n (pc := 15) dX12_isPlayed_15 rfl ?_
    refine wp_iald (pc := 16) dX12_isPlayed_16 (TX12s_a35 th) F.1 ?_
    have F := F.2
    refine cvV [.int (mi2 (h + 16) (Int32.toNatClampNeg x1))] [] (pc := 17) dX12_isPlayed_17 ml_X12_389 iv_X12_findCost (TX12s_k th) (cl_X12 rfl) rfl rfl (Nat.le_of_ble_eq_true rfl) (Nat.le_of_ble_eq_true rfl) (wV.mono (fun mi6 ml7 F => ?_) F)
    refine wp_iconst (v := 0) (pc := 20) dX12_isPlayed_20 (by decide) ?_
    refine wp_istore (pc := 21) dX12_isPlayed_21 (Nat.le_of_ble_eq_true rfl) rfl ?_
    show wp l M_X12_isPlayed (d + 1) 0 0 _ [some (.ref h), some (.int x1), some (.int x2), some (.int x3), some (.int 0), none] _ 0 0 kd _ _ mr _
    exact wp_less (L' := [some (.ref h), some (.int x1), some (.int x2), some (.int x3), some (.int 0), none]) ⟨rfl, ⟨rfl, ⟨rfl, ⟨rfl, ⟨rfl, trivial⟩⟩⟩⟩⟩ F
  · have F := F.2 c4
    refine wp_iconst (v := 0) (pc := 8) dX12_isPlayed_8 (by decide) ?_
    exact r_Bx (pc := 9) dX12_isPlayed_9 rfl rfl F
def c_X12_findCost_128 (l : Launch) (d : Nat) (kd : pm_K) (mr : pm_R) (h : Nat) (x2 : Int32) (x3 : Int32) (x4 : Int32) (mi : pm_I) (ml : pm_L) (K : pm_I → pm_L → Prop) : Prop := wp l M_X12_findCost d 0 0 128 [some (.ref h), none, some (.int x2), some (.int x3), some (.int x4), none, none] [] 0 0 kd mi ml mr (qV kd mr K)
def c_X12_findCost_97 (l : Launch) (d : Nat) (kd : pm_K) (mr : pm_R) (h : Nat) (x2 : Int32) (x3 : Int32) (x4 : Int32) (x5 : Int32) (s0 : Int32) (mi : pm_I) (ml : pm_L) (K : pm_I → pm_L → Prop) : Prop := wp l M_X12_findCost d 0 0 97 [some (.ref h), none, some (.int x2), some (.int x3), some (.int x4), some (.int x5), none] [.int s0] 0 0 kd mi ml mr (qV kd mr K)
def c_X12_findCost_55 (l : Launch) (d : Nat) (kd : pm_K) (mr : pm_R) (h : Nat) (x2 : Int32) (x3 : Int32) (x4 : Int32) (mi : pm_I) (ml : pm_L) (K : pm_I → pm_L → Prop) : Prop := wp l M_X12_findCost d 0 0 55 [some (.ref h), none, some (.int x2), some (.int x3), some (.int x4), none, none] [] 0 0 kd mi ml mr (qV kd mr K)
def c_X12_findCost_44 (l : Launch) (d : Nat) (kd : pm_K) (mr : pm_R) (h : Nat) (x2 : Int32) (x3 : Int32) (mi : pm_I) (ml : pm_L) (K : pm_I → pm_L → Prop) : Prop := wp l M_X12_findCost d 0 0 44 [some (.ref h), none, some (.int x2), some (.int x3), none, none, none] [] 0 0 kd mi ml mr (qV kd mr K)
def c_X12_findCost_36 (l : Launch) (d : Nat) (kd : pm_K) (mr : pm_R) (h : Nat) (x2 : Int32) (mi : pm_I) (ml : pm_L) (K : pm_I → pm_L → Prop) : Prop := wp l M_X12_findCost d 0 0 36 [some (.ref h), none, some (.int x2), none, none, none, none] [] 0 0 kd mi ml mr (qV kd mr K)
def c_X12_findCost_2 (l : Launch) (d : Nat) (kd : pm_K) (mr : pm_R) (h : Nat) (x1 : Int32) (x2 : Int32) (mi : pm_I) (ml : pm_L) (K : pm_I → pm_L → Prop) : Prop := wp l M_X12_findCost d 0 0 2 [some (.ref h), some (.int x1), some (.int x2), none, none, none, none] [] 0 0 kd mi ml mr (qV kd mr K)
theorem w_X12_findCost_2 {l : Launch} {d : Nat} {kd : pm_K} {mr : pm_R} {h : Nat} {x1 : Int32} {x2 : Int32} {mi : pm_I} {ml : pm_L} {K : pm_I → pm_L → Prop} (th : TX12s kd mr h)
    (F : (((mi h 27) ≤ x2 → c_X12_findCost_36 l (d + 1) kd mr h 1 mi ml K) ∧ (¬ (mi h 27) ≤ x2 → vp_in x2 64 ∧ c_X12_findCost_2 l (d + 1) kd mr h x1 (x2 + 1) (pm_up mi (h + 12) (Int32.toNatClampNeg x2) (if x2 = x1 then (0 : Int32) else (1000000 : Int32))) ml K))) :
    c_X12_findCost_2 l (d + 1) kd mr h x1 x2 mi ml K := by
  show wp l M_X12_findCost (d + 1) 0 0 2 [some (.ref h), some (.int x1), some (.int x2), none, none, none, none] [] 0 0 kd mi ml mr _
  refine wp_iload_n (pc := 2) dX12_findCost_2 rfl ?_
  refine wp_aload_n (pc := 3) dX12_findCost_3 rfl ?_
  refine wp_getI (pc := 4) dX12_findCost_4 fl_X12_331 rfl (TX12s_k th) ?_
  refine wp_icmp_ge (tgt := 34) (pc := 7) dX12_findCost_7 (by decide) (fun c1 => ?_) (fun c1 => ?_)
  · have F := F.1 c1
    refine wp_iconst (v := 1) (pc := 34) dX12_findCost_34 (by decide) ?_
    refine wp_istore_n (pc := 35) dX12_findCost_35 (Nat.le_of_ble_eq_true rfl) rfl ?_
    show wp l M_X12_findCost (d + 1) 0 0 _ [some (.ref h), some (.int x1), some (.int 1), none, none, none, none] _ 0 0 kd _ _ mr _
    exact wp_less (L' := [some (.ref h), none, some (.int 1), none, none, none, none]) ⟨rfl, ⟨rfl, trivial⟩⟩ F
  · have F := F.2 c1
    refine wp_aload_n (pc := 10) dX12_findCost_10 rfl ?_
    refine wp_getR (pc := 11) dX12_findCost_11 fl_X12_44 rfl (TX12s_k th) (TX12s_r31 th) ?_
    refine wp_iload_n (pc := 14) dX12_findCost_14 rfl ?_
    refine wp_iload_n (pc := 15) dX12_findCost_15 rfl ?_
    refine wp_iload_n (pc := 16) dX12_findCost_16 rfl ?_
    suffices J2 : ∀ v3 : Int32, v3 = (if x2 = x1 then (0 : Int32) else (1000000 : Int32)) → wp l M_X12_findCost (d + 1) 0 0 27 [some (.ref h), some (.int x1), some (.int x2), none, none, none, none] [.int v3, .int x2, .ref (h + 12)] 0 0 kd mi ml mr _ by
        refine wp_icmp_ne (tgt := 24) (pc := 17) dX12_findCost_17 (by decide) (fun c4 => ?_) (fun c4 => ?_)
        · refine wp_ldcw (v := 1000000) (pc := 24) dX12_findCost_24 (tb_7 197 rfl rfl) ?_
          exact J2 _ (by simp only [c4, if_true, if_false, decide_true, decide_false, Bool.not_true, Bool.not_false, Bool.true_and, Bool.false_and, Bool.true_or, Bool.false_or, b2i_t, b2i_f, ite_true, ite_false, not_true_eq_false, not_false_eq_true, reduceCtorEq, decide_eq_true_eq])
        · refine wp_iconst (v := 0) (pc := 20) dX12_findCost_20 (by decide) ?_
          refine wp_goto (tgt := 27) (pc := 21) dX12_findCost_21 (by decide) ?_
          exact J2 _ (by simp only [eq_true c4, if_true, if_false, decide_true, decide_false, Bool.not_true, Bool.not_false, Bool.true_and, Bool.false_and, Bool.true_or, Bool.false_or, b2i_t, b2i_f, ite_true, ite_false, not_true_eq_false, not_false_eq_true, reduceCtorEq, decide_eq_true_eq])
    intro v3 ev3
    subst ev3
    refine wp_iast (pc := 27) dX12_findCost_27 (TX12s_a31 th) F.1 ?_
    have F := F.2
    refine wp_iinc (v := (x2 + 1)) (pc := 28) dX12_findCost_28 rfl rfl rfl ?_
    show wp l M_X12_findCost (d + 1) 0 0 _ [some (.ref h), some (.int x1), some (.int (x2 + 1)), none, none, none, none] _ 0 0 kd _ _ mr _
    refine wp_goto (tgt := 2) (pc := 31) dX12_findCost_31 (by decide) ?_
    exact wp_less (L' := [some (.ref h), some (.int x1), some (.int (x2 + 1)), none, none, none, none]) ⟨rfl, ⟨rfl, ⟨rfl, trivial⟩⟩⟩ F
theorem w_X12_findCost_36 {l : Launch} {d : Nat} {kd : pm_K} {mr : pm_R} {h : Nat} {x2 : Int32} {mi : pm_I} {ml : pm_L} {K : pm_I → pm_L → Prop} (th : TX12s kd mr h)
    (F : ((x2 = 0 → K mi ml) ∧ (¬ x2 = 0 → c_X12_findCost_44 l (d + 1) kd mr h 0 0 mi ml K))) :
    c_X12_findCost_36 l (d + 1) kd mr h x2 mi ml K := by
  show wp l M_X12_findCost (d + 1) 0 0 36 [some (.ref h), none, some (.int x2), none, none, none, none] [] 0 0 kd mi ml mr _
  refine wp_iload_n (pc := 36) dX12_findCost_36 rfl ?_
  refine wp_if_eq (tgt := 143) (pc := 37) dX12_findCost_37 (by decide) (fun c5 => ?_) (fun c5 => ?_)
  · have F := F.1 c5
    exact r_V (pc := 143) dX12_findCost_143 rfl F
  · have F := F.2 c5
    refine wp_iconst (v := 0) (pc := 40) dX12_findCost_40 (by decide) ?_
    refine wp_istore_n (pc := 41) dX12_findCost_41 (Nat.le_of_ble_eq_true rfl) rfl ?_
    show wp l M_X12_findCost (d + 1) 0 0 _ [some (.ref h), none, some (.int 0), none, none, none, none] _ 0 0 kd _ _ mr _
    refine wp_iconst (v := 0) (pc := 42) dX12_findCost_42 (by decide) ?_
    refine wp_istore_n (pc := 43) dX12_findCost_43 (Nat.le_of_ble_eq_true rfl) rfl ?_
    show wp l M_X12_findCost (d + 1) 0 0 _ [some (.ref h), none, some (.int 0), some (.int 0), none, none, none] _ 0 0 kd _ _ mr _
    exact wp_less (L' := [some (.ref h), none, some (.int 0), some (.int 0), none, none, none]) ⟨rfl, ⟨rfl, ⟨rfl, trivial⟩⟩⟩ F
theorem w_X12_findCost_44 {l : Launch} {d : Nat} {kd : pm_K} {mr : pm_R} {h : Nat} {x2 : Int32} {x3 : Int32} {mi : pm_I} {ml : pm_L} {K : pm_I → pm_L → Prop} (th : TX12s kd mr h)
    (F : (((mi h 27) ≤ x3 → c_X12_findCost_36 l (d + 1) kd mr h x2 mi ml K) ∧ (¬ (mi h 27) ≤ x3 → c_X12_findCost_55 l (d + 1) kd mr h x2 x3 0 mi ml K))) :
    c_X12_findCost_44 l (d + 1) kd mr h x2 x3 mi ml K := by
  show wp l M_X12_findCost (d + 1) 0 0 44 [some (.ref h), none, some (.int x2), some (.int x3), none, none, none] [] 0 0 kd mi ml mr _
  refine wp_iload_n (pc := 44) dX12_findCost_44 rfl ?_
  refine wp_aload_n (pc := 45) dX12_findCost_45 rfl ?_
  refine wp_getI (pc := 46) dX12_findCost_46 fl_X12_331 rfl (TX12s_k th) ?_
  refine wp_icmp_ge (tgt := 140) (pc := 49) dX12_findCost_49 (by decide) (fun c6 => ?_) (fun c6 => ?_)
  · have F := F.1 c6
    refine wp_goto (tgt := 36) (pc := 140) dX12_findCost_140 (by decide) ?_
    exact wp_less (L' := [some (.ref h), none, some (.int x2), none, none, none, none]) ⟨rfl, ⟨rfl, trivial⟩⟩ F
  · have F := F.2 c6
    refine wp_iconst (v := 0) (pc := 52) dX12_findCost_52 (by decide) ?_
    refine wp_istore (pc := 53) dX12_findCost_53 (Nat.le_of_ble_eq_true rfl) rfl ?_
    show wp l M_X12_findCost (d + 1) 0 0 _ [some (.ref h), none, some (.int x2), some (.int x3), some (.int 0), none, none] _ 0 0 kd _ _ mr _
    exact wp_less (L' := [some (.ref h), none, some (.int x2), some (.int x3), some (.int 0), none, none]) ⟨rfl, ⟨rfl, ⟨rfl, ⟨rfl, trivial⟩⟩⟩⟩ F
theorem w_X12_findCost_55 {l : Launch} {d : Nat} {kd : pm_K} {mr : pm_R} {h : Nat} {x2 : Int32} {x3 : Int32} {x4 : Int32} {mi : pm_I} {ml : pm_L} {K : pm_I → pm_L → Prop} (th : TX12s kd mr h)
    (F : ((4 ≤ x4 → c_X12_findCost_44 l (d + 1) kd mr h x2 (x3 + 1) mi ml K) ∧ (¬ 4 ≤ x4 → wI l M_X12_next d [.ref h, .int x3, .int x4] kd mr mi ml (fun r8 mi9 ml10 => ((¬ r8 = (-1) → vp_in x3 64 ∧ wI l M_X12_stepCost d [.ref h, .int r8, .int x4] kd mr mi9 ml10 (fun r12 mi13 ml14 => c_X12_findCost_97 l (d + 1) kd mr h x2 x3 x4 r8 ((mi9 (h + 12) (Int32.toNatClampNeg x3)) + r12) mi13 ml14 K)) ∧ (r8 = (-1) → c_X12_findCost_97 l (d + 1) kd mr h x2 x3 x4 r8 1000000 mi9 ml10 K)))))) :
    c_X12_findCost_55 l (d + 1) kd mr h x2 x3 x4 mi ml K := by
  show wp l M_X12_findCost (d + 1) 0 0 55 [some (.ref h), none, some (.int x2), some (.int x3), some (.int x4), none, none] [] 0 0 kd mi ml mr _
  refine wp_iload (pc := 55) dX12_findCost_55 rfl ?_
  refine wp_iconst (v := 4) (pc := 57) dX12_findCost_57 (by decide) ?_
  refine wp_icmp_ge (tgt := 134) (pc := 58) dX12_findCost_58 (by decide) (fun c7 => ?_) (fun c7 => ?_)
  · have F := F.1 c7
    refine wp_iinc (v := (x3 + 1)) (pc := 134) dX12_findCost_134 rfl rfl rfl ?_
    show wp l M_X12_findCost (d + 1) 0 0 _ [some (.ref h), none, some (.int x2), some (.int (x3 + 1)), some (.int x4), none, none] _ 0 0 kd _ _ mr _
    refine wp_goto (tgt := 44) (pc := 137) dX12_findCost_137 (by decide) ?_
    exact wp_less (L' := [some (.ref h), none, some (.int x2), some (.int (x3 + 1)), none, none, none]) ⟨rfl, ⟨rfl, ⟨rfl, trivial⟩⟩⟩ F
  · have F := F.2 c7
    refine wp_aload_n (pc := 61) dX12_findCost_61 rfl ?_
    refine wp_iload_n (pc := 62) dX12_findCost_62 rfl ?_
    refine wp_iload (pc := 63) dX12_findCost_63 rfl ?_
    refine cvI [.int x3, .int x4] [] (pc := 65) dX12_findCost_65 ml_X12_340 iv_X12_next (TX12s_k th) (cl_X12 rfl) rfl rfl (Nat.le_of_ble_eq_true rfl) (Nat.le_of_ble_eq_true rfl) (wI.mono (fun r8 mi9 ml10 F => ?_) F)
    refine wp_istore (pc := 68) dX12_findCost_68 (Nat.le_of_ble_eq_true rfl) rfl ?_
    show wp l M_X12_findCost (d + 1) 0 0 _ [some (.ref h), none, some (.int x2), some (.int x3), some (.int x4), some (.int r8), none] _ 0 0 kd _ _ mr _
    refine wp_iload (pc := 70) dX12_findCost_70 rfl ?_
    refine wp_iconst (v := -1) (pc := 72) dX12_findCost_72 (by decide) ?_
    refine wp_icmp_ne (tgt := 82) (pc := 73) dX12_findCost_73 (by decide) (fun c11 => ?_) (fun c11 => ?_)
    · have F := F.1 c11
      refine wp_aload_n (pc := 82) dX12_findCost_82 rfl ?_
      refine wp_getR (pc := 83) dX12_findCost_83 fl_X12_44 rfl (TX12s_k th) (TX12s_r31 th) ?_
      refine wp_iload_n (pc := 86) dX12_findCost_86 rfl ?_
      refine wp_iald (pc := 87) dX12_findCost_87 (TX12s_a31 th) F.1 ?_
      have F := F.2
      refine wp_aload_n (pc := 88) dX12_findCost_88 rfl ?_
      refine wp_iload (pc := 89) dX12_findCost_89 rfl ?_
      refine wp_iload (pc := 91) dX12_findCost_91 rfl ?_
      refine cvI [.int r8, .int x4] [.int (mi9 (h + 12) (Int32.toNatClampNeg x3))] (pc := 93) dX12_findCost_93 ml_X12_371 iv_X12_stepCost (TX12s_k th) (cl_X12 rfl) rfl rfl (Nat.le_of_ble_eq_true rfl) (Nat.le_of_ble_eq_true rfl) (wI.mono (fun r12 mi13 ml14 F => ?_) F)
      refine wp_iadd (pc := 96) dX12_findCost_96 ?_
      exact wp_less (L' := [some (.ref h), none, some (.int x2), some (.int x3), some (.int x4), some (.int r8), none]) ⟨rfl, ⟨rfl, ⟨rfl, ⟨rfl, ⟨rfl, trivial⟩⟩⟩⟩⟩ F
    · have F := F.2 c11
      refine wp_ldcw (v := 1000000) (pc := 76) dX12_findCost_76 (tb_7 197 rfl rfl) ?_
      refine wp_goto (tgt := 97) (pc := 79) dX12_findCost_79 (by decide) ?_
      exact wp_less (L' := [some (.ref h), none, some (.int x2), some (.int x3), some (.int x4), some (.int r8), none]) ⟨rfl, ⟨rfl, ⟨rfl, ⟨rfl, ⟨rfl, trivial⟩⟩⟩⟩⟩ F
theorem w_X12_findCost_97 {l : Launch} {d : Nat} {kd : pm_K} {mr : pm_R} {h : Nat} {x2 : Int32} {x3 : Int32} {x4 : Int32} {x5 : Int32} {s0 : Int32} {mi : pm_I} {ml : pm_L} {K : pm_I → pm_L → Prop} (th : TX12s kd mr h)
    (F : ((x5 = (-1) → c_X12_findCost_128 l (d + 1) kd mr h x2 x3 x4 mi ml K) ∧ (¬ x5 = (-1) → vp_in x5 64 ∧ (((mi (h + 12) (Int32.toNatClampNeg x5)) ≤ s0 → c_X12_findCost_128 l (d + 1) kd mr h x2 x3 x4 mi ml K) ∧ (¬ (mi (h + 12) (Int32.toNatClampNeg x5)) ≤ s0 → vp_in x5 64 ∧ c_X12_findCost_128 l (d + 1) kd mr h 1 x3 x4 (pm_up mi (h + 12) (Int32.toNatClampNeg x5) s0) ml K))))) :
    c_X12_findCost_97 l (d + 1) kd mr h x2 x3 x4 x5 s0 mi ml K := by
  show wp l M_X12_findCost (d + 1) 0 0 97 [some (.ref h), none, some (.int x2), some (.int x3), some (.int x4), some (.int x5), none] [.int s0] 0 0 kd mi ml mr _
  refine wp_istore (pc := 97) dX12_findCost_97 (Nat.le_of_ble_eq_true rfl) rfl ?_
  show wp l M_X12_findCost (d + 1) 0 0 _ [some (.ref h), none, some (.int x2), some (.int x3), some (.int x4), some (.int x5), some (.int s0)] _ 0 0 kd _ _ mr _
  refine wp_iload (pc := 99) dX12_findCost_99 rfl ?_
  refine wp_iconst (v := -1) (pc := 101) dX12_findCost_101 (by decide) ?_
  refine wp_icmp_eq (tgt := 128) (pc := 102) dX12_findCost_102 (by decide) (fun c15 => ?_) (fun c15 => ?_)
  · have F := F.1 c15
    exact wp_less (L' := [some (.ref h), none, some (.int x2), some (.int x3), some (.int x4), none, none]) ⟨rfl, ⟨rfl, ⟨rfl, ⟨rfl, trivial⟩⟩⟩⟩ F
  · have F := F.2 c15
    refine wp_iload (pc := 105) dX12_findCost_105 rfl ?_
    refine wp_aload_n (pc := 107) dX12_findCost_107 rfl ?_
    refine wp_getR (pc := 108) dX12_findCost_108 fl_X12_44 rfl (TX12s_k th) (TX12s_r31 th) ?_
    refine wp_iload (pc := 111) dX12_findCost_111 rfl ?_
    refine wp_iald (pc := 113) dX12_findCost_113 (TX12s_a31 th) F.1 ?_
    have F := F.2
    refine wp_icmp_ge (tgt := 128) (pc := 114) dX12_findCost_114 (by decide) (fun c16 => ?_) (fun c16 => ?_)
    · have F := F.1 c16
      exact wp_less (L' := [some (.ref h), none, some (.int x2), some (.int x3), some (.int x4), none, none]) ⟨rfl, ⟨rfl, ⟨rfl, ⟨rfl, trivial⟩⟩⟩⟩ F
    · have F := F.2 c16
      refine wp_aload_n (pc := 117) dX12_findCost_117 rfl ?_
      refine wp_getR (pc := 118) dX12_findCost_118 fl_X12_44 rfl (TX12s_k th) (TX12s_r31 th) ?_
      refine wp_iload (pc := 121) dX12_findCost_121 rfl ?_
      refine wp_iload (pc := 123) dX12_findCost_123 rfl ?_
      refine wp_iast (pc := 125) dX12_findCost_125 (TX12s_a31 th) F.1 ?_
      have F := F.2
      refine wp_iconst (v := 1) (pc := 126) dX12_findCost_126 (by decide) ?_
      refine wp_istore_n (pc := 127) dX12_findCost_127 (Nat.le_of_ble_eq_true rfl) rfl ?_
      show wp l M_X12_findCost (d + 1) 0 0 _ [some (.ref h), none, some (.int 1), some (.int x3), some (.int x4), some (.int x5), some (.int s0)] _ 0 0 kd _ _ mr _
      exact wp_less (L' := [some (.ref h), none, some (.int 1), some (.int x3), some (.int x4), none, none]) ⟨rfl, ⟨rfl, ⟨rfl, ⟨rfl, trivial⟩⟩⟩⟩ F
theorem w_X12_findCost_128 {l : Launch} {d : Nat} {kd : pm_K} {mr : pm_R} {h : Nat} {x2 : Int32} {x3 : Int32} {x4 : Int32} {mi : pm_I} {ml : pm_L} {K : pm_I → pm_L → Prop} (th : TX12s kd mr h)
    (F : c_X12_findCost_55 l (d + 1) kd mr h x2 x3 (x4 + 1) mi ml K) :
    c_X12_findCost_128 l (d + 1) kd mr h x2 x3 x4 mi ml K := by
  show wp l M_X12_findCost (d + 1) 0 0 128 [some (.ref h), none, some (.int x2), some (.int x3), some (.int x4), none, none] [] 0 0 kd mi ml mr _
  refine wp_iinc (v := (x4 + 1)) (pc := 128) dX12_findCost_128 rfl rfl rfl ?_
  show wp l M_X12_findCost (d + 1) 0 0 _ [some (.ref h), none, some (.int x2), some (.int x3), some (.int (x4 + 1)), none, none] _ 0 0 kd _ _ mr _
  refine wp_goto (tgt := 55) (pc := 131) dX12_findCost_131 (by decide) ?_
  exact wp_less (L' := [some (.ref h), none, some (.int x2), some (.int x3), some (.int (x4 + 1)), none, none]) ⟨rfl, ⟨rfl, ⟨rfl, ⟨rfl, trivial⟩⟩⟩⟩ F
/-- findCost(I)V -/
theorem w_X12_findCost {l : Launch} {d : Nat} {kd : pm_K} {mr : pm_R} {h : Nat} {x1 : Int32} {mi : pm_I} {ml : pm_L} {K : pm_I → pm_L → Prop} (th : TX12s kd mr h)
    (F : c_X12_findCost_2 l (d + 1) kd mr h x1 0 mi ml K) :
    wV l M_X12_findCost (d + 1) [.ref h, .int x1] kd mr mi ml K := by
  show wp l M_X12_findCost (d + 1) 0 0 0 [some (.ref h), some (.int x1), none, none, none, none, none] [] 0 0 kd mi ml mr _
  refine wp_iconst (v := 0) (pc := 0) dX12_findCost_0 (by decide) ?_
  refine wp_istore_n (pc := 1) dX12_findCost_1 (Nat.le_of_ble_eq_true rfl) rfl ?_
  show wp l M_X12_findCost (d + 1) 0 0 _ [some (.ref h), some (.int x1), some (.int 0), none, none, none, none] _ 0 0 kd _ _ mr _
  exact wp_less (L' := [some (.ref h), some (.int x1), some (.int 0), none, none, none, none]) ⟨rfl, ⟨rfl, ⟨rfl, trivial⟩⟩⟩ F
/-- next(II)I -/
theorem w_X12_next {l : Launch} {d : Nat} {kd : pm_K} {mr : pm_R} {h : Nat} {x1 : Int32} {x2 : Int32} {mi : pm_I} {ml : pm_L} {K : Int32 → pm_I → pm_L → Prop} (th : TX12s kd mr h)
    (F : (((x2).toInt < 0 ∨ 3 < (x2).toInt → K x1 mi ml) ∧ ((x2).toInt = 0 → K (if (mi h 26) ≤ x1 then (x1 - (mi h 26)) else ((-1) : Int32)) mi ml) ∧ ((x2).toInt = 1 → ¬ (mi h 26) = 0 ∧ K (if ((x1 - x1 / (mi h 26) * (mi h 26)) + 1) = (mi h 26) then ((-1) : Int32) else (x1 + 1)) mi ml) ∧ ((x2).toInt = 2 → K (if (x1 + (mi h 26)) < (mi h 27) then (x1 + (mi h 26)) else ((-1) : Int32)) mi ml) ∧ ((x2).toInt = 3 → ¬ (mi h 26) = 0 ∧ K (if (x1 - x1 / (mi h 26) * (mi h 26)) = 0 then ((-1) : Int32) else (x1 - 1)) mi ml))) :
    wI l M_X12_next d [.ref h, .int x1, .int x2] kd mr mi ml K := by
  show wp l M_X12_next d 0 0 0 [some (.ref h), some (.int x1), some (.int x2)] [] 0 0 kd mi ml mr _
  refine wp_iload_n (pc := 0) dX12_next_0 rfl ?_
  by_cases c1 : (x2).toInt < 0 ∨ 3 < (x2).toInt
  · have F := F.1 c1
    refine wp_tableOut (tgt := 115) (pc := 1) dX12_next_1 c1 (by decide) ?_
    refine wp_iload_n (pc := 115) dX12_next_115 rfl ?_
    exact r_I (pc := 116) dX12_next_116 rfl F
  have c1 : (x2).toInt = 0 ∨ (x2).toInt = 1 ∨ (x2).toInt = 2 ∨ (x2).toInt = 3 := by omega
  have F := F.2
  rcases c1 with c1 | c1 | c1 | c1
  · have F := F.1 c1
    refine wp_tableIn (tgt := 32) (pc := 1) dX12_next_1 c1 (by decide) (by decide) rfl (by decide) ?_
    refine wp_iload_n (pc := 32) dX12_next_32 rfl ?_
    refine wp_aload_n (pc := 33) dX12_next_33 rfl ?_
    refine wp_getI (pc := 34) dX12_next_34 fl_X12_328 rfl (TX12s_k th) ?_
    suffices J2 : ∀ v3 : Int32, v3 = (if (mi h 26) ≤ x1 then (x1 - (mi h 26)) else ((-1) : Int32)) → wp l M_X12_next d 0 0 50 [some (.ref h), some (.int x1), some (.int x2)] [.int v3] 0 0 kd mi ml mr _ by
        refine wp_icmp_ge (tgt := 44) (pc := 37) dX12_next_37 (by decide) (fun c4 => ?_) (fun c4 => ?_)
        · refine wp_iload_n (pc := 44) dX12_next_44 rfl ?_
          refine wp_aload_n (pc := 45) dX12_next_45 rfl ?_
          refine wp_getI (pc := 46) dX12_next_46 fl_X12_328 rfl (TX12s_k th) ?_
          refine wp_isub (pc := 49) dX12_next_49 ?_
          exact J2 _ (by simp only [eq_true c4, if_true, if_false, decide_true, decide_false, Bool.not_true, Bool.not_false, Bool.true_and, Bool.false_and, Bool.true_or, Bool.false_or, b2i_t, b2i_f, ite_true, ite_false, not_true_eq_false, not_false_eq_true, reduceCtorEq, decide_eq_true_eq])
        · refine wp_iconst (v := -1) (pc := 40) dX12_next_40 (by decide) ?_
          refine wp_goto (tgt := 50) (pc := 41) dX12_next_41 (by decide) ?_
          exact J2 _ (by simp only [c4, if_true, if_false, decide_true, decide_false, Bool.not_true, Bool.not_false, Bool.true_and, Bool.false_and, Bool.true_or, Bool.false_or, b2i_t, b2i_f, ite_true, ite_false, not_true_eq_false, not_false_eq_true, reduceCtorEq, decide_eq_true_eq])
    intro v3 ev3
    subst ev3
    exact r_I (pc := 50) dX12_next_50 rfl F
  · have F := F.2.1 c1
    refine wp_tableIn (tgt := 51) (pc := 1) dX12_next_1 c1 (by decide) (by decide) rfl (by decide) ?_
    refine wp_iload_n (pc := 51) dX12_next_51 rfl ?_
    refine wp_aload_n (pc := 52) dX12_next_52 rfl ?_
    refine wp_getI (pc := 53) dX12_next_53 fl_X12_328 rfl (TX12s_k th) ?_
    refine wp_irem (pc := 56) dX12_next_56 F.1 ?_
    have F := F.2
    refine wp_iconst (v := 1) (pc := 57) dX12_next_57 (by decide) ?_
    refine wp_iadd (pc := 58) dX12_next_58 ?_
    refine wp_aload_n (pc := 59) dX12_next_59 rfl ?_
    refine wp_getI (pc := 60) dX12_next_60 fl_X12_328 rfl (TX12s_k th) ?_
    suffices J5 : ∀ v6 : Int32, v6 = (if ((x1 - x1 / (mi h 26) * (mi h 26)) + 1) = (mi h 26) then ((-1) : Int32) else (x1 + 1)) → wp l M_X12_next d 0 0 73 [some (.ref h), some (.int x1), some (.int x2)] [.int v6] 0 0 kd mi ml mr _ by
        refine wp_icmp_ne (tgt := 70) (pc := 63) dX12_next_63 (by decide) (fun c7 => ?_) (fun c7 => ?_)
        · refine wp_iload_n (pc := 70) dX12_next_70 rfl ?_
          refine wp_iconst (v := 1) (pc := 71) dX12_next_71 (by decide) ?_
          refine wp_iadd (pc := 72) dX12_next_72 ?_
          exact J5 _ (by simp only [c7, if_true, if_false, decide_true, decide_false, Bool.not_true, Bool.not_false, Bool.true_and, Bool.false_and, Bool.true_or, Bool.false_or, b2i_t, b2i_f, ite_true, ite_false, not_true_eq_false, not_false_eq_true, reduceCtorEq, decide_eq_true_eq])
        · refine wp_iconst (v := -1) (pc := 66) dX12_next_66 (by decide) ?_
          refine wp_goto (tgt := 73) (pc := 67) dX12_next_67 (by decide) ?_
          exact J5 _ (by simp only [eq_true c7, if_true, if_false, decide_true, decide_false, Bool.not_true, Bool.not_false, Bool.true_and, Bool.false_and, Bool.true_or, Bool.false_or, b2i_t, b2i_f, ite_true, ite_false, not_true_eq_false, not_false_eq_true, reduceCtorEq, decide_eq_true_eq])
    intro v6 ev6
    subst ev6
    exact r_I (pc := 73) dX12_next_73 rfl F
  · have F := F.2.2.1 c1
    refine wp_tableIn (tgt := 74) (pc := 1) dX12_next_1 c1 (by decide) (by decide) rfl (by decide) ?_
    refine wp_iload_n (pc := 74) dX12_next_74 rfl ?_
    refine wp_aload_n (pc := 75) dX12_next_75 rfl ?_
    refine wp_getI (pc := 76) dX12_next_76 fl_X12_328 rfl (TX12s_k th) ?_
    refine wp_iadd (pc := 79) dX12_next_79 ?_
    refine wp_aload_n (pc := 80) dX12_next_80 rfl ?_
    refine wp_getI (pc := 81) dX12_next_81 fl_X12_331 rfl (TX12s_k th) ?_
    suffices J8 : ∀ v9 : Int32, v9 = (if (x1 + (mi h 26)) < (mi h 27) then (x1 + (mi h 26)) else ((-1) : Int32)) → wp l M_X12_next d 0 0 97 [some (.ref h), some (.int x1), some (.int x2)] [.int v9] 0 0 kd mi ml mr _ by
        refine wp_icmp_lt (tgt := 91) (pc := 84) dX12_next_84 (by decide) (fun c10 => ?_) (fun c10 => ?_)
        · refine wp_iload_n (pc := 91) dX12_next_91 rfl ?_
          refine wp_aload_n (pc := 92) dX12_next_92 rfl ?_
          refine wp_getI (pc := 93) dX12_next_93 fl_X12_328 rfl (TX12s_k th) ?_
          refine wp_iadd (pc := 96) dX12_next_96 ?_
          exact J8 _ (by simp only [eq_true c10, if_true, if_false, decide_true, decide_false, Bool.not_true, Bool.not_false, Bool.true_and, Bool.false_and, Bool.true_or, Bool.false_or, b2i_t, b2i_f, ite_true, ite_false, not_true_eq_false, not_false_eq_true, reduceCtorEq, decide_eq_true_eq])
        · refine wp_iconst (v := -1) (pc := 87) dX12_next_87 (by decide) ?_
          refine wp_goto (tgt := 97) (pc := 88) dX12_next_88 (by decide) ?_
          exact J8 _ (by simp only [c10, if_true, if_false, decide_true, decide_false, Bool.not_true, Bool.not_false, Bool.true_and, Bool.false_and, Bool.true_or, Bool.false_or, b2i_t, b2i_f, ite_true, ite_false, not_true_eq_false, not_false_eq_true, reduceCtorEq, decide_eq_true_eq])
    intro v9 ev9
    subst ev9
    exact r_I (pc := 97) dX12_next_97 rfl F
  · have F := F.2.2.2 c1
    refine wp_tableIn (tgt := 98) (pc := 1) dX12_next_1 c1 (by decide) (by decide) rfl (by decide) ?_
    refine wp_iload_n (pc := 98) dX12_next_98 rfl ?_
    refine wp_aload_n (pc := 99) dX12_next_99 rfl ?_
    refine wp_getI (pc := 100) dX12_next_100 fl_X12_328 rfl (TX12s_k th) ?_
    refine wp_irem (pc := 103) dX12_next_103 F.1 ?_
    have F := F.2
    suffices J11 : ∀ v12 : Int32, v12 = (if (x1 - x1 / (mi h 26) * (mi h 26)) = 0 then ((-1) : Int32) else (x1 - 1)) → wp l M_X12_next d 0 0 114 [some (.ref h), some (.int x1), some (.int x2)] [.int v12] 0 0 kd mi ml mr _ by
        refine wp_if_ne (tgt := 111) (pc := 104) dX12_next_104 (by decide) (fun c13 => ?_) (fun c13 => ?_)
        · refine wp_iload_n (pc := 111) dX12_next_111 rfl ?_
          refine wp_iconst (v := 1) (pc := 112) dX12_next_112 (by decide) ?_
          refine wp_isub (pc := 113) dX12_next_113 ?_
          exact J11 _ (by simp only [c13, if_true, if_false, decide_true, decide_false, Bool.not_true, Bool.not_false, Bool.true_and, Bool.false_and, Bool.true_or, Bool.false_or, b2i_t, b2i_f, ite_true, ite_false, not_true_eq_false, not_false_eq_true, reduceCtorEq, decide_eq_true_eq])
        · refine wp_iconst (v := -1) (pc := 107) dX12_next_107 (by decide) ?_
          refine wp_goto (tgt := 114) (pc := 108) dX12_next_108 (by decide) ?_
          exact J11 _ (by simp only [eq_true c13, if_true, if_false, decide_true, decide_false, Bool.not_true, Bool.not_false, Bool.true_and, Bool.false_and, Bool.true_or, Bool.false_or, b2i_t, b2i_f, ite_true, ite_false, not_true_eq_false, not_false_eq_true, reduceCtorEq, decide_eq_true_eq])
    intro v12 ev12
    subst ev12
    exact r_I (pc := 114) dX12_next_114 rfl F
/-- stepCost(II)I -/
theorem w_X12_stepCost {l : Launch} {d : Nat} {kd : pm_K} {mr : pm_R} {h : Nat} {x1 : Int32} {x2 : Int32} {mi : pm_I} {ml : pm_L} {K : Int32 → pm_I → pm_L → Prop} (th : TX12s kd mr h)
    (F : wB l M_X12_isWall d [.ref h, .int x1] kd mr mi ml (fun r1 mi2 ml3 => wI l M_X12_of d [.ref h, .int 2] kd mr mi2 ml3 (fun r7 mi8 ml9 => ((4 ≤ r7 → K ((1 + (if r1 = true then (2 : Int32) else (0 : Int32))) + 0) mi8 ml9) ∧ (¬ 4 ≤ r7 → wI l M_X12_of d [.ref h, .int 2] kd mr mi8 ml9 (fun r11 mi12 ml13 => K ((1 + (if r1 = true then (2 : Int32) else (0 : Int32))) + (b2i (decide (((r11 + 2) - (r11 + 2) / 4 * 4) = x2)))) mi12 ml13)))))) :
    wI l M_X12_stepCost (d + 1) [.ref h, .int x1, .int x2] kd mr mi ml K := by
  show wp l M_X12_stepCost (d + 1) 0 0 0 [some (.ref h), some (.int x1), some (.int x2)] [] 0 0 kd mi ml mr _
  refine wp_iconst (v := 1) (pc := 0) dX12_stepCost_0 (by decide) ?_
  refine wp_aload_n (pc := 1) dX12_stepCost_1 rfl ?_
  refine wp_iload_n (pc := 2) dX12_stepCost_2 rfl ?_
  refine cvB [.int x1] [.int 1] (pc := 3) dX12_stepCost_3 ml_X12_343 iv_X12_isWall (TX12s_k th) (cl_X12 rfl) rfl rfl (Nat.le_of_ble_eq_true rfl) (Nat.le_of_ble_eq_true rfl) (wB.mono (fun r1 mi2 ml3 F => ?_) F)
  suffices J4 : ∀ v5 : Int32, v5 = (if r1 = true then (2 : Int32) else (0 : Int32)) → wp l M_X12_stepCost (d + 1) 0 0 14 [some (.ref h), some (.int x1), some (.int x2)] [.int v5, .int 1] 0 0 kd mi2 ml3 mr _ by
      refine b_eq (tgt := 13) (pc := 6) dX12_stepCost_6 (by decide) (fun c6 => ?_) (fun c6 => ?_)
      · refine wp_iconst (v := 0) (pc := 13) dX12_stepCost_13 (by decide) ?_
        exact J4 _ (by simp only [c6, if_true, if_false, decide_true, decide_false, Bool.not_true, Bool.not_false, Bool.true_and, Bool.false_and, Bool.true_or, Bool.false_or, b2i_t, b2i_f, ite_true, ite_false, not_true_eq_false, not_false_eq_true, reduceCtorEq, decide_eq_true_eq])
      · refine wp_iconst (v := 2) (pc := 9) dX12_stepCost_9 (by decide) ?_
        refine wp_goto (tgt := 14) (pc := 10) dX12_stepCost_10 (by decide) ?_
        exact J4 _ (by simp only [c6, if_true, if_false, decide_true, decide_false, Bool.not_true, Bool.not_false, Bool.true_and, Bool.false_and, Bool.true_or, Bool.false_or, b2i_t, b2i_f, ite_true, ite_false, not_true_eq_false, not_false_eq_true, reduceCtorEq, decide_eq_true_eq])
  intro v5 ev5
  subst ev5
  refine wp_iadd (pc := 14) dX12_stepCost_14 ?_
  refine wp_aload_n (pc := 15) dX12_stepCost_15 rfl ?_
  refine wp_iconst (v := 2) (pc := 16) dX12_stepCost_16 (by decide) ?_
  refine cvI [.int 2] [.int (1 + (if r1 = true then (2 : Int32) else (0 : Int32)))] (pc := 17) dX12_stepCost_17 ml_X12_324 iv_X12_of (TX12s_k th) (cl_X12 rfl) rfl rfl (Nat.le_of_ble_eq_true rfl) (Nat.le_of_ble_eq_true rfl) (wI.mono (fun r7 mi8 ml9 F => ?_) F)
  refine wp_iconst (v := 4) (pc := 20) dX12_stepCost_20 (by decide) ?_
  refine wp_icmp_ge (tgt := 41) (pc := 21) dX12_stepCost_21 (by decide) (fun c10 => ?_) (fun c10 => ?_)
  · have F := F.1 c10
    refine wp_iconst (v := 0) (pc := 41) dX12_stepCost_41 (by decide) ?_
    refine wp_iadd (pc := 42) dX12_stepCost_42 ?_
    exact r_I (pc := 43) dX12_stepCost_43 rfl F
  · have F := F.2 c10
    refine wp_aload_n (pc := 24) dX12_stepCost_24 rfl ?_
    refine wp_iconst (v := 2) (pc := 25) dX12_stepCost_25 (by decide) ?_
    refine cvI [.int 2] [.int (1 + (if r1 = true then (2 : Int32) else (0 : Int32)))] (pc := 26) dX12_stepCost_26 ml_X12_324 iv_X12_of (TX12s_k th) (cl_X12 rfl) rfl rfl (Nat.le_of_ble_eq_true rfl) (Nat.le_of_ble_eq_true rfl) (wI.mono (fun r11 mi12 ml13 F => ?_) F)
    refine wp_iconst (v := 2) (pc := 29) dX12_stepCost_29 (by decide) ?_
    refine wp_iadd (pc := 30) dX12_stepCost_30 ?_
    refine wp_iconst (v := 4) (pc := 31) dX12_stepCost_31 (by decide) ?_
    refine wp_irem (pc := 32) dX12_stepCost_32 (by decide) ?_
    refine wp_iload_n (pc := 33) dX12_stepCost_33 rfl ?_
    suffices J14 : ∀ v15 : Int32, v15 = (b2i (decide (((r11 + 2) - (r11 + 2) / 4 * 4) = x2))) → wp l M_X12_stepCost (d + 1) 0 0 42 [some (.ref h), some (.int x1), some (.int x2)] [.int v15, .int (1 + (if r1 = true then (2 : Int32) else (0 : Int32)))] 0 0 kd mi12 ml13 mr _ by
        refine wp_icmp_ne (tgt := 41) (pc := 34) dX12_stepCost_34 (by decide) (fun c16 => ?_) (fun c16 => ?_)
        · refine wp_iconst (v := 0) (pc := 41) dX12_stepCost_41 (by decide) ?_
          exact J14 _ (by simp only [c16, if_true, if_false, decide_true, decide_false, Bool.not_true, Bool.not_false, Bool.true_and, Bool.false_and, Bool.true_or, Bool.false_or, b2i_t, b2i_f, ite_true, ite_false, not_true_eq_false, not_false_eq_true, reduceCtorEq, decide_eq_true_eq])
        · refine wp_iconst (v := 1) (pc := 37) dX12_stepCost_37 (by decide) ?_
          refine wp_goto (tgt := 42) (pc := 38) dX12_stepCost_38 (by decide) ?_
          exact J14 _ (by simp only [eq_true c16, if_true, if_false, decide_true, decide_false, Bool.not_true, Bool.not_false, Bool.true_and, Bool.false_and, Bool.true_or, Bool.false_or, b2i_t, b2i_f, ite_true, ite_false, not_true_eq_false, not_false_eq_true, reduceCtorEq, decide_eq_true_eq])
    intro v15 ev15
    subst ev15
    refine wp_iadd (pc := 42) dX12_stepCost_42 ?_
    exact r_I (pc := 43) dX12_stepCost_43 rfl F
/-- range(I)I -/
theorem w_X12_range {l : Launch} {d : Nat} {kd : pm_K} {mr : pm_R}  {x0 : Int32} {mi : pm_I} {ml : pm_L} {K : Int32 → pm_I → pm_L → Prop} 
    (F : K (if x0 = 0 then (3 : Int32) else (if x0 = 1 then (4 : Int32) else (if x0 = 2 then (6 : Int32) else (9 : Int32)))) mi ml) :
    wI l M_X12_range d [.int x0] kd mr mi ml K := by
  show wp l M_X12_range d 0 0 0 [some (.int x0)] [] 0 0 kd mi ml mr _
  refine wp_iload_n (pc := 0) dX12_range_0 rfl ?_
  suffices J1 : ∀ v2 : Int32, v2 = (if x0 = 0 then (3 : Int32) else (if x0 = 1 then (4 : Int32) else (if x0 = 2 then (6 : Int32) else (9 : Int32)))) → wp l M_X12_range d 0 0 29 [some (.int x0)] [.int v2] 0 0 kd mi ml mr _ by
      refine wp_if_ne (tgt := 8) (pc := 1) dX12_range_1 (by decide) (fun c3 => ?_) (fun c3 => ?_)
      · refine wp_iload_n (pc := 8) dX12_range_8 rfl ?_
        refine wp_iconst (v := 1) (pc := 9) dX12_range_9 (by decide) ?_
        refine wp_icmp_ne (tgt := 17) (pc := 10) dX12_range_10 (by decide) (fun c4 => ?_) (fun c4 => ?_)
        · refine wp_iload_n (pc := 17) dX12_range_17 rfl ?_
          refine wp_iconst (v := 2) (pc := 18) dX12_range_18 (by decide) ?_
          refine wp_icmp_ne (tgt := 27) (pc := 19) dX12_range_19 (by decide) (fun c5 => ?_) (fun c5 => ?_)
          · refine wp_bipush (v := 9) (pc := 27) dX12_range_27 (by decide) ?_
            exact J1 _ (by simp only [c3, c4, c5, if_true, if_false, decide_true, decide_false, Bool.not_true, Bool.not_false, Bool.true_and, Bool.false_and, Bool.true_or, Bool.false_or, b2i_t, b2i_f, ite_true, ite_false, not_true_eq_false, not_false_eq_true, reduceCtorEq, decide_eq_true_eq])
          · refine wp_bipush (v := 6) (pc := 22) dX12_range_22 (by decide) ?_
            refine wp_goto (tgt := 29) (pc := 24) dX12_range_24 (by decide) ?_
            exact J1 _ (by simp only [c3, c4, eq_true c5, if_true, if_false, decide_true, decide_false, Bool.not_true, Bool.not_false, Bool.true_and, Bool.false_and, Bool.true_or, Bool.false_or, b2i_t, b2i_f, ite_true, ite_false, not_true_eq_false, not_false_eq_true, reduceCtorEq, decide_eq_true_eq])
        · refine wp_iconst (v := 4) (pc := 13) dX12_range_13 (by decide) ?_
          refine wp_goto (tgt := 29) (pc := 14) dX12_range_14 (by decide) ?_
          exact J1 _ (by simp only [c3, eq_true c4, if_true, if_false, decide_true, decide_false, Bool.not_true, Bool.not_false, Bool.true_and, Bool.false_and, Bool.true_or, Bool.false_or, b2i_t, b2i_f, ite_true, ite_false, not_true_eq_false, not_false_eq_true, reduceCtorEq, decide_eq_true_eq])
      · refine wp_iconst (v := 3) (pc := 4) dX12_range_4 (by decide) ?_
        refine wp_goto (tgt := 29) (pc := 5) dX12_range_5 (by decide) ?_
        exact J1 _ (by simp only [eq_true c3, if_true, if_false, decide_true, decide_false, Bool.not_true, Bool.not_false, Bool.true_and, Bool.false_and, Bool.true_or, Bool.false_or, b2i_t, b2i_f, ite_true, ite_false, not_true_eq_false, not_false_eq_true, reduceCtorEq, decide_eq_true_eq])
  intro v2 ev2
  subst ev2
  exact r_I (pc := 29) dX12_range_29 rfl F
/-- obeys(III)V -/
theorem w_X12_obeys {l : Launch} {d : Nat} {kd : pm_K} {mr : pm_R} {h : Nat} {x1 : Int32} {x2 : Int32} {x3 : Int32} {mi : pm_I} {ml : pm_L} {K : pm_I → pm_L → Prop} (th : TX12s kd mr h)
    (F : (((x2).toInt < 0 ∨ 2 < (x2).toInt → wV l M_X12_marches d [.ref h, .int x1, .int x3] kd mr (pm_up mi h 38 ((mi h 38) + 1)) ml (fun mi3 ml4 => K mi3 ml4)) ∧ ((x2).toInt = 0 → K (pm_up (pm_up mi h 38 ((mi h 38) + 1)) h 36 ((mi h 36) ||| ((1 : Int32) <<< (x1 &&& 31)))) ml) ∧ ((x2).toInt = 1 → K (pm_up (pm_up mi h 38 ((mi h 38) + 1)) h 36 ((mi h 36) &&& (((1 : Int32) <<< (x1 &&& 31)) ^^^ (-1)))) ml) ∧ ((x2).toInt = 2 → wI l M_X12_of d [.ref h, .int (27 + x1)] kd mr (pm_up mi h 38 ((mi h 38) + 1)) ml (fun r5 mi6 ml7 => K (pm_up mi6 h 37 ((mi h 37) ||| (if r5 = 1 then ((1 : Int32) <<< (x1 &&& 31)) else (0 : Int32)))) ml7)))) :
    wV l M_X12_obeys (d + 1) [.ref h, .int x1, .int x2, .int x3] kd mr mi ml K := by
  show wp l M_X12_obeys (d + 1) 0 0 0 [some (.ref h), some (.int x1), some (.int x2), some (.int x3)] [] 0 0 kd mi ml mr _
  refine wp_aload_n (pc := 0) dX12_obeys_0 rfl ?_
  refine wp_dup (pc := 1) dX12_obeys_1 rfl ?_
  refine wp_getI (pc := 2) dX12_obeys_2 fl_X12_380 rfl (TX12s_k th) ?_
  refine wp_iconst (v := 1) (pc := 5) dX12_obeys_5 (by decide) ?_
  refine wp_iadd (pc := 6) dX12_obeys_6 ?_
  refine wp_putI (pc := 7) dX12_obeys_7 fl_X12_380 rfl rfl (TX12s_k th) ?_
  refine wp_iload_n (pc := 10) dX12_obeys_10 rfl ?_
  by_cases c1 : (x2).toInt < 0 ∨ 2 < (x2).toInt
  · have F := F.1 c1
    refine wp_tableOut (tgt := 93) (pc := 11) dX12_obeys_11 c1 (by decide) ?_
    refine wp_aload_n (pc := 93) dX12_obeys_93 rfl ?_
    refine wp_iload_n (pc := 94) dX12_obeys_94 rfl ?_
    refine wp_iload_n (pc := 95) dX12_obeys_95 rfl ?_
    refine cvV [.int x1, .int x3] [] (pc := 96) dX12_obeys_96 ml_X12_386 iv_X12_marches (TX12s_k th) (cl_X12 rfl) rfl rfl (Nat.le_of_ble_eq_true rfl) (Nat.le_of_ble_eq_true rfl) (wV.mono (fun mi3 ml4 F => ?_) F)
    exact r_V (pc := 99) dX12_obeys_99 rfl F
  have c1 : (x2).toInt = 0 ∨ (x2).toInt = 1 ∨ (x2).toInt = 2 := by omega
  have F := F.2
  rcases c1 with c1 | c1 | c1
  · have F := F.1 c1
    refine wp_tableIn (tgt := 36) (pc := 11) dX12_obeys_11 c1 (by decide) (by decide) rfl (by decide) ?_
    refine wp_aload_n (pc := 36) dX12_obeys_36 rfl ?_
    refine wp_dup (pc := 37) dX12_obeys_37 rfl ?_
    refine wp_getI (pc := 38) dX12_obeys_38 fl_X12_374 rfl (TX12s_k th) ?_
    refine t_I (show ((pm_up mi h 38 ((mi h 38) + 1)) h 36) = (mi h 36) from pm_up_j _ _ (by decide)) ?_
    refine wp_iconst (v := 1) (pc := 41) dX12_obeys_41 (by decide) ?_
    refine wp_iload_n (pc := 42) dX12_obeys_42 rfl ?_
    refine wp_ishl (pc := 43) dX12_obeys_43 ?_
    refine wp_ior (pc := 44) dX12_obeys_44 ?_
    refine wp_putI (pc := 45) dX12_obeys_45 fl_X12_374 rfl rfl (TX12s_k th) ?_
    exact r_V (pc := 48) dX12_obeys_48 rfl F
  · have F := F.2.1 c1
    refine wp_tableIn (tgt := 49) (pc := 11) dX12_obeys_11 c1 (by decide) (by decide) rfl (by decide) ?_
    refine wp_aload_n (pc := 49) dX12_obeys_49 rfl ?_
    refine wp_dup (pc := 50) dX12_obeys_50 rfl ?_
    refine wp_getI (pc := 51) dX12_obeys_51 fl_X12_374 rfl (TX12s_k th) ?_
    refine t_I (show ((pm_up mi h 38 ((mi h 38) + 1)) h 36) = (mi h 36) from pm_up_j _ _ (by decide)) ?_
    refine wp_iconst (v := 1) (pc := 54) dX12_obeys_54 (by decide) ?_
    refine wp_iload_n (pc := 55) dX12_obeys_55 rfl ?_
    refine wp_ishl (pc := 56) dX12_obeys_56 ?_
    refine wp_iconst (v := -1) (pc := 57) dX12_obeys_57 (by decide) ?_
    refine wp_ixor (pc := 58) dX12_obeys_58 ?_
    refine wp_iand (pc := 59) dX12_obeys_59 ?_
    refine wp_putI (pc := 60) dX12_obeys_60 fl_X12_374 rfl rfl (TX12s_k th) ?_
    exact r_V (pc := 63) dX12_obeys_63 rfl F
  · have F := F.2.2 c1
    refine wp_tableIn (tgt := 64) (pc := 11) dX12_obeys_11 c1 (by decide) (by decide) rfl (by decide) ?_
    refine wp_aload_n (pc := 64) dX12_obeys_64 rfl ?_
    refine wp_dup (pc := 65) dX12_obeys_65 rfl ?_
    refine wp_getI (pc := 66) dX12_obeys_66 fl_X12_377 rfl (TX12s_k th) ?_
    refine t_I (show ((pm_up mi h 38 ((mi h 38) + 1)) h 37) = (mi h 37) from pm_up_j _ _ (by decide)) ?_
    refine wp_aload_n (pc := 69) dX12_obeys_69 rfl ?_
    refine wp_bipush (v := 27) (pc := 70) dX12_obeys_70 (by decide) ?_
    refine wp_iload_n (pc := 72) dX12_obeys_72 rfl ?_
    refine wp_iadd (pc := 73) dX12_obeys_73 ?_
    refine cvI [.int (27 + x1)] [.int (mi h 37), .ref h] (pc := 74) dX12_obeys_74 ml_X12_324 iv_X12_of (TX12s_k th) (cl_X12 rfl) rfl rfl (Nat.le_of_ble_eq_true rfl) (Nat.le_of_ble_eq_true rfl) (wI.mono (fun r5 mi6 ml7 F => ?_) F)
    refine wp_iconst (v := 1) (pc := 77) dX12_obeys_77 (by decide) ?_
    suffices J8 : ∀ v9 : Int32, v9 = (if r5 = 1 then ((1 : Int32) <<< (x1 &&& 31)) else (0 : Int32)) → wp l M_X12_obeys (d + 1) 0 0 88 [some (.ref h), some (.int x1), some (.int x2), some (.int x3)] [.int v9, .int (mi h 37), .ref h] 0 0 kd mi6 ml7 mr _ by
        refine wp_icmp_ne (tgt := 87) (pc := 78) dX12_obeys_78 (by decide) (fun c10 => ?_) (fun c10 => ?_)
        · refine wp_iconst (v := 0) (pc := 87) dX12_obeys_87 (by decide) ?_
          exact J8 _ (by simp only [c10, if_true, if_false, decide_true, decide_false, Bool.not_true, Bool.not_false, Bool.true_and, Bool.false_and, Bool.true_or, Bool.false_or, b2i_t, b2i_f, ite_true, ite_false, not_true_eq_false, not_false_eq_true, reduceCtorEq, decide_eq_true_eq])
        · refine wp_iconst (v := 1) (pc := 81) dX12_obeys_81 (by decide) ?_
          refine wp_iload_n (pc := 82) dX12_obeys_82 rfl ?_
          refine wp_ishl (pc := 83) dX12_obeys_83 ?_
          refine wp_goto (tgt := 88) (pc := 84) dX12_obeys_84 (by decide) ?_
          exact J8 _ (by simp only [eq_true c10, if_true, if_false, decide_true, decide_false, Bool.not_true, Bool.not_false, Bool.true_and, Bool.false_and, Bool.true_or, Bool.false_or, b2i_t, b2i_f, ite_true, ite_false, not_true_eq_false, not_false_eq_true, reduceCtorEq, decide_eq_true_eq])
    intro v9 ev9
    subst ev9
    refine wp_ior (pc := 88) dX12_obeys_88 ?_
    refine wp_putI (pc := 89) dX12_obeys_89 fl_X12_377 rfl rfl (TX12s_k th) ?_
    exact r_V (pc := 92) dX12_obeys_92 rfl F
/-- marches(II)V -/
theorem w_X12_marches {l : Launch} {d : Nat} {kd : pm_K} {mr : pm_R} {h : Nat} {x1 : Int32} {x2 : Int32} {mi : pm_I} {ml : pm_L} {K : pm_I → pm_L → Prop} (th : TX12s kd mr h)
    (F : vp_in x1 6 ∧ wI l M_X12_free d [.ref h, .int (mi (h + 13) (Int32.toNatClampNeg x1)), .int x2] kd mr mi ml (fun r1 mi2 ml3 => wB l M_X12_has d [.int (mi2 h 36), .int x1] kd mr mi2 ml3 (fun r4 mi5 ml6 => ((r4 = true → vp_in x1 6 ∧ vp_in x1 6 ∧ K (pm_up mi5 (h + 13) (Int32.toNatClampNeg x1) (mi5 (h + 13) (Int32.toNatClampNeg x1))) ml6) ∧ (r4 = false → ((¬ r1 = (-1) → vp_in x1 6 ∧ K (pm_up mi5 (h + 13) (Int32.toNatClampNeg x1) r1) ml6) ∧ (r1 = (-1) → vp_in x1 6 ∧ vp_in x1 6 ∧ K (pm_up mi5 (h + 13) (Int32.toNatClampNeg x1) (mi5 (h + 13) (Int32.toNatClampNeg x1))) ml6))))))) :
    wV l M_X12_marches (d + 1) [.ref h, .int x1, .int x2] kd mr mi ml K := by
  show wp l M_X12_marches (d + 1) 0 0 0 [some (.ref h), some (.int x1), some (.int x2), none] [] 0 0 kd mi ml mr _
  refine wp_aload_n (pc := 0) dX12_marches_0 rfl ?_
  refine wp_aload_n (pc := 1) dX12_marches_1 rfl ?_
  refine wp_getR (pc := 2) dX12_marches_2 fl_X12_47 rfl (TX12s_k th) (TX12s_r32 th) ?_
  refine wp_iload_n (pc := 5) dX12_marches_5 rfl ?_
  refine wp_iald (pc := 6) dX12_marches_6 (TX12s_a32 th) F.1 ?_
  have F := F.2
  refine wp_iload_n (pc := 7) dX12_marches_7 rfl ?_
  refine cvI [.int (mi (h + 13) (Int32.toNatClampNeg x1)), .int x2] [] (pc := 8) dX12_marches_8 ml_X12_383 iv_X12_free (TX12s_k th) (cl_X12 rfl) rfl rfl (Nat.le_of_ble_eq_true rfl) (Nat.le_of_ble_eq_true rfl) (wI.mono (fun r1 mi2 ml3 F => ?_) F)
  refine wp_istore_n (pc := 11) dX12_marches_11 (Nat.le_of_ble_eq_true rfl) rfl ?_
  show wp l M_X12_marches (d + 1) 0 0 _ [some (.ref h), some (.int x1), some (.int x2), some (.int r1)] _ 0 0 kd _ _ mr _
  refine wp_aload_n (pc := 12) dX12_marches_12 rfl ?_
  refine wp_getR (pc := 13) dX12_marches_13 fl_X12_47 rfl (TX12s_k th) (TX12s_r32 th) ?_
  refine wp_iload_n (pc := 16) dX12_marches_16 rfl ?_
  refine wp_aload_n (pc := 17) dX12_marches_17 rfl ?_
  refine wp_getI (pc := 18) dX12_marches_18 fl_X12_374 rfl (TX12s_k th) ?_
  refine wp_iload_n (pc := 21) dX12_marches_21 rfl ?_
  refine csB [.int (mi2 h 36), .int x1] [.int x1, .ref (h + 13)] (pc := 22) dX12_marches_22 ml_X12_111 st_X12_has rfl rfl (Nat.le_of_ble_eq_true rfl) (Nat.le_of_ble_eq_true rfl) (wB.mono (fun r4 mi5 ml6 F => ?_) F)
  refine b_ne (tgt := 33) (pc := 25) dX12_marches_25 (by decide) (fun c7 => ?_) (fun c7 => ?_)
  · have F := F.1 c7
    refine wp_aload_n (pc := 33) dX12_marches_33 rfl ?_
    refine wp_getR (pc := 34) dX12_marches_34 fl_X12_47 rfl (TX12s_k th) (TX12s_r32 th) ?_
    refine wp_iload_n (pc := 37) dX12_marches_37 rfl ?_
    refine wp_iald (pc := 38) dX12_marches_38 (TX12s_a32 th) F.1 ?_
    have F := F.2
    refine wp_goto (tgt := 43) (pc := 39) dX12_marches_39 (by decide) ?_
    refine wp_iast (pc := 43) dX12_marches_43 (TX12s_a32 th) F.1 ?_
    have F := F.2
    exact r_V (pc := 44) dX12_marches_44 rfl F
  · have F := F.2 c7
    refine wp_iload_n (pc := 28) dX12_marches_28 rfl ?_
    refine wp_iconst (v := -1) (pc := 29) dX12_marches_29 (by decide) ?_
    refine wp_icmp_ne (tgt := 42) (pc := 30) dX12_marches_30 (by decide) (fun c8 => ?_) (fun c8 => ?_)
    · have F := F.1 c8
      refine wp_iload_n (pc := 42) dX12_marches_42 rfl ?_
      refine wp_iast (pc := 43) dX12_marches_43 (TX12s_a32 th) F.1 ?_
      have F := F.2
      exact r_V (pc := 44) dX12_marches_44 rfl F
    · have F := F.2 c8
      refine wp_aload_n (pc := 33) dX12_marches_33 rfl ?_
      refine wp_getR (pc := 34) dX12_marches_34 fl_X12_47 rfl (TX12s_k th) (TX12s_r32 th) ?_
      refine wp_iload_n (pc := 37) dX12_marches_37 rfl ?_
      refine wp_iald (pc := 38) dX12_marches_38 (TX12s_a32 th) F.1 ?_
      have F := F.2
      refine wp_goto (tgt := 43) (pc := 39) dX12_marches_39 (by decide) ?_
      refine wp_iast (pc := 43) dX12_marches_43 (TX12s_a32 th) F.1 ?_
      have F := F.2
      exact r_V (pc := 44) dX12_marches_44 rfl F
/-- free(II)I -/
theorem w_X12_free {l : Launch} {d : Nat} {kd : pm_K} {mr : pm_R} {h : Nat} {x1 : Int32} {x2 : Int32} {mi : pm_I} {ml : pm_L} {K : Int32 → pm_I → pm_L → Prop} (th : TX12s kd mr h)
    (F : wI l M_X12_next d [.ref h, .int x1, .int x2] kd mr mi ml (fun r1 mi2 ml3 => ((r1 = (-1) → K (-1) mi2 ml3) ∧ (¬ r1 = (-1) → wB l M_X12_isWall d [.ref h, .int r1] kd mr mi2 ml3 (fun r5 mi6 ml7 => K (if r5 = true then ((-1) : Int32) else r1) mi6 ml7))))) :
    wI l M_X12_free (d + 1) [.ref h, .int x1, .int x2] kd mr mi ml K := by
  show wp l M_X12_free (d + 1) 0 0 0 [some (.ref h), some (.int x1), some (.int x2), none] [] 0 0 kd mi ml mr _
  refine wp_aload_n (pc := 0) dX12_free_0 rfl ?_
  refine wp_iload_n (pc := 1) dX12_free_1 rfl ?_
  refine wp_iload_n (pc := 2) dX12_free_2 rfl ?_
  refine cvI [.int x1, .int x2] [] (pc := 3) dX12_free_3 ml_X12_340 iv_X12_next (TX12s_k th) (cl_X12 rfl) rfl rfl (Nat.le_of_ble_eq_true rfl) (Nat.le_of_ble_eq_true rfl) (wI.mono (fun r1 mi2 ml3 F => ?_) F)
  refine wp_istore_n (pc := 6) dX12_free_6 (Nat.le_of_ble_eq_true rfl) rfl ?_
  show wp l M_X12_free (d + 1) 0 0 _ [some (.ref h), some (.int x1), some (.int x2), some (.int r1)] _ 0 0 kd _ _ mr _
  refine wp_iload_n (pc := 7) dX12_free_7 rfl ?_
  refine wp_iconst (v := -1) (pc := 8) dX12_free_8 (by decide) ?_
  refine wp_icmp_eq (tgt := 20) (pc := 9) dX12_free_9 (by decide) (fun c4 => ?_) (fun c4 => ?_)
  · have F := F.1 c4
    refine wp_iconst (v := -1) (pc := 20) dX12_free_20 (by decide) ?_
    refine wp_goto (tgt := 25) (pc := 21) dX12_free_21 (by decide) ?_
    exact r_I (pc := 25) dX12_free_25 rfl F
  · have F := F.2 c4
    refine wp_aload_n (pc := 12) dX12_free_12 rfl ?_
    refine wp_iload_n (pc := 13) dX12_free_13 rfl ?_
    refine cvB [.int r1] [] (pc := 14) dX12_free_14 ml_X12_343 iv_X12_isWall (TX12s_k th) (cl_X12 rfl) rfl rfl (Nat.le_of_ble_eq_true rfl) (Nat.le_of_ble_eq_true rfl) (wB.mono (fun r5 mi6 ml7 F => ?_) F)
    suffices J8 : ∀ v9 : Int32, v9 = (if r5 = true then ((-1) : Int32) else r1) → wp l M_X12_free (d + 1) 0 0 25 [some (.ref h), some (.int x1), some (.int x2), some (.int r1)] [.int v9] 0 0 kd mi6 ml7 mr _ by
        refine b_eq (tgt := 24) (pc := 17) dX12_free_17 (by decide) (fun c10 => ?_) (fun c10 => ?_)
        · refine wp_iload_n (pc := 24) dX12_free_24 rfl ?_
          exact J8 _ (by simp only [c10, if_true, if_false, decide_true, decide_false, Bool.not_true, Bool.not_false, Bool.true_and, Bool.false_and, Bool.true_or, Bool.false_or, b2i_t, b2i_f, ite_true, ite_false, not_true_eq_false, not_false_eq_true, reduceCtorEq, decide_eq_true_eq])
        · refine wp_iconst (v := -1) (pc := 20) dX12_free_20 (by decide) ?_
          refine wp_goto (tgt := 25) (pc := 21) dX12_free_21 (by decide) ?_
          exact J8 _ (by simp only [c10, if_true, if_false, decide_true, decide_false, Bool.not_true, Bool.not_false, Bool.true_and, Bool.false_and, Bool.true_or, Bool.false_or, b2i_t, b2i_f, ite_true, ite_false, not_true_eq_false, not_false_eq_true, reduceCtorEq, decide_eq_true_eq])
    intro v9 ev9
    subst ev9
    exact r_I (pc := 25) dX12_free_25 rfl F
/-- walks(II)Z -/
theorem w_X12_walks {l : Launch} {d : Nat} {kd : pm_K} {mr : pm_R} {h : Nat} {x1 : Int32} {x2 : Int32} {mi : pm_I} {ml : pm_L} {K : Bool → pm_I → pm_L → Prop} (th : TX12s kd mr h)
    (F : wB l M_X12_isPerson d [.ref h, .int x1] kd mr mi ml (fun r1 mi2 ml3 => ((r1 = false → K false mi2 ml3) ∧ (r1 = true → wB l M_X12_has d [.int (mi2 h 36), .int x1] kd mr mi2 ml3 (fun r5 mi6 ml7 => ((r5 = true → K false mi6 ml7) ∧ (r5 = false → vp_in x1 6 ∧ wI l M_X12_free d [.ref h, .int (mi6 (h + 13) (Int32.toNatClampNeg x1)), .int x2] kd mr mi6 ml7 (fun r9 mi10 ml11 => ((¬ r9 = (-1) → vp_in x1 6 ∧ wI l M_X12_free d [.ref h, .int (mi10 (h + 13) (Int32.toNatClampNeg x1)), .int x2] kd mr mi10 ml11 (fun r13 mi14 ml15 => vp_in x1 6 ∧ K true (pm_up mi14 (h + 13) (Int32.toNatClampNeg x1) r13) ml15)) ∧ (r9 = (-1) → K false mi10 ml11)))))))))) :
    wB l M_X12_walks (d + 1) [.ref h, .int x1, .int x2] kd mr mi ml K := by
  show wp l M_X12_walks (d + 1) 0 0 0 [some (.ref h), some (.int x1), some (.int x2)] [] 0 0 kd mi ml mr _
  refine wp_aload_n (pc := 0) dX12_walks_0 rfl ?_
  refine wp_iload_n (pc := 1) dX12_walks_1 rfl ?_
  refine cvB [.int x1] [] (pc := 2) dX12_walks_2 ml_X12_355 iv_X12_isPerson (TX12s_k th) (cl_X12 rfl) rfl rfl (Nat.le_of_ble_eq_true rfl) (Nat.le_of_ble_eq_true rfl) (wB.mono (fun r1 mi2 ml3 F => ?_) F)
  refine b_eq (tgt := 34) (pc := 5) dX12_walks_5 (by decide) (fun c4 => ?_) (fun c4 => ?_)
  · have F := F.1 c4
    refine wp_iconst (v := 0) (pc := 34) dX12_walks_34 (by decide) ?_
    exact r_Bx (pc := 35) dX12_walks_35 rfl rfl F
  · have F := F.2 c4
    refine wp_aload_n (pc := 8) dX12_walks_8 rfl ?_
    refine wp_getI (pc := 9) dX12_walks_9 fl_X12_374 rfl (TX12s_k th) ?_
    refine wp_iload_n (pc := 12) dX12_walks_12 rfl ?_
    refine csB [.int (mi2 h 36), .int x1] [] (pc := 13) dX12_walks_13 ml_X12_111 st_X12_has rfl rfl (Nat.le_of_ble_eq_true rfl) (Nat.le_of_ble_eq_true rfl) (wB.mono (fun r5 mi6 ml7 F => ?_) F)
    refine b_ne (tgt := 34) (pc := 16) dX12_walks_16 (by decide) (fun c8 => ?_) (fun c8 => ?_)
    · have F := F.1 c8
      refine wp_iconst (v := 0) (pc := 34) dX12_walks_34 (by decide) ?_
      exact r_Bx (pc := 35) dX12_walks_35 rfl rfl F
    · have F := F.2 c8
      refine wp_aload_n (pc := 19) dX12_walks_19 rfl ?_
      refine wp_aload_n (pc := 20) dX12_walks_20 rfl ?_
      refine wp_getR (pc := 21) dX12_walks_21 fl_X12_47 rfl (TX12s_k th) (TX12s_r32 th) ?_
      refine wp_iload_n (pc := 24) dX12_walks_24 rfl ?_
      refine wp_iald (pc := 25) dX12_walks_25 (TX12s_a32 th) F.1 ?_
      have F := F.2
      refine wp_iload_n (pc := 26) dX12_walks_26 rfl ?_
      refine cvI [.int (mi6 (h + 13) (Int32.toNatClampNeg x1)), .int x2] [] (pc := 27) dX12_walks_27 ml_X12_383 iv_X12_free (TX12s_k th) (cl_X12 rfl) rfl rfl (Nat.le_of_ble_eq_true rfl) (Nat.le_of_ble_eq_true rfl) (wI.mono (fun r9 mi10 ml11 F => ?_) F)
      refine wp_iconst (v := -1) (pc := 30) dX12_walks_30 (by decide) ?_
      refine wp_icmp_ne (tgt := 36) (pc := 31) dX12_walks_31 (by decide) (fun c12 => ?_) (fun c12 => ?_)
      · have F := F.1 c12
        refine wp_aload_n (pc := 36) dX12_walks_36 rfl ?_
        refine wp_getR (pc := 37) dX12_walks_37 fl_X12_47 rfl (TX12s_k th) (TX12s_r32 th) ?_
        refine wp_iload_n (pc := 40) dX12_walks_40 rfl ?_
        refine wp_aload_n (pc := 41) dX12_walks_41 rfl ?_
        refine wp_aload_n (pc := 42) dX12_walks_42 rfl ?_
        refine wp_getR (pc := 43) dX12_walks_43 fl_X12_47 rfl (TX12s_k th) (TX12s_r32 th) ?_
        refine wp_iload_n (pc := 46) dX12_walks_46 rfl ?_
        refine wp_iald (pc := 47) dX12_walks_47 (TX12s_a32 th) F.1 ?_
        have F := F.2
        refine wp_iload_n (pc := 48) dX12_walks_48 rfl ?_
        refine cvI [.int (mi10 (h + 13) (Int32.toNatClampNeg x1)), .int x2] [.int x1, .ref (h + 13)] (pc := 49) dX12_walks_49 ml_X12_383 iv_X12_free (TX12s_k th) (cl_X12 rfl) rfl rfl (Nat.le_of_ble_eq_true rfl) (Nat.le_of_ble_eq_true rfl) (wI.mono (fun r13 mi14 ml15 F => ?_) F)
        refine wp_iast (pc := 52) dX12_walks_52 (TX12s_a32 th) F.1 ?_
        have F := F.2
        refine wp_iconst (v := 1) (pc := 53) dX12_walks_53 (by decide) ?_
        exact r_Bx (pc := 54) dX12_walks_54 rfl rfl F
      · have F := F.2 c12
        refine wp_iconst (v := 0) (pc := 34) dX12_walks_34 (by decide) ?_
        exact r_Bx (pc := 35) dX12_walks_35 rfl rfl F
/-- goes(II)Z -/
theorem w_X12_goes {l : Launch} {d : Nat} {kd : pm_K} {mr : pm_R} {h : Nat} {x1 : Int32} {x2 : Int32} {mi : pm_I} {ml : pm_L} {K : Bool → pm_I → pm_L → Prop} (th : TX12s kd mr h)
    (F : wB l M_X12_isPlayer d [.ref h, .int x1] kd mr mi ml (fun r1 mi2 ml3 => ((r1 = false → K false mi2 ml3) ∧ (r1 = true → vp_in x1 6 ∧ wI l M_X12_free d [.ref h, .int (mi2 (h + 16) (Int32.toNatClampNeg x1)), .int x2] kd mr mi2 ml3 (fun r5 mi6 ml7 => ((¬ r5 = (-1) → vp_in x1 6 ∧ wI l M_X12_free d [.ref h, .int (mi6 (h + 16) (Int32.toNatClampNeg x1)), .int x2] kd mr mi6 ml7 (fun r9 mi10 ml11 => vp_in x1 6 ∧ K true (pm_up mi10 (h + 16) (Int32.toNatClampNeg x1) r9) ml11)) ∧ (r5 = (-1) → K false mi6 ml7))))))) :
    wB l M_X12_goes (d + 1) [.ref h, .int x1, .int x2] kd mr mi ml K := by
  show wp l M_X12_goes (d + 1) 0 0 0 [some (.ref h), some (.int x1), some (.int x2)] [] 0 0 kd mi ml mr _
  refine wp_aload_n (pc := 0) dX12_goes_0 rfl ?_
  refine wp_iload_n (pc := 1) dX12_goes_1 rfl ?_
  refine cvB [.int x1] [] (pc := 2) dX12_goes_2 ml_X12_349 iv_X12_isPlayer (TX12s_k th) (cl_X12 rfl) rfl rfl (Nat.le_of_ble_eq_true rfl) (Nat.le_of_ble_eq_true rfl) (wB.mono (fun r1 mi2 ml3 F => ?_) F)
  refine b_eq (tgt := 23) (pc := 5) dX12_goes_5 (by decide) (fun c4 => ?_) (fun c4 => ?_)
  · have F := F.1 c4
    refine wp_iconst (v := 0) (pc := 23) dX12_goes_23 (by decide) ?_
    exact r_Bx (pc := 24) dX12_goes_24 rfl rfl F
  · have F := F.2 c4
    refine wp_aload_n (pc := 8) dX12_goes_8 rfl ?_
    refine wp_aload_n (pc := 9) dX12_goes_9 rfl ?_
    refine wp_getR (pc := 10) dX12_goes_10 fl_X12_56 rfl (TX12s_k th) (TX12s_r35 th) ?_
    refine wp_iload_n (pc := 13) dX12_goes_13 rfl ?_
    refine wp_iald (pc := 14) dX12_goes_14 (TX12s_a35 th) F.1 ?_
    have F := F.2
    refine wp_iload_n (pc := 15) dX12_goes_15 rfl ?_
    refine cvI [.int (mi2 (h + 16) (Int32.toNatClampNeg x1)), .int x2] [] (pc := 16) dX12_goes_16 ml_X12_383 iv_X12_free (TX12s_k th) (cl_X12 rfl) rfl rfl (Nat.le_of_ble_eq_true rfl) (Nat.le_of_ble_eq_true rfl) (wI.mono (fun r5 mi6 ml7 F => ?_) F)
    refine wp_iconst (v := -1) (pc := 19) dX12_goes_19 (by decide) ?_
    refine wp_icmp_ne (tgt := 25) (pc := 20) dX12_goes_20 (by decide) (fun c8 => ?_) (fun c8 => ?_)
    · have F := F.1 c8
      refine wp_aload_n (pc := 25) dX12_goes_25 rfl ?_
      refine wp_getR (pc := 26) dX12_goes_26 fl_X12_56 rfl (TX12s_k th) (TX12s_r35 th) ?_
      refine wp_iload_n (pc := 29) dX12_goes_29 rfl ?_
      refine wp_aload_n (pc := 30) dX12_goes_30 rfl ?_
      refine wp_aload_n (pc := 31) dX12_goes_31 rfl ?_
      refine wp_getR (pc := 32) dX12_goes_32 fl_X12_56 rfl (TX12s_k th) (TX12s_r35 th) ?_
      refine wp_iload_n (pc := 35) dX12_goes_35 rfl ?_
      refine wp_iald (pc := 36) dX12_goes_36 (TX12s_a35 th) F.1 ?_
      have F := F.2
      refine wp_iload_n (pc := 37) dX12_goes_37 rfl ?_
      refine cvI [.int (mi6 (h + 16) (Int32.toNatClampNeg x1)), .int x2] [.int x1, .ref (h + 16)] (pc := 38) dX12_goes_38 ml_X12_383 iv_X12_free (TX12s_k th) (cl_X12 rfl) rfl rfl (Nat.le_of_ble_eq_true rfl) (Nat.le_of_ble_eq_true rfl) (wI.mono (fun r9 mi10 ml11 F => ?_) F)
      refine wp_iast (pc := 41) dX12_goes_41 (TX12s_a35 th) F.1 ?_
      have F := F.2
      refine wp_iconst (v := 1) (pc := 42) dX12_goes_42 (by decide) ?_
      exact r_Bx (pc := 43) dX12_goes_43 rfl rfl F
    · have F := F.2 c8
      refine wp_iconst (v := 0) (pc := 23) dX12_goes_23 (by decide) ?_
      exact r_Bx (pc := 24) dX12_goes_24 rfl rfl F
def c_X12_rests_2 (l : Launch) (d : Nat) (kd : pm_K) (mr : pm_R) (h : Nat) (x1 : Int32) (mi : pm_I) (ml : pm_L) (K : Bool → pm_I → pm_L → Prop) : Prop := wp l M_X12_rests d 0 0 2 [some (.ref h), some (.int x1)] [] 0 0 kd mi ml mr (qB kd mr K)
theorem w_X12_rests_2 {l : Launch} {d : Nat} {kd : pm_K} {mr : pm_R} {h : Nat} {x1 : Int32} {mi : pm_I} {ml : pm_L} {K : Bool → pm_I → pm_L → Prop} (th : TX12s kd mr h)
    (F : ((6 ≤ x1 → K true mi ml) ∧ (¬ 6 ≤ x1 → vp_in x1 6 ∧ c_X12_rests_2 l d kd mr h (x1 + 1) (pm_up mi (h + 14) (Int32.toNatClampNeg x1) (-1)) ml K))) :
    c_X12_rests_2 l d kd mr h x1 mi ml K := by
  show wp l M_X12_rests d 0 0 2 [some (.ref h), some (.int x1)] [] 0 0 kd mi ml mr _
  refine wp_iload_n (pc := 2) dX12_rests_2 rfl ?_
  refine wp_bipush (v := 6) (pc := 3) dX12_rests_3 (by decide) ?_
  refine wp_icmp_ge (tgt := 21) (pc := 5) dX12_rests_5 (by decide) (fun c1 => ?_) (fun c1 => ?_)
  · have F := F.1 c1
    refine wp_iconst (v := 1) (pc := 21) dX12_rests_21 (by decide) ?_
    exact r_Bx (pc := 22) dX12_rests_22 rfl rfl F
  · have F := F.2 c1
    refine wp_aload_n (pc := 8) dX12_rests_8 rfl ?_
    refine wp_getR (pc := 9) dX12_rests_9 fl_X12_50 rfl (TX12s_k th) (TX12s_r33 th) ?_
    refine wp_iload_n (pc := 12) dX12_rests_12 rfl ?_
    refine wp_iconst (v := -1) (pc := 13) dX12_rests_13 (by decide) ?_
    refine wp_iast (pc := 14) dX12_rests_14 (TX12s_a33 th) F.1 ?_
    have F := F.2
    refine wp_iinc (v := (x1 + 1)) (pc := 15) dX12_rests_15 rfl rfl rfl ?_
    show wp l M_X12_rests d 0 0 _ [some (.ref h), some (.int (x1 + 1))] _ 0 0 kd _ _ mr _
    refine wp_goto (tgt := 2) (pc := 18) dX12_rests_18 (by decide) ?_
    exact wp_less (L' := [some (.ref h), some (.int (x1 + 1))]) ⟨rfl, ⟨rfl, trivial⟩⟩ F
/-- rests()Z -/
theorem w_X12_rests {l : Launch} {d : Nat} {kd : pm_K} {mr : pm_R} {h : Nat}  {mi : pm_I} {ml : pm_L} {K : Bool → pm_I → pm_L → Prop} (th : TX12s kd mr h)
    (F : c_X12_rests_2 l d kd mr h 0 mi ml K) :
    wB l M_X12_rests d [.ref h] kd mr mi ml K := by
  show wp l M_X12_rests d 0 0 0 [some (.ref h), none] [] 0 0 kd mi ml mr _
  refine wp_iconst (v := 0) (pc := 0) dX12_rests_0 (by decide) ?_
  refine wp_istore_n (pc := 1) dX12_rests_1 (Nat.le_of_ble_eq_true rfl) rfl ?_
  show wp l M_X12_rests d 0 0 _ [some (.ref h), some (.int 0)] _ 0 0 kd _ _ mr _
  exact wp_less (L' := [some (.ref h), some (.int 0)]) ⟨rfl, ⟨rfl, trivial⟩⟩ F
/-- state(IIII)I -/
theorem w_X12_state {l : Launch} {d : Nat} {kd : pm_K} {mr : pm_R} {h : Nat} {x1 : Int32} {x2 : Int32} {x3 : Int32} {x4 : Int32} {mi : pm_I} {ml : pm_L} {K : Int32 → pm_I → pm_L → Prop} (th : TX12s kd mr h)
    (F : wB l M_X12_layAll d [.ref h, .int x1, .int x2] kd mr (pm_up mi h 0 0) ml (fun r1 mi2 ml3 => ((r1 = false → K (-2) mi2 ml3) ∧ (r1 = true → wI l M_X12_deeds d [.ref h] kd mr mi2 ml3 (fun r5 mi6 ml7 => wB l M_X12_in d [.int x3, .int 0, .int r5] kd mr mi6 ml7 (fun r8 mi9 ml10 => ((r8 = false → K (-2) mi9 ml10) ∧ (r8 = true → wI l M_X12_play d [.ref h, .int x3] kd mr mi9 ml10 (fun r12 mi13 ml14 => ((¬ r12 = x3 → K (-2) mi13 ml14) ∧ (r12 = x3 → wI l M_X12_ofState d [.ref h, .int x4] kd mr mi13 ml14 (fun r16 mi17 ml18 => K r16 mi17 ml18)))))))))))) :
    wI l M_X12_state (d + 1) [.ref h, .int x1, .int x2, .int x3, .int x4] kd mr mi ml K := by
  show wp l M_X12_state (d + 1) 0 0 0 [some (.ref h), some (.int x1), some (.int x2), some (.int x3), some (.int x4)] [] 0 0 kd mi ml mr _
  refine wp_aload_n (pc := 0) dX12_state_0 rfl ?_
  refine wp_iconst (v := 0) (pc := 1) dX12_state_1 (by decide) ?_
  refine wp_putI (pc := 2) dX12_state_2 fl_X12_107 rfl rfl (TX12s_k th) ?_
  refine wp_aload_n (pc := 5) dX12_state_5 rfl ?_
  refine wp_iload_n (pc := 6) dX12_state_6 rfl ?_
  refine wp_iload_n (pc := 7) dX12_state_7 rfl ?_
  refine cvB [.int x1, .int x2] [] (pc := 8) dX12_state_8 ml_X12_416 iv_X12_layAll (TX12s_k th) (cl_X12 rfl) rfl rfl (Nat.le_of_ble_eq_true rfl) (Nat.le_of_ble_eq_true rfl) (wB.mono (fun r1 mi2 ml3 F => ?_) F)
  refine b_eq (tgt := 44) (pc := 11) dX12_state_11 (by decide) (fun c4 => ?_) (fun c4 => ?_)
  · have F := F.1 c4
    refine wp_bipush (v := -2) (pc := 44) dX12_state_44 (by decide) ?_
    exact r_I (pc := 46) dX12_state_46 rfl F
  · have F := F.2 c4
    refine wp_iload_n (pc := 14) dX12_state_14 rfl ?_
    refine wp_iconst (v := 0) (pc := 15) dX12_state_15 (by decide) ?_
    refine wp_aload_n (pc := 16) dX12_state_16 rfl ?_
    refine cvI [] [.int 0, .int x3] (pc := 17) dX12_state_17 ml_X12_364 iv_X12_deeds (TX12s_k th) (cl_X12 rfl) rfl rfl (Nat.le_of_ble_eq_true rfl) (Nat.le_of_ble_eq_true rfl) (wI.mono (fun r5 mi6 ml7 F => ?_) F)
    refine csB [.int x3, .int 0, .int r5] [] (pc := 20) dX12_state_20 ml_X12_119 st_X12_in rfl rfl (Nat.le_of_ble_eq_true rfl) (Nat.le_of_ble_eq_true rfl) (wB.mono (fun r8 mi9 ml10 F => ?_) F)
    refine b_eq (tgt := 44) (pc := 23) dX12_state_23 (by decide) (fun c11 => ?_) (fun c11 => ?_)
    · have F := F.1 c11
      refine wp_bipush (v := -2) (pc := 44) dX12_state_44 (by decide) ?_
      exact r_I (pc := 46) dX12_state_46 rfl F
    · have F := F.2 c11
      refine wp_aload_n (pc := 26) dX12_state_26 rfl ?_
      refine wp_iload_n (pc := 27) dX12_state_27 rfl ?_
      refine cvI [.int x3] [] (pc := 28) dX12_state_28 ml_X12_419 iv_X12_play (TX12s_k th) (cl_X12 rfl) rfl rfl (Nat.le_of_ble_eq_true rfl) (Nat.le_of_ble_eq_true rfl) (wI.mono (fun r12 mi13 ml14 F => ?_) F)
      refine wp_iload_n (pc := 31) dX12_state_31 rfl ?_
      refine wp_icmp_ne (tgt := 44) (pc := 32) dX12_state_32 (by decide) (fun c15 => ?_) (fun c15 => ?_)
      · have F := F.1 c15
        refine wp_bipush (v := -2) (pc := 44) dX12_state_44 (by decide) ?_
        exact r_I (pc := 46) dX12_state_46 rfl F
      · have F := F.2 c15
        refine wp_aload_n (pc := 35) dX12_state_35 rfl ?_
        refine wp_iload (pc := 36) dX12_state_36 rfl ?_
        refine cvI [.int x4] [] (pc := 38) dX12_state_38 ml_X12_422 iv_X12_ofState (TX12s_k th) (cl_X12 rfl) rfl rfl (Nat.le_of_ble_eq_true rfl) (Nat.le_of_ble_eq_true rfl) (wI.mono (fun r16 mi17 ml18 F => ?_) F)
        refine wp_goto (tgt := 46) (pc := 41) dX12_state_41 (by decide) ?_
        exact r_I (pc := 46) dX12_state_46 rfl F
/-- ofState(I)I -/
theorem w_X12_ofState {l : Launch} {d : Nat} {kd : pm_K} {mr : pm_R} {h : Nat} {x1 : Int32} {mi : pm_I} {ml : pm_L} {K : Int32 → pm_I → pm_L → Prop} (th : TX12s kd mr h)
    (F : ((((x1 / 10)).toInt < 0 ∨ 4 < ((x1 / 10)).toInt → K (-2) mi ml) ∧ (((x1 / 10)).toInt = 0 → K (if x1 = 0 then (mi h 36) else (if x1 = 1 then (mi h 37) else (if x1 = 2 then (mi h 38) else ((-2) : Int32)))) mi ml) ∧ (((x1 / 10)).toInt = 1 → wB l M_X12_isPerson d [.ref h, .int (x1 - x1 / 10 * 10)] kd mr mi ml (fun r7 mi8 ml9 => ((r7 = false → K (-2) mi8 ml9) ∧ (r7 = true → vp_in (x1 - x1 / 10 * 10) 6 ∧ K (mi8 (h + 13) (Int32.toNatClampNeg (x1 - x1 / 10 * 10))) mi8 ml9)))) ∧ (((x1 / 10)).toInt = 2 → wB l M_X12_isPerson d [.ref h, .int (x1 - x1 / 10 * 10)] kd mr mi ml (fun r11 mi12 ml13 => ((r11 = false → K (-2) mi12 ml13) ∧ (r11 = true → vp_in (x1 - x1 / 10 * 10) 6 ∧ K (mi12 (h + 14) (Int32.toNatClampNeg (x1 - x1 / 10 * 10))) mi12 ml13)))) ∧ (((x1 / 10)).toInt = 3 → wB l M_X12_isPerson d [.ref h, .int (x1 - x1 / 10 * 10)] kd mr mi ml (fun r15 mi16 ml17 => ((r15 = false → K (-2) mi16 ml17) ∧ (r15 = true → vp_in (x1 - x1 / 10 * 10) 6 ∧ K (mi16 (h + 15) (Int32.toNatClampNeg (x1 - x1 / 10 * 10))) mi16 ml17)))) ∧ (((x1 / 10)).toInt = 4 → wB l M_X12_isPlayer d [.ref h, .int (x1 - x1 / 10 * 10)] kd mr mi ml (fun r19 mi20 ml21 => ((r19 = false → K (-2) mi20 ml21) ∧ (r19 = true → vp_in (x1 - x1 / 10 * 10) 6 ∧ K (mi20 (h + 16) (Int32.toNatClampNeg (x1 - x1 / 10 * 10))) mi20 ml21)))))) :
    wI l M_X12_ofState (d + 1) [.ref h, .int x1] kd mr mi ml K := by
  show wp l M_X12_ofState (d + 1) 0 0 0 [some (.ref h), some (.int x1), none] [] 0 0 kd mi ml mr _
  refine wp_iload_n (pc := 0) dX12_ofState_0 rfl ?_
  refine wp_bipush (v := 10) (pc := 1) dX12_ofState_1 (by decide) ?_
  refine wp_irem (pc := 3) dX12_ofState_3 (by decide) ?_
  refine wp_istore_n (pc := 4) dX12_ofState_4 (Nat.le_of_ble_eq_true rfl) rfl ?_
  show wp l M_X12_ofState (d + 1) 0 0 _ [some (.ref h), some (.int x1), some (.int (x1 - x1 / 10 * 10))] _ 0 0 kd _ _ mr _
  refine wp_iload_n (pc := 5) dX12_ofState_5 rfl ?_
  refine wp_bipush (v := 10) (pc := 6) dX12_ofState_6 (by decide) ?_
  refine wp_idiv (pc := 8) dX12_ofState_8 (by decide) ?_
  by_cases c1 : ((x1 / 10)).toInt < 0 ∨ 4 < ((x1 / 10)).toInt
  · have F := F.1 c1
    refine wp_tableOut (tgt := 162) (pc := 9) dX12_ofState_9 c1 (by decide) ?_
    refine wp_bipush (v := -2) (pc := 162) dX12_ofState_162 (by decide) ?_
    exact r_I (pc := 164) dX12_ofState_164 rfl F
  have c1 : ((x1 / 10)).toInt = 0 ∨ ((x1 / 10)).toInt = 1 ∨ ((x1 / 10)).toInt = 2 ∨ ((x1 / 10)).toInt = 3 ∨ ((x1 / 10)).toInt = 4 := by omega
  have F := F.2
  rcases c1 with c1 | c1 | c1 | c1 | c1
  · have F := F.1 c1
    refine wp_tableIn (tgt := 44) (pc := 9) dX12_ofState_9 c1 (by decide) (by decide) rfl (by decide) ?_
    refine wp_iload_n (pc := 44) dX12_ofState_44 rfl ?_
    suffices J2 : ∀ v3 : Int32, v3 = (if x1 = 0 then (mi h 36) else (if x1 = 1 then (mi h 37) else (if x1 = 2 then (mi h 38) else ((-2) : Int32)))) → wp l M_X12_ofState (d + 1) 0 0 81 [some (.ref h), some (.int x1), some (.int (x1 - x1 / 10 * 10))] [.int v3] 0 0 kd mi ml mr _ by
        refine wp_if_ne (tgt := 55) (pc := 45) dX12_ofState_45 (by decide) (fun c4 => ?_) (fun c4 => ?_)
        · refine wp_iload_n (pc := 55) dX12_ofState_55 rfl ?_
          refine wp_iconst (v := 1) (pc := 56) dX12_ofState_56 (by decide) ?_
          refine wp_icmp_ne (tgt := 67) (pc := 57) dX12_ofState_57 (by decide) (fun c5 => ?_) (fun c5 => ?_)
          · refine wp_iload_n (pc := 67) dX12_ofState_67 rfl ?_
            refine wp_iconst (v := 2) (pc := 68) dX12_ofState_68 (by decide) ?_
            refine wp_icmp_ne (tgt := 79) (pc := 69) dX12_ofState_69 (by decide) (fun c6 => ?_) (fun c6 => ?_)
            · refine wp_bipush (v := -2) (pc := 79) dX12_ofState_79 (by decide) ?_
              exact J2 _ (by simp only [c4, c5, c6, if_true, if_false, decide_true, decide_false, Bool.not_true, Bool.not_false, Bool.true_and, Bool.false_and, Bool.true_or, Bool.false_or, b2i_t, b2i_f, ite_true, ite_false, not_true_eq_false, not_false_eq_true, reduceCtorEq, decide_eq_true_eq])
            · refine wp_aload_n (pc := 72) dX12_ofState_72 rfl ?_
              refine wp_getI (pc := 73) dX12_ofState_73 fl_X12_380 rfl (TX12s_k th) ?_
              refine wp_goto (tgt := 81) (pc := 76) dX12_ofState_76 (by decide) ?_
              exact J2 _ (by simp only [c4, c5, eq_true c6, if_true, if_false, decide_true, decide_false, Bool.not_true, Bool.not_false, Bool.true_and, Bool.false_and, Bool.true_or, Bool.false_or, b2i_t, b2i_f, ite_true, ite_false, not_true_eq_false, not_false_eq_true, reduceCtorEq, decide_eq_true_eq])
          · refine wp_aload_n (pc := 60) dX12_ofState_60 rfl ?_
            refine wp_getI (pc := 61) dX12_ofState_61 fl_X12_377 rfl (TX12s_k th) ?_
            refine wp_goto (tgt := 81) (pc := 64) dX12_ofState_64 (by decide) ?_
            exact J2 _ (by simp only [c4, eq_true c5, if_true, if_false, decide_true, decide_false, Bool.not_true, Bool.not_false, Bool.true_and, Bool.false_and, Bool.true_or, Bool.false_or, b2i_t, b2i_f, ite_true, ite_false, not_true_eq_false, not_false_eq_true, reduceCtorEq, decide_eq_true_eq])
        · refine wp_aload_n (pc := 48) dX12_ofState_48 rfl ?_
          refine wp_getI (pc := 49) dX12_ofState_49 fl_X12_374 rfl (TX12s_k th) ?_
          refine wp_goto (tgt := 81) (pc := 52) dX12_ofState_52 (by decide) ?_
          exact J2 _ (by simp only [eq_true c4, if_true, if_false, decide_true, decide_false, Bool.not_true, Bool.not_false, Bool.true_and, Bool.false_and, Bool.true_or, Bool.false_or, b2i_t, b2i_f, ite_true, ite_false, not_true_eq_false, not_false_eq_true, reduceCtorEq, decide_eq_true_eq])
    intro v3 ev3
    subst ev3
    exact r_I (pc := 81) dX12_ofState_81 rfl F
  · have F := F.2.1 c1
    refine wp_tableIn (tgt := 82) (pc := 9) dX12_ofState_9 c1 (by decide) (by decide) rfl (by decide) ?_
    refine wp_aload_n (pc := 82) dX12_ofState_82 rfl ?_
    refine wp_iload_n (pc := 83) dX12_ofState_83 rfl ?_
    refine cvB [.int (x1 - x1 / 10 * 10)] [] (pc := 84) dX12_ofState_84 ml_X12_355 iv_X12_isPerson (TX12s_k th) (cl_X12 rfl) rfl rfl (Nat.le_of_ble_eq_true rfl) (Nat.le_of_ble_eq_true rfl) (wB.mono (fun r7 mi8 ml9 F => ?_) F)
    refine b_eq (tgt := 99) (pc := 87) dX12_ofState_87 (by decide) (fun c10 => ?_) (fun c10 => ?_)
    · have F := F.1 c10
      refine wp_bipush (v := -2) (pc := 99) dX12_ofState_99 (by decide) ?_
      exact r_I (pc := 101) dX12_ofState_101 rfl F
    · have F := F.2 c10
      refine wp_aload_n (pc := 90) dX12_ofState_90 rfl ?_
      refine wp_getR (pc := 91) dX12_ofState_91 fl_X12_47 rfl (TX12s_k th) (TX12s_r32 th) ?_
      refine wp_iload_n (pc := 94) dX12_ofState_94 rfl ?_
      refine wp_iald (pc := 95) dX12_ofState_95 (TX12s_a32 th) F.1 ?_
      have F := F.2
      refine wp_goto (tgt := 101) (pc := 96) dX12_ofState_96 (by decide) ?_
      exact r_I (pc := 101) dX12_ofState_101 rfl F
  · have F := F.2.2.1 c1
    refine wp_tableIn (tgt := 102) (pc := 9) dX12_ofState_9 c1 (by decide) (by decide) rfl (by decide) ?_
    refine wp_aload_n (pc := 102) dX12_ofState_102 rfl ?_
    refine wp_iload_n (pc := 103) dX12_ofState_103 rfl ?_
    refine cvB [.int (x1 - x1 / 10 * 10)] [] (pc := 104) dX12_ofState_104 ml_X12_355 iv_X12_isPerson (TX12s_k th) (cl_X12 rfl) rfl rfl (Nat.le_of_ble_eq_true rfl) (Nat.le_of_ble_eq_true rfl) (wB.mono (fun r11 mi12 ml13 F => ?_) F)
    refine b_eq (tgt := 119) (pc := 107) dX12_ofState_107 (by decide) (fun c14 => ?_) (fun c14 => ?_)
    · have F := F.1 c14
      refine wp_bipush (v := -2) (pc := 119) dX12_ofState_119 (by decide) ?_
      exact r_I (pc := 121) dX12_ofState_121 rfl F
    · have F := F.2 c14
      refine wp_aload_n (pc := 110) dX12_ofState_110 rfl ?_
      refine wp_getR (pc := 111) dX12_ofState_111 fl_X12_50 rfl (TX12s_k th) (TX12s_r33 th) ?_
      refine wp_iload_n (pc := 114) dX12_ofState_114 rfl ?_
      refine wp_iald (pc := 115) dX12_ofState_115 (TX12s_a33 th) F.1 ?_
      have F := F.2
      refine wp_goto (tgt := 121) (pc := 116) dX12_ofState_116 (by decide) ?_
      exact r_I (pc := 121) dX12_ofState_121 rfl F
  · have F := F.2.2.2.1 c1
    refine wp_tableIn (tgt := 122) (pc := 9) dX12_ofState_9 c1 (by decide) (by decide) rfl (by decide) ?_
    refine wp_aload_n (pc := 122) dX12_ofState_122 rfl ?_
    refine wp_iload_n (pc := 123) dX12_ofState_123 rfl ?_
    refine cvB [.int (x1 - x1 / 10 * 10)] [] (pc := 124) dX12_ofState_124 ml_X12_355 iv_X12_isPerson (TX12s_k th) (cl_X12 rfl) rfl rfl (Nat.le_of_ble_eq_true rfl) (Nat.le_of_ble_eq_true rfl) (wB.mono (fun r15 mi16 ml17 F => ?_) F)
    refine b_eq (tgt := 139) (pc := 127) dX12_ofState_127 (by decide) (fun c18 => ?_) (fun c18 => ?_)
    · have F := F.1 c18
      refine wp_bipush (v := -2) (pc := 139) dX12_ofState_139 (by decide) ?_
      exact r_I (pc := 141) dX12_ofState_141 rfl F
    · have F := F.2 c18
      refine wp_aload_n (pc := 130) dX12_ofState_130 rfl ?_
      refine wp_getR (pc := 131) dX12_ofState_131 fl_X12_53 rfl (TX12s_k th) (TX12s_r34 th) ?_
      refine wp_iload_n (pc := 134) dX12_ofState_134 rfl ?_
      refine wp_iald (pc := 135) dX12_ofState_135 (TX12s_a34 th) F.1 ?_
      have F := F.2
      refine wp_goto (tgt := 141) (pc := 136) dX12_ofState_136 (by decide) ?_
      exact r_I (pc := 141) dX12_ofState_141 rfl F
  · have F := F.2.2.2.2 c1
    refine wp_tableIn (tgt := 142) (pc := 9) dX12_ofState_9 c1 (by decide) (by decide) rfl (by decide) ?_
    refine wp_aload_n (pc := 142) dX12_ofState_142 rfl ?_
    refine wp_iload_n (pc := 143) dX12_ofState_143 rfl ?_
    refine cvB [.int (x1 - x1 / 10 * 10)] [] (pc := 144) dX12_ofState_144 ml_X12_349 iv_X12_isPlayer (TX12s_k th) (cl_X12 rfl) rfl rfl (Nat.le_of_ble_eq_true rfl) (Nat.le_of_ble_eq_true rfl) (wB.mono (fun r19 mi20 ml21 F => ?_) F)
    refine b_eq (tgt := 159) (pc := 147) dX12_ofState_147 (by decide) (fun c22 => ?_) (fun c22 => ?_)
    · have F := F.1 c22
      refine wp_bipush (v := -2) (pc := 159) dX12_ofState_159 (by decide) ?_
      exact r_I (pc := 161) dX12_ofState_161 rfl F
    · have F := F.2 c22
      refine wp_aload_n (pc := 150) dX12_ofState_150 rfl ?_
      refine wp_getR (pc := 151) dX12_ofState_151 fl_X12_56 rfl (TX12s_k th) (TX12s_r35 th) ?_
      refine wp_iload_n (pc := 154) dX12_ofState_154 rfl ?_
      refine wp_iald (pc := 155) dX12_ofState_155 (TX12s_a35 th) F.1 ?_
      have F := F.2
      refine wp_goto (tgt := 161) (pc := 156) dX12_ofState_156 (by decide) ?_
      exact r_I (pc := 161) dX12_ofState_161 rfl F
/-- hears(III)I -/
theorem w_X12_hears {l : Launch} {d : Nat} {kd : pm_K} {mr : pm_R} {h : Nat} {x1 : Int32} {x2 : Int32} {x3 : Int32} {mi : pm_I} {ml : pm_L} {K : Int32 → pm_I → pm_L → Prop} (th : TX12s kd mr h)
    (F : wB l M_X12_hand d [.ref h, .int x1] kd mr (pm_up mi h 0 0) ml (fun r1 mi2 ml3 => ((r1 = false → K (-1) mi2 ml3) ∧ (r1 = true → wB l M_X12_isPlayer d [.ref h, .int x2] kd mr mi2 ml3 (fun r5 mi6 ml7 => ((r5 = false → K (-1) mi6 ml7) ∧ (r5 = true → wB l M_X12_isCell d [.ref h, .int x3] kd mr mi6 ml7 (fun r9 mi10 ml11 => ((r9 = true → wI l M_X12_cellOf d [.ref h, .int 9, .int x2] kd mr mi10 ml11 (fun r13 mi14 ml15 => wV l M_X12_findCost d [.ref h, .int r13] kd mr mi14 ml15 (fun mi17 ml18 => vp_in x3 64 ∧ K (mi17 (h + 12) (Int32.toNatClampNeg x3)) mi17 ml18))) ∧ (r9 = false → K (-1) mi10 ml11)))))))))) :
    wI l M_X12_hears (d + 1) [.ref h, .int x1, .int x2, .int x3] kd mr mi ml K := by
  show wp l M_X12_hears (d + 1) 0 0 0 [some (.ref h), some (.int x1), some (.int x2), some (.int x3)] [] 0 0 kd mi ml mr _
  refine wp_aload_n (pc := 0) dX12_hears_0 rfl ?_
  refine wp_iconst (v := 0) (pc := 1) dX12_hears_1 (by decide) ?_
  refine wp_putI (pc := 2) dX12_hears_2 fl_X12_107 rfl rfl (TX12s_k th) ?_
  refine wp_aload_n (pc := 5) dX12_hears_5 rfl ?_
  refine wp_iload_n (pc := 6) dX12_hears_6 rfl ?_
  refine cvB [.int x1] [] (pc := 7) dX12_hears_7 ml_X12_346 iv_X12_hand (TX12s_k th) (cl_X12 rfl) rfl rfl (Nat.le_of_ble_eq_true rfl) (Nat.le_of_ble_eq_true rfl) (wB.mono (fun r1 mi2 ml3 F => ?_) F)
  refine b_eq (tgt := 29) (pc := 10) dX12_hears_10 (by decide) (fun c4 => ?_) (fun c4 => ?_)
  · have F := F.1 c4
    refine wp_iconst (v := -1) (pc := 29) dX12_hears_29 (by decide) ?_
    exact r_I (pc := 30) dX12_hears_30 rfl F
  · have F := F.2 c4
    refine wp_aload_n (pc := 13) dX12_hears_13 rfl ?_
    refine wp_iload_n (pc := 14) dX12_hears_14 rfl ?_
    refine cvB [.int x2] [] (pc := 15) dX12_hears_15 ml_X12_349 iv_X12_isPlayer (TX12s_k th) (cl_X12 rfl) rfl rfl (Nat.le_of_ble_eq_true rfl) (Nat.le_of_ble_eq_true rfl) (wB.mono (fun r5 mi6 ml7 F => ?_) F)
    refine b_eq (tgt := 29) (pc := 18) dX12_hears_18 (by decide) (fun c8 => ?_) (fun c8 => ?_)
    · have F := F.1 c8
      refine wp_iconst (v := -1) (pc := 29) dX12_hears_29 (by decide) ?_
      exact r_I (pc := 30) dX12_hears_30 rfl F
    · have F := F.2 c8
      refine wp_aload_n (pc := 21) dX12_hears_21 rfl ?_
      refine wp_iload_n (pc := 22) dX12_hears_22 rfl ?_
      refine cvB [.int x3] [] (pc := 23) dX12_hears_23 ml_X12_425 iv_X12_isCell (TX12s_k th) (cl_X12 rfl) rfl rfl (Nat.le_of_ble_eq_true rfl) (Nat.le_of_ble_eq_true rfl) (wB.mono (fun r9 mi10 ml11 F => ?_) F)
      refine b_ne (tgt := 31) (pc := 26) dX12_hears_26 (by decide) (fun c12 => ?_) (fun c12 => ?_)
      · have F := F.1 c12
        refine wp_aload_n (pc := 31) dX12_hears_31 rfl ?_
        refine wp_aload_n (pc := 32) dX12_hears_32 rfl ?_
        refine wp_bipush (v := 9) (pc := 33) dX12_hears_33 (by decide) ?_
        refine wp_iload_n (pc := 35) dX12_hears_35 rfl ?_
        refine cvI [.int 9, .int x2] [.ref h] (pc := 36) dX12_hears_36 ml_X12_352 iv_X12_cellOf (TX12s_k th) (cl_X12 rfl) rfl rfl (Nat.le_of_ble_eq_true rfl) (Nat.le_of_ble_eq_true rfl) (wI.mono (fun r13 mi14 ml15 F => ?_) F)
        refine cvV [.int r13] [] (pc := 39) dX12_hears_39 ml_X12_389 iv_X12_findCost (TX12s_k th) (cl_X12 rfl) rfl rfl (Nat.le_of_ble_eq_true rfl) (Nat.le_of_ble_eq_true rfl) (wV.mono (fun mi17 ml18 F => ?_) F)
        refine wp_aload_n (pc := 42) dX12_hears_42 rfl ?_
        refine wp_getR (pc := 43) dX12_hears_43 fl_X12_44 rfl (TX12s_k th) (TX12s_r31 th) ?_
        refine wp_iload_n (pc := 46) dX12_hears_46 rfl ?_
        refine wp_iald (pc := 47) dX12_hears_47 (TX12s_a31 th) F.1 ?_
        have F := F.2
        exact r_I (pc := 48) dX12_hears_48 rfl F
      · have F := F.2 c12
        refine wp_iconst (v := -1) (pc := 29) dX12_hears_29 (by decide) ?_
        exact r_I (pc := 30) dX12_hears_30 rfl F
/-- isCell(I)Z -/
theorem w_X12_isCell {l : Launch} {d : Nat} {kd : pm_K} {mr : pm_R} {h : Nat} {x1 : Int32} {mi : pm_I} {ml : pm_L} {K : Bool → pm_I → pm_L → Prop} (th : TX12s kd mr h)
    (F : wB l M_X12_in d [.int x1, .int 0, .int ((mi h 27) - 1)] kd mr mi ml (fun r1 mi2 ml3 => K r1 mi2 ml3)) :
    wB l M_X12_isCell (d + 1) [.ref h, .int x1] kd mr mi ml K := by
  show wp l M_X12_isCell (d + 1) 0 0 0 [some (.ref h), some (.int x1)] [] 0 0 kd mi ml mr _
  refine wp_iload_n (pc := 0) dX12_isCell_0 rfl ?_
  refine wp_iconst (v := 0) (pc := 1) dX12_isCell_1 (by decide) ?_
  refine wp_aload_n (pc := 2) dX12_isCell_2 rfl ?_
  refine wp_getI (pc := 3) dX12_isCell_3 fl_X12_331 rfl (TX12s_k th) ?_
  refine wp_iconst (v := 1) (pc := 6) dX12_isCell_6 (by decide) ?_
  refine wp_isub (pc := 7) dX12_isCell_7 ?_
  refine csB [.int x1, .int 0, .int ((mi h 27) - 1)] [] (pc := 8) dX12_isCell_8 ml_X12_119 st_X12_in rfl rfl (Nat.le_of_ble_eq_true rfl) (Nat.le_of_ble_eq_true rfl) (wB.mono (fun r1 mi2 ml3 F => ?_) F)
  exact r_B (pc := 11) dX12_isCell_11 rfl F
def c_X12_enough_88 (l : Launch) (d : Nat) (kd : pm_K) (mr : pm_R) (h : Nat) (x2 : Int64) (x4 : Int32) (x5 : Int32) (mi : pm_I) (ml : pm_L) (K : Int32 → pm_I → pm_L → Prop) : Prop := wp l M_X12_enough d 0 0 88 [some (.ref h), none, some (.long x2), none, some (.int x4), some (.int x5)] [] 0 0 kd mi ml mr (qI kd mr K)
def c_X12_enough_90 (l : Launch) (d : Nat) (kd : pm_K) (mr : pm_R) (h : Nat) (x2 : Int64) (x5 : Int32) (s0 : Int32) (mi : pm_I) (ml : pm_L) (K : Int32 → pm_I → pm_L → Prop) : Prop := wp l M_X12_enough d 0 0 90 [some (.ref h), none, some (.long x2), none, none, some (.int x5)] [.int s0] 0 0 kd mi ml mr (qI kd mr K)
def c_X12_enough_83 (l : Launch) (d : Nat) (kd : pm_K) (mr : pm_R) (h : Nat) (x2 : Int64) (x5 : Int32) (mi : pm_I) (ml : pm_L) (K : Int32 → pm_I → pm_L → Prop) : Prop := wp l M_X12_enough d 0 0 83 [some (.ref h), none, some (.long x2), none, none, some (.int x5)] [] 0 0 kd mi ml mr (qI kd mr K)
def c_X12_enough_39 (l : Launch) (d : Nat) (kd : pm_K) (mr : pm_R) (h : Nat) (x2 : Int64) (x4 : Int32) (x5 : Int32) (mi : pm_I) (ml : pm_L) (K : Int32 → pm_I → pm_L → Prop) : Prop := wp l M_X12_enough d 0 0 39 [some (.ref h), none, some (.long x2), none, some (.int x4), some (.int x5)] [] 0 0 kd mi ml mr (qI kd mr K)
theorem w_X12_enough_39 {l : Launch} {d : Nat} {kd : pm_K} {mr : pm_R} {h : Nat} {x2 : Int64} {x4 : Int32} {x5 : Int32} {mi : pm_I} {ml : pm_L} {K : Int32 → pm_I → pm_L → Prop} (th : TX12s kd mr h)
    (F : wI l M_X12_everybody d [.ref h] kd mr mi ml (fun r17 mi18 ml19 => ((r17 < x5 → K x4 mi18 ml19) ∧ (¬ r17 < x5 → wL l M_X12_heardBy d [.ref h, .int x5] kd mr mi18 ml19 (fun r21 mi22 ml23 => wL l M_X12_open d [.ref h] kd mr mi22 ml23 (fun r24 mi25 ml26 => ((¬ (lg_cmp (r21 &&& r24) x2) = 0 → c_X12_enough_88 l (d + 1) kd mr h x2 x4 x5 mi25 ml26 K) ∧ ((lg_cmp (r21 &&& r24) x2) = 0 → ((x4 = (-1) → c_X12_enough_83 l (d + 1) kd mr h x2 x5 mi25 ml26 K) ∧ (¬ x4 = (-1) → wI l M_X12_ones d [.int x5] kd mr mi25 ml26 (fun r29 mi30 ml31 => wI l M_X12_ones d [.int x4] kd mr mi30 ml31 (fun r32 mi33 ml34 => c_X12_enough_39 l (d + 1) kd mr h x2 (if r32 ≤ r29 then x4 else x5) (x5 + 1) mi33 ml34 K)))))))))))) :
    c_X12_enough_39 l (d + 1) kd mr h x2 x4 x5 mi ml K := by
  show wp l M_X12_enough (d + 1) 0 0 39 [some (.ref h), none, some (.long x2), none, some (.int x4), some (.int x5)] [] 0 0 kd mi ml mr _
  refine wp_iload (pc := 39) dX12_enough_39 rfl ?_
  refine wp_aload_n (pc := 41) dX12_enough_41 rfl ?_
  refine cvI [] [.int x5] (pc := 42) dX12_enough_42 ml_X12_435 iv_X12_everybody (TX12s_k th) (cl_X12 rfl) rfl rfl (Nat.le_of_ble_eq_true rfl) (Nat.le_of_ble_eq_true rfl) (wI.mono (fun r17 mi18 ml19 F => ?_) F)
  refine wp_icmp_gt (tgt := 98) (pc := 45) dX12_enough_45 (by decide) (fun c20 => ?_) (fun c20 => ?_)
  · have F := F.1 c20
    refine wp_iload (pc := 98) dX12_enough_98 rfl ?_
    exact r_I (pc := 100) dX12_enough_100 rfl F
  · have F := F.2 c20
    refine wp_aload_n (pc := 48) dX12_enough_48 rfl ?_
    refine wp_iload (pc := 49) dX12_enough_49 rfl ?_
    refine cvL [.int x5] [] (pc := 51) dX12_enough_51 ml_X12_438 iv_X12_heardBy (TX12s_k th) (cl_X12 rfl) rfl rfl (Nat.le_of_ble_eq_true rfl) (Nat.le_of_ble_eq_true rfl) (wL.mono (fun r21 mi22 ml23 F => ?_) F)
    refine wp_aload_n (pc := 54) dX12_enough_54 rfl ?_
    refine cvL [] [.long r21] (pc := 55) dX12_enough_55 ml_X12_442 iv_X12_open (TX12s_k th) (cl_X12 rfl) rfl rfl (Nat.le_of_ble_eq_true rfl) (Nat.le_of_ble_eq_true rfl) (wL.mono (fun r24 mi25 ml26 F => ?_) F)
    refine wp_land (pc := 58) dX12_enough_58 ?_
    refine wp_lload_n (pc := 59) dX12_enough_59 rfl ?_
    refine wp_lcmp (pc := 60) dX12_enough_60 ?_
    refine wp_if_ne (tgt := 88) (pc := 61) dX12_enough_61 (by decide) (fun c27 => ?_) (fun c27 => ?_)
    · have F := F.1 c27
      exact wp_less (L' := [some (.ref h), none, some (.long x2), none, some (.int x4), some (.int x5)]) ⟨rfl, ⟨rfl, ⟨rfl, ⟨rfl, trivial⟩⟩⟩⟩ F
    · have F := F.2 c27
      refine wp_iload (pc := 64) dX12_enough_64 rfl ?_
      refine wp_iconst (v := -1) (pc := 66) dX12_enough_66 (by decide) ?_
      refine wp_icmp_eq (tgt := 83) (pc := 67) dX12_enough_67 (by decide) (fun c28 => ?_) (fun c28 => ?_)
      · have F := F.1 c28
        exact wp_less (L' := [some (.ref h), none, some (.long x2), none, none, some (.int x5)]) ⟨rfl, ⟨rfl, ⟨rfl, trivial⟩⟩⟩ F
      · have F := F.2 c28
        refine wp_iload (pc := 70) dX12_enough_70 rfl ?_
        refine csI [.int x5] [] (pc := 72) dX12_enough_72 ml_X12_446 st_X12_ones rfl rfl (Nat.le_of_ble_eq_true rfl) (Nat.le_of_ble_eq_true rfl) (wI.mono (fun r29 mi30 ml31 F => ?_) F)
        refine wp_iload (pc := 75) dX12_enough_75 rfl ?_
        refine csI [.int x4] [.int r29] (pc := 77) dX12_enough_77 ml_X12_446 st_X12_ones rfl rfl (Nat.le_of_ble_eq_true rfl) (Nat.le_of_ble_eq_true rfl) (wI.mono (fun r32 mi33 ml34 F => ?_) F)
        suffices J35 : ∀ v36 : Int32, v36 = (if r32 ≤ r29 then x4 else x5) → wp l M_X12_enough (d + 1) 0 0 90 [some (.ref h), none, some (.long x2), none, some (.int x4), some (.int x5)] [.int v36] 0 0 kd mi33 ml34 mr _ by
            refine wp_icmp_ge (tgt := 88) (pc := 80) dX12_enough_80 (by decide) (fun c37 => ?_) (fun c37 => ?_)
            · refine wp_iload (pc := 88) dX12_enough_88 rfl ?_
              exact J35 _ (by simp only [eq_true c37, if_true, if_false, decide_true, decide_false, Bool.not_true, Bool.not_false, Bool.true_and, Bool.false_and, Bool.true_or, Bool.false_or, b2i_t, b2i_f, ite_true, ite_false, not_true_eq_false, not_false_eq_true, reduceCtorEq, decide_eq_true_eq])
            · refine wp_iload (pc := 83) dX12_enough_83 rfl ?_
              refine wp_goto (tgt := 90) (pc := 85) dX12_enough_85 (by decide) ?_
              exact J35 _ (by simp only [c37, if_true, if_false, decide_true, decide_false, Bool.not_true, Bool.not_false, Bool.true_and, Bool.false_and, Bool.true_or, Bool.false_or, b2i_t, b2i_f, ite_true, ite_false, not_true_eq_false, not_false_eq_true, reduceCtorEq, decide_eq_true_eq])
        intro v36 ev36
        subst ev36
        refine wp_istore (pc := 90) dX12_enough_90 (Nat.le_of_ble_eq_true rfl) rfl ?_
        show wp l M_X12_enough (d + 1) 0 0 _ [some (.ref h), none, some (.long x2), none, some (.int (if r32 ≤ r29 then x4 else x5)), some (.int x5)] _ 0 0 kd _ _ mr _
        refine wp_iinc (v := (x5 + 1)) (pc := 92) dX12_enough_92 rfl rfl rfl ?_
        show wp l M_X12_enough (d + 1) 0 0 _ [some (.ref h), none, some (.long x2), none, some (.int (if r32 ≤ r29 then x4 else x5)), some (.int (x5 + 1))] _ 0 0 kd _ _ mr _
        refine wp_goto (tgt := 39) (pc := 95) dX12_enough_95 (by decide) ?_
        exact wp_less (L' := [some (.ref h), none, some (.long x2), none, some (.int (if r32 ≤ r29 then x4 else x5)), some (.int (x5 + 1))]) ⟨rfl, ⟨rfl, ⟨rfl, ⟨rfl, trivial⟩⟩⟩⟩ F
theorem w_X12_enough_83 {l : Launch} {d : Nat} {kd : pm_K} {mr : pm_R} {h : Nat} {x2 : Int64} {x5 : Int32} {mi : pm_I} {ml : pm_L} {K : Int32 → pm_I → pm_L → Prop} (th : TX12s kd mr h)
    (F : c_X12_enough_90 l (d + 1) kd mr h x2 x5 x5 mi ml K) :
    c_X12_enough_83 l (d + 1) kd mr h x2 x5 mi ml K := by
  show wp l M_X12_enough (d + 1) 0 0 83 [some (.ref h), none, some (.long x2), none, none, some (.int x5)] [] 0 0 kd mi ml mr _
  refine wp_iload (pc := 83) dX12_enough_83 rfl ?_
  refine wp_goto (tgt := 90) (pc := 85) dX12_enough_85 (by decide) ?_
  exact wp_less (L' := [some (.ref h), none, some (.long x2), none, none, some (.int x5)]) ⟨rfl, ⟨rfl, ⟨rfl, trivial⟩⟩⟩ F
theorem w_X12_enough_90 {l : Launch} {d : Nat} {kd : pm_K} {mr : pm_R} {h : Nat} {x2 : Int64} {x5 : Int32} {s0 : Int32} {mi : pm_I} {ml : pm_L} {K : Int32 → pm_I → pm_L → Prop} (th : TX12s kd mr h)
    (F : c_X12_enough_39 l (d + 1) kd mr h x2 s0 (x5 + 1) mi ml K) :
    c_X12_enough_90 l (d + 1) kd mr h x2 x5 s0 mi ml K := by
  show wp l M_X12_enough (d + 1) 0 0 90 [some (.ref h), none, some (.long x2), none, none, some (.int x5)] [.int s0] 0 0 kd mi ml mr _
  refine wp_istore (pc := 90) dX12_enough_90 (Nat.le_of_ble_eq_true rfl) rfl ?_
  show wp l M_X12_enough (d + 1) 0 0 _ [some (.ref h), none, some (.long x2), none, some (.int s0), some (.int x5)] _ 0 0 kd _ _ mr _
  refine wp_iinc (v := (x5 + 1)) (pc := 92) dX12_enough_92 rfl rfl rfl ?_
  show wp l M_X12_enough (d + 1) 0 0 _ [some (.ref h), none, some (.long x2), none, some (.int s0), some (.int (x5 + 1))] _ 0 0 kd _ _ mr _
  refine wp_goto (tgt := 39) (pc := 95) dX12_enough_95 (by decide) ?_
  exact wp_less (L' := [some (.ref h), none, some (.long x2), none, some (.int s0), some (.int (x5 + 1))]) ⟨rfl, ⟨rfl, ⟨rfl, ⟨rfl, trivial⟩⟩⟩⟩ F
theorem w_X12_enough_88 {l : Launch} {d : Nat} {kd : pm_K} {mr : pm_R} {h : Nat} {x2 : Int64} {x4 : Int32} {x5 : Int32} {mi : pm_I} {ml : pm_L} {K : Int32 → pm_I → pm_L → Prop} (th : TX12s kd mr h)
    (F : c_X12_enough_90 l (d + 1) kd mr h x2 x5 x4 mi ml K) :
    c_X12_enough_88 l (d + 1) kd mr h x2 x4 x5 mi ml K := by
  show wp l M_X12_enough (d + 1) 0 0 88 [some (.ref h), none, some (.long x2), none, some (.int x4), some (.int x5)] [] 0 0 kd mi ml mr _
  refine wp_iload (pc := 88) dX12_enough_88 rfl ?_
  exact wp_less (L' := [some (.ref h), none, some (.long x2), none, none, some (.int x5)]) ⟨rfl, ⟨rfl, ⟨rfl, trivial⟩⟩⟩ F
/-- enough(I)I -/
theorem w_X12_enough {l : Launch} {d : Nat} {kd : pm_K} {mr : pm_R} {h : Nat} {x1 : Int32} {mi : pm_I} {ml : pm_L} {K : Int32 → pm_I → pm_L → Prop} (th : TX12s kd mr h)
    (F : wB l M_X12_hand d [.ref h, .int x1] kd mr (pm_up mi h 0 0) ml (fun r1 mi2 ml3 => ((r1 = true → wV l M_X12_findHeard d [.ref h] kd mr mi2 ml3 (fun mi6 ml7 => wI l M_X12_everybody d [.ref h] kd mr mi6 ml7 (fun r8 mi9 ml10 => wL l M_X12_heardBy d [.ref h, .int r8] kd mr mi9 ml10 (fun r11 mi12 ml13 => wL l M_X12_open d [.ref h] kd mr mi12 ml13 (fun r14 mi15 ml16 => c_X12_enough_39 l (d + 1) kd mr h (r11 &&& r14) (-1) 0 mi15 ml16 K))))) ∧ (r1 = false → K (-1) mi2 ml3)))) :
    wI l M_X12_enough (d + 1) [.ref h, .int x1] kd mr mi ml K := by
  show wp l M_X12_enough (d + 1) 0 0 0 [some (.ref h), some (.int x1), none, none, none, none] [] 0 0 kd mi ml mr _
  refine wp_aload_n (pc := 0) dX12_enough_0 rfl ?_
  refine wp_iconst (v := 0) (pc := 1) dX12_enough_1 (by decide) ?_
  refine wp_putI (pc := 2) dX12_enough_2 fl_X12_107 rfl rfl (TX12s_k th) ?_
  refine wp_aload_n (pc := 5) dX12_enough_5 rfl ?_
  refine wp_iload_n (pc := 6) dX12_enough_6 rfl ?_
  refine cvB [.int x1] [] (pc := 7) dX12_enough_7 ml_X12_346 iv_X12_hand (TX12s_k th) (cl_X12 rfl) rfl rfl (Nat.le_of_ble_eq_true rfl) (Nat.le_of_ble_eq_true rfl) (wB.mono (fun r1 mi2 ml3 F => ?_) F)
  refine b_ne (tgt := 15) (pc := 10) dX12_enough_10 (by decide) (fun c4 => ?_) (fun c4 => ?_)
  · have F := F.1 c4
    refine wp_aload_n (pc := 15) dX12_enough_15 rfl ?_
    refine cvV [] [] (pc := 16) dX12_enough_16 ml_X12_432 iv_X12_findHeard (TX12s_k th) (cl_X12 rfl) rfl rfl (Nat.le_of_ble_eq_true rfl) (Nat.le_of_ble_eq_true rfl) (wV.mono (fun mi6 ml7 F => ?_) F)
    refine wp_aload_n (pc := 19) dX12_enough_19 rfl ?_
    refine wp_aload_n (pc := 20) dX12_enough_20 rfl ?_
    refine cvI [] [.ref h] (pc := 21) dX12_enough_21 ml_X12_435 iv_X12_everybody (TX12s_k th) (cl_X12 rfl) rfl rfl (Nat.le_of_ble_eq_true rfl) (Nat.le_of_ble_eq_true rfl) (wI.mono (fun r8 mi9 ml10 F => ?_) F)
    refine cvL [.int r8] [] (pc := 24) dX12_enough_24 ml_X12_438 iv_X12_heardBy (TX12s_k th) (cl_X12 rfl) rfl rfl (Nat.le_of_ble_eq_true rfl) (Nat.le_of_ble_eq_true rfl) (wL.mono (fun r11 mi12 ml13 F => ?_) F)
    refine wp_aload_n (pc := 27) dX12_enough_27 rfl ?_
    refine cvL [] [.long r11] (pc := 28) dX12_enough_28 ml_X12_442 iv_X12_open (TX12s_k th) (cl_X12 rfl) rfl rfl (Nat.le_of_ble_eq_true rfl) (Nat.le_of_ble_eq_true rfl) (wL.mono (fun r14 mi15 ml16 F => ?_) F)
    refine wp_land (pc := 31) dX12_enough_31 ?_
    refine wp_lstore_n (pc := 32) dX12_enough_32 (Nat.le_of_ble_eq_true rfl) rfl ?_
    show wp l M_X12_enough (d + 1) 0 0 _ [some (.ref h), some (.int x1), some (.long (r11 &&& r14)), none, none, none] _ 0 0 kd _ _ mr _
    refine wp_iconst (v := -1) (pc := 33) dX12_enough_33 (by decide) ?_
    refine wp_istore (pc := 34) dX12_enough_34 (Nat.le_of_ble_eq_true rfl) rfl ?_
    show wp l M_X12_enough (d + 1) 0 0 _ [some (.ref h), some (.int x1), some (.long (r11 &&& r14)), none, some (.int (-1)), none] _ 0 0 kd _ _ mr _
    refine wp_iconst (v := 0) (pc := 36) dX12_enough_36 (by decide) ?_
    refine wp_istore (pc := 37) dX12_enough_37 (Nat.le_of_ble_eq_true rfl) rfl ?_
    show wp l M_X12_enough (d + 1) 0 0 _ [some (.ref h), some (.int x1), some (.long (r11 &&& r14)), none, some (.int (-1)), some (.int 0)] _ 0 0 kd _ _ mr _
    exact wp_less (L' := [some (.ref h), none, some (.long (r11 &&& r14)), none, some (.int (-1)), some (.int 0)]) ⟨rfl, ⟨rfl, ⟨rfl, ⟨rfl, trivial⟩⟩⟩⟩ F
  · have F := F.2 c4
    refine wp_iconst (v := -1) (pc := 13) dX12_enough_13 (by decide) ?_
    exact r_I (pc := 14) dX12_enough_14 rfl F
