/-! block lemmas, by program (gen/mkw.py) -/
/-- feed(IIIII)I -/
theorem w_X11_feed {l : Launch} {d : Nat} {kd : pm_K} {mr : pm_R} {h : Nat} {x1 : Int32} {x2 : Int32} {x3 : Int32} {x4 : Int32} {x5 : Int32} {mi : pm_I} {ml : pm_L} {K : Int32 → pm_I → pm_L → Prop} (th : TX11s kd mr h)
    (F : ((((mi (h + 1) 1) + 20) ≤ 600 → wV l M_X9_write d [.ref (h + 1), .int x1] kd mr mi ml (fun mi3 ml4 => wV l M_X9_write d [.ref (h + 1), .int x2] kd mr mi3 ml4 (fun mi6 ml7 => wV l M_X9_write d [.ref (h + 1), .int x3] kd mr mi6 ml7 (fun mi9 ml10 => wV l M_X9_write d [.ref (h + 1), .int x4] kd mr mi9 ml10 (fun mi12 ml13 => wV l M_X9_write d [.ref (h + 1), .int x5] kd mr mi12 ml13 (fun mi15 ml16 => K (mi15 (h + 1) 1) mi15 ml16)))))) ∧ (¬ ((mi (h + 1) 1) + 20) ≤ 600 → K (-1) mi ml))) :
    wI l M_X11_feed (d + 1) [.ref h, .int x1, .int x2, .int x3, .int x4, .int x5] kd mr mi ml K := by
  show wp l M_X11_feed (d + 1) 0 0 0 [some (.ref h), some (.int x1), some (.int x2), some (.int x3), some (.int x4), some (.int x5)] [] 0 0 kd mi ml mr _
  refine wp_aload_n (pc := 0) dX11_feed_0 rfl ?_
  refine wp_getR (pc := 1) dX11_feed_1 fl_X11_10 rfl (TX11s_k th) (TX11s_r0 th) ?_
  refine wp_getI (pc := 4) dX11_feed_4 fl_X11_77 rfl (TX9s_k (TX11s_a0 th)) ?_
  refine wp_bipush (v := 20) (pc := 7) dX11_feed_7 (by decide) ?_
  refine wp_iadd (pc := 9) dX11_feed_9 ?_
  refine wp_sipush (v := 600) (pc := 10) dX11_feed_10 (by decide) ?_
  refine wp_icmp_le (tgt := 18) (pc := 13) dX11_feed_13 (by decide) (fun c1 => ?_) (fun c1 => ?_)
  · have F := F.1 c1
    refine wp_aload_n (pc := 18) dX11_feed_18 rfl ?_
    refine wp_getR (pc := 19) dX11_feed_19 fl_X11_10 rfl (TX11s_k th) (TX11s_r0 th) ?_
    refine wp_iload_n (pc := 22) dX11_feed_22 rfl ?_
    refine cvV [.int x1] [] (pc := 23) dX11_feed_23 ml_X11_81 iv_X9_write (TX9s_k (TX11s_a0 th)) (cl_X9 rfl) rfl rfl (Nat.le_of_ble_eq_true rfl) (Nat.le_of_ble_eq_true rfl) (wV.mono (fun mi3 ml4 F => ?_) F)
    refine wp_aload_n (pc := 26) dX11_feed_26 rfl ?_
    refine wp_getR (pc := 27) dX11_feed_27 fl_X11_10 rfl (TX11s_k th) (TX11s_r0 th) ?_
    refine wp_iload_n (pc := 30) dX11_feed_30 rfl ?_
    refine cvV [.int x2] [] (pc := 31) dX11_feed_31 ml_X11_81 iv_X9_write (TX9s_k (TX11s_a0 th)) (cl_X9 rfl) rfl rfl (Nat.le_of_ble_eq_true rfl) (Nat.le_of_ble_eq_true rfl) (wV.mono (fun mi6 ml7 F => ?_) F)
    refine wp_aload_n (pc := 34) dX11_feed_34 rfl ?_
    refine wp_getR (pc := 35) dX11_feed_35 fl_X11_10 rfl (TX11s_k th) (TX11s_r0 th) ?_
    refine wp_iload_n (pc := 38) dX11_feed_38 rfl ?_
    refine cvV [.int x3] [] (pc := 39) dX11_feed_39 ml_X11_81 iv_X9_write (TX9s_k (TX11s_a0 th)) (cl_X9 rfl) rfl rfl (Nat.le_of_ble_eq_true rfl) (Nat.le_of_ble_eq_true rfl) (wV.mono (fun mi9 ml10 F => ?_) F)
    refine wp_aload_n (pc := 42) dX11_feed_42 rfl ?_
    refine wp_getR (pc := 43) dX11_feed_43 fl_X11_10 rfl (TX11s_k th) (TX11s_r0 th) ?_
    refine wp_iload (pc := 46) dX11_feed_46 rfl ?_
    refine cvV [.int x4] [] (pc := 48) dX11_feed_48 ml_X11_81 iv_X9_write (TX9s_k (TX11s_a0 th)) (cl_X9 rfl) rfl rfl (Nat.le_of_ble_eq_true rfl) (Nat.le_of_ble_eq_true rfl) (wV.mono (fun mi12 ml13 F => ?_) F)
    refine wp_aload_n (pc := 51) dX11_feed_51 rfl ?_
    refine wp_getR (pc := 52) dX11_feed_52 fl_X11_10 rfl (TX11s_k th) (TX11s_r0 th) ?_
    refine wp_iload (pc := 55) dX11_feed_55 rfl ?_
    refine cvV [.int x5] [] (pc := 57) dX11_feed_57 ml_X11_81 iv_X9_write (TX9s_k (TX11s_a0 th)) (cl_X9 rfl) rfl rfl (Nat.le_of_ble_eq_true rfl) (Nat.le_of_ble_eq_true rfl) (wV.mono (fun mi15 ml16 F => ?_) F)
    refine wp_aload_n (pc := 60) dX11_feed_60 rfl ?_
    refine wp_getR (pc := 61) dX11_feed_61 fl_X11_10 rfl (TX11s_k th) (TX11s_r0 th) ?_
    refine wp_getI (pc := 64) dX11_feed_64 fl_X11_77 rfl (TX9s_k (TX11s_a0 th)) ?_
    exact r_I (pc := 67) dX11_feed_67 rfl F
  · have F := F.2 c1
    refine wp_iconst (v := -1) (pc := 16) dX11_feed_16 (by decide) ?_
    exact r_I (pc := 17) dX11_feed_17 rfl F
def c_X9_write_3 (l : Launch) (d : Nat) (kd : pm_K) (mr : pm_R) (h : Nat) (x1 : Int32) (x2 : Int32) (mi : pm_I) (ml : pm_L) (K : pm_I → pm_L → Prop) : Prop := wp l M_X9_write d 0 0 3 [some (.ref h), some (.int x1), some (.int x2)] [] 0 0 kd mi ml mr (qV kd mr K)
theorem w_X9_write_3 {l : Launch} {d : Nat} {kd : pm_K} {mr : pm_R} {h : Nat} {x1 : Int32} {x2 : Int32} {mi : pm_I} {ml : pm_L} {K : pm_I → pm_L → Prop} (th : TX9s kd mr h)
    (F : ((x2 < 0 → K mi ml) ∧ (¬ x2 < 0 → ((600 ≤ (mi h 1) → K mi ml) ∧ (¬ 600 ≤ (mi h 1) → vp_in (mi h 1) 600 ∧ c_X9_write_3 l d kd mr h x1 (x2 + (-8)) (pm_up (pm_up mi (h + 1) (Int32.toNatClampNeg (mi h 1)) ((Int32.toInt8 ((Int32.toInt8 (((x1).toUInt32 >>> (Int32.toUInt32 x2 &&& Int32.toUInt32 31)).toInt32)).toInt32)).toInt32)) h 1 ((mi h 1) + 1)) ml K))))) :
    c_X9_write_3 l d kd mr h x1 x2 mi ml K := by
  show wp l M_X9_write d 0 0 3 [some (.ref h), some (.int x1), some (.int x2)] [] 0 0 kd mi ml mr _
  refine wp_iload_n (pc := 3) dX9_write_3 rfl ?_
  refine wp_if_lt (tgt := 46) (pc := 4) dX9_write_4 (by decide) (fun c1 => ?_) (fun c1 => ?_)
  · have F := F.1 c1
    exact r_V (pc := 46) dX9_write_46 rfl F
  · have F := F.2 c1
    refine wp_aload_n (pc := 7) dX9_write_7 rfl ?_
    refine wp_getI (pc := 8) dX9_write_8 fl_X9_53 rfl (TX9s_k th) ?_
    refine wp_sipush (v := 600) (pc := 11) dX9_write_11 (by decide) ?_
    refine wp_icmp_ge (tgt := 46) (pc := 14) dX9_write_14 (by decide) (fun c2 => ?_) (fun c2 => ?_)
    · have F := F.1 c2
      exact r_V (pc := 46) dX9_write_46 rfl F
    · have F := F.2 c2
      refine wp_aload_n (pc := 17) dX9_write_17 rfl ?_
      refine wp_getR (pc := 18) dX9_write_18 fl_X9_9 rfl (TX9s_k th) (TX9s_r0 th) ?_
      refine wp_aload_n (pc := 21) dX9_write_21 rfl ?_
      refine wp_getI (pc := 22) dX9_write_22 fl_X9_53 rfl (TX9s_k th) ?_
      refine wp_iload_n (pc := 25) dX9_write_25 rfl ?_
      refine wp_iload_n (pc := 26) dX9_write_26 rfl ?_
      refine wp_iushr (pc := 27) dX9_write_27 ?_
      refine wp_i2b (pc := 28) dX9_write_28 ?_
      refine wp_bast (pc := 29) dX9_write_29 (TX9s_a0 th) F.1 ?_
      have F := F.2
      refine wp_aload_n (pc := 30) dX9_write_30 rfl ?_
      refine wp_dup (pc := 31) dX9_write_31 rfl ?_
      refine wp_getI (pc := 32) dX9_write_32 fl_X9_53 rfl (TX9s_k th) ?_
      refine t_I (show ((pm_up mi (h + 1) (Int32.toNatClampNeg (mi h 1)) ((Int32.toInt8 ((Int32.toInt8 (((x1).toUInt32 >>> (Int32.toUInt32 x2 &&& Int32.toUInt32 31)).toInt32)).toInt32)).toInt32)) h 1) = (mi h 1) from pm_up_k _ _ (by omega)) ?_
      refine wp_iconst (v := 1) (pc := 35) dX9_write_35 (by decide) ?_
      refine wp_iadd (pc := 36) dX9_write_36 ?_
      refine wp_putI (pc := 37) dX9_write_37 fl_X9_53 rfl rfl (TX9s_k th) ?_
      refine wp_iinc (v := (x2 + (-8))) (pc := 40) dX9_write_40 rfl rfl rfl ?_
      show wp l M_X9_write d 0 0 _ [some (.ref h), some (.int x1), some (.int (x2 + (-8)))] _ 0 0 kd _ _ mr _
      refine wp_goto (tgt := 3) (pc := 43) dX9_write_43 (by decide) ?_
      exact wp_less (L' := [some (.ref h), some (.int x1), some (.int (x2 + (-8)))]) ⟨rfl, ⟨rfl, ⟨rfl, trivial⟩⟩⟩ F
/-- write(I)V -/
theorem w_X9_write {l : Launch} {d : Nat} {kd : pm_K} {mr : pm_R} {h : Nat} {x1 : Int32} {mi : pm_I} {ml : pm_L} {K : pm_I → pm_L → Prop} (th : TX9s kd mr h)
    (F : c_X9_write_3 l d kd mr h x1 24 mi ml K) :
    wV l M_X9_write d [.ref h, .int x1] kd mr mi ml K := by
  show wp l M_X9_write d 0 0 0 [some (.ref h), some (.int x1), none] [] 0 0 kd mi ml mr _
  refine wp_bipush (v := 24) (pc := 0) dX9_write_0 (by decide) ?_
  refine wp_istore_n (pc := 2) dX9_write_2 (Nat.le_of_ble_eq_true rfl) rfl ?_
  show wp l M_X9_write d 0 0 _ [some (.ref h), some (.int x1), some (.int 24)] _ 0 0 kd _ _ mr _
  exact wp_less (L' := [some (.ref h), some (.int x1), some (.int 24)]) ⟨rfl, ⟨rfl, ⟨rfl, trivial⟩⟩⟩ F
/-- end(I)I -/
theorem w_X11_end {l : Launch} {d : Nat} {kd : pm_K} {mr : pm_R} {h : Nat} {x1 : Int32} {mi : pm_I} {ml : pm_L} {K : Int32 → pm_I → pm_L → Prop} (th : TX11s kd mr h)
    (F : ((x1 < 0 → K (-1) mi ml) ∧ (¬ x1 < 0 → ((x1 ≤ (mi (h + 1) 1) → K x1 (pm_up mi (h + 1) 1 x1) ml) ∧ (¬ x1 ≤ (mi (h + 1) 1) → K (-1) mi ml))))) :
    wI l M_X11_end d [.ref h, .int x1] kd mr mi ml K := by
  show wp l M_X11_end d 0 0 0 [some (.ref h), some (.int x1)] [] 0 0 kd mi ml mr _
  refine wp_iload_n (pc := 0) dX11_end_0 rfl ?_
  refine wp_if_lt (tgt := 15) (pc := 1) dX11_end_1 (by decide) (fun c1 => ?_) (fun c1 => ?_)
  · have F := F.1 c1
    refine wp_iconst (v := -1) (pc := 15) dX11_end_15 (by decide) ?_
    exact r_I (pc := 16) dX11_end_16 rfl F
  · have F := F.2 c1
    refine wp_iload_n (pc := 4) dX11_end_4 rfl ?_
    refine wp_aload_n (pc := 5) dX11_end_5 rfl ?_
    refine wp_getR (pc := 6) dX11_end_6 fl_X11_10 rfl (TX11s_k th) (TX11s_r0 th) ?_
    refine wp_getI (pc := 9) dX11_end_9 fl_X11_77 rfl (TX9s_k (TX11s_a0 th)) ?_
    refine wp_icmp_le (tgt := 17) (pc := 12) dX11_end_12 (by decide) (fun c2 => ?_) (fun c2 => ?_)
    · have F := F.1 c2
      refine wp_aload_n (pc := 17) dX11_end_17 rfl ?_
      refine wp_getR (pc := 18) dX11_end_18 fl_X11_10 rfl (TX11s_k th) (TX11s_r0 th) ?_
      refine wp_iload_n (pc := 21) dX11_end_21 rfl ?_
      refine wp_putI (pc := 22) dX11_end_22 fl_X11_77 rfl rfl (TX9s_k (TX11s_a0 th)) ?_
      refine wp_iload_n (pc := 25) dX11_end_25 rfl ?_
      exact r_I (pc := 26) dX11_end_26 rfl F
    · have F := F.2 c2
      refine wp_iconst (v := -1) (pc := 15) dX11_end_15 (by decide) ?_
      exact r_I (pc := 16) dX11_end_16 rfl F
def c_X11_text_97 (l : Launch) (d : Nat) (kd : pm_K) (mr : pm_R) (h : Nat) (x1 : Int32) (x2 : Int32) (x3 : Int32) (x4 : Int32) (x5 : Int32) (mi : pm_I) (ml : pm_L) (K : Int32 → pm_I → pm_L → Prop) : Prop := wp l M_X11_text d 0 0 97 [some (.ref h), some (.int x1), some (.int x2), some (.int x3), some (.int x4), some (.int x5), none, none] [] 0 0 kd mi ml mr (qI kd mr K)
theorem w_X11_text_97 {l : Launch} {d : Nat} {kd : pm_K} {mr : pm_R} {h : Nat} {x1 : Int32} {x2 : Int32} {x3 : Int32} {x4 : Int32} {x5 : Int32} {mi : pm_I} {ml : pm_L} {K : Int32 → pm_I → pm_L → Prop} (th : TX11s kd mr h)
    (F : wV l M_X5_read d [.ref (h + 183), .int x1, .ref ((h + 1) + 1), .int x3] kd mr mi ml (fun mi16 ml17 => (((mi16 (h + 183) 6) = 0 → wV l M_X9_put d [.ref (h + 1), .int x1, .int (if x5 = 0 then x2 else x4), .ref (h + 183)] kd mr (pm_up (pm_up mi16 (h + 1) 2 (mi16 (h + 183) 6)) (h + 1) 3 (mi16 (h + 183) 7)) ml17 (fun mi23 ml24 => K (if x5 = 0 then x2 else x4) mi23 ml24)) ∧ (¬ (mi16 (h + 183) 6) = 0 → K (-1) (pm_up (pm_up mi16 (h + 1) 2 (mi16 (h + 183) 6)) (h + 1) 3 (mi16 (h + 183) 7)) ml17)))) :
    c_X11_text_97 l (d + 1) kd mr h x1 x2 x3 x4 x5 mi ml K := by
  show wp l M_X11_text (d + 1) 0 0 97 [some (.ref h), some (.int x1), some (.int x2), some (.int x3), some (.int x4), some (.int x5), none, none] [] 0 0 kd mi ml mr _
  refine wp_aload_n (pc := 97) dX11_text_97 rfl ?_
  refine wp_getR (pc := 98) dX11_text_98 fl_X11_27 rfl (TX11s_k th) (TX11s_r3 th) ?_
  refine wp_iload_n (pc := 101) dX11_text_101 rfl ?_
  refine wp_aload_n (pc := 102) dX11_text_102 rfl ?_
  refine wp_getR (pc := 103) dX11_text_103 fl_X11_10 rfl (TX11s_k th) (TX11s_r0 th) ?_
  refine wp_getR (pc := 106) dX11_text_106 fl_X11_95 rfl (TX9s_k (TX11s_a0 th)) (TX9s_r0 (TX11s_a0 th)) ?_
  refine wp_iload_n (pc := 109) dX11_text_109 rfl ?_
  refine cvV [.int x1, .ref ((h + 1) + 1), .int x3] [] (pc := 110) dX11_text_110 ml_X11_99 iv_X5_read (TX5s_k (TX11s_a3 th)) (cl_X5 rfl) rfl rfl (Nat.le_of_ble_eq_true rfl) (Nat.le_of_ble_eq_true rfl) (wV.mono (fun mi16 ml17 F => ?_) F)
  refine wp_aload_n (pc := 113) dX11_text_113 rfl ?_
  refine wp_getR (pc := 114) dX11_text_114 fl_X11_10 rfl (TX11s_k th) (TX11s_r0 th) ?_
  refine wp_aload_n (pc := 117) dX11_text_117 rfl ?_
  refine wp_getR (pc := 118) dX11_text_118 fl_X11_27 rfl (TX11s_k th) (TX11s_r3 th) ?_
  refine wp_getI (pc := 121) dX11_text_121 fl_X11_103 rfl (TX5s_k (TX11s_a3 th)) ?_
  refine wp_putI (pc := 124) dX11_text_124 fl_X11_85 rfl rfl (TX9s_k (TX11s_a0 th)) ?_
  refine wp_aload_n (pc := 127) dX11_text_127 rfl ?_
  refine wp_getR (pc := 128) dX11_text_128 fl_X11_10 rfl (TX11s_k th) (TX11s_r0 th) ?_
  refine wp_aload_n (pc := 131) dX11_text_131 rfl ?_
  refine wp_getR (pc := 132) dX11_text_132 fl_X11_27 rfl (TX11s_k th) (TX11s_r3 th) ?_
  refine wp_getI (pc := 135) dX11_text_135 fl_X11_104 rfl (TX5s_k (TX11s_a3 th)) ?_
  refine t_I (show ((pm_up mi16 (h + 1) 2 (mi16 (h + 183) 6)) (h + 183) 7) = (mi16 (h + 183) 7) from pm_up_k _ _ (by omega)) ?_
  refine wp_putI (pc := 138) dX11_text_138 fl_X11_88 rfl rfl (TX9s_k (TX11s_a0 th)) ?_
  refine wp_aload_n (pc := 141) dX11_text_141 rfl ?_
  refine wp_getR (pc := 142) dX11_text_142 fl_X11_10 rfl (TX11s_k th) (TX11s_r0 th) ?_
  refine wp_getI (pc := 145) dX11_text_145 fl_X11_85 rfl (TX9s_k (TX11s_a0 th)) ?_
  refine t_I (show ((pm_up (pm_up mi16 (h + 1) 2 (mi16 (h + 183) 6)) (h + 1) 3 (mi16 (h + 183) 7)) (h + 1) 2) = (mi16 (h + 183) 6) from (pm_up_j _ _ (by decide)).trans (pm_up_s _ _ _ _)) ?_
  refine wp_if_eq (tgt := 153) (pc := 148) dX11_text_148 (by decide) (fun c18 => ?_) (fun c18 => ?_)
  · have F := F.1 c18
    refine wp_iload (pc := 153) dX11_text_153 rfl ?_
    suffices J19 : ∀ v20 : Int32, v20 = (if x5 = 0 then x2 else x4) → wp l M_X11_text (d + 1) 0 0 164 [some (.ref h), some (.int x1), some (.int x2), some (.int x3), some (.int x4), some (.int x5), none, none] [.int v20] 0 0 kd (pm_up (pm_up mi16 (h + 1) 2 (mi16 (h + 183) 6)) (h + 1) 3 (mi16 (h + 183) 7)) ml17 mr _ by
        refine wp_if_eq (tgt := 163) (pc := 155) dX11_text_155 (by decide) (fun c21 => ?_) (fun c21 => ?_)
        · refine wp_iload_n (pc := 163) dX11_text_163 rfl ?_
          exact J19 _ (by simp only [eq_true c21, if_true, if_false, decide_true, decide_false, Bool.not_true, Bool.not_false, Bool.true_and, Bool.false_and, Bool.true_or, Bool.false_or, b2i_t, b2i_f, ite_true, ite_false, not_true_eq_false, not_false_eq_true, reduceCtorEq, decide_eq_true_eq])
        · refine wp_iload (pc := 158) dX11_text_158 rfl ?_
          refine wp_goto (tgt := 164) (pc := 160) dX11_text_160 (by decide) ?_
          exact J19 _ (by simp only [c21, if_true, if_false, decide_true, decide_false, Bool.not_true, Bool.not_false, Bool.true_and, Bool.false_and, Bool.true_or, Bool.false_or, b2i_t, b2i_f, ite_true, ite_false, not_true_eq_false, not_false_eq_true, reduceCtorEq, decide_eq_true_eq])
    intro v20 ev20
    subst ev20
    refine wp_istore (pc := 164) dX11_text_164 (Nat.le_of_ble_eq_true rfl) rfl ?_
    show wp l M_X11_text (d + 1) 0 0 _ [some (.ref h), some (.int x1), some (.int x2), some (.int x3), some (.int x4), some (.int x5), none, some (.int (if x5 = 0 then x2 else x4))] _ 0 0 kd _ _ mr _
    refine wp_aload_n (pc := 166) dX11_text_166 rfl ?_
    refine wp_getR (pc := 167) dX11_text_167 fl_X11_10 rfl (TX11s_k th) (TX11s_r0 th) ?_
    refine wp_iload_n (pc := 170) dX11_text_170 rfl ?_
    refine wp_iload (pc := 171) dX11_text_171 rfl ?_
    refine wp_aload_n (pc := 173) dX11_text_173 rfl ?_
    refine wp_getR (pc := 174) dX11_text_174 fl_X11_27 rfl (TX11s_k th) (TX11s_r3 th) ?_
    refine cvV [.int x1, .int (if x5 = 0 then x2 else x4), .ref (h + 183)] [] (pc := 177) dX11_text_177 ml_X11_105 iv_X9_put (TX9s_k (TX11s_a0 th)) (cl_X9 rfl) rfl rfl (Nat.le_of_ble_eq_true rfl) (Nat.le_of_ble_eq_true rfl) (wV.mono (fun mi23 ml24 F => ?_) F)
    refine wp_iload (pc := 180) dX11_text_180 rfl ?_
    exact r_I (pc := 182) dX11_text_182 rfl F
  · have F := F.2 c18
    refine wp_iconst (v := -1) (pc := 151) dX11_text_151 (by decide) ?_
    exact r_I (pc := 152) dX11_text_152 rfl F
/-- text(II)I -/
theorem w_X11_text {l : Launch} {d : Nat} {kd : pm_K} {mr : pm_R} {h : Nat} {x1 : Int32} {x2 : Int32} {mi : pm_I} {ml : pm_L} {K : Int32 → pm_I → pm_L → Prop} (th : TX11s kd mr h)
    (F : wI l M_X9_manyOf d [.ref (h + 1), .int x1] kd mr (pm_up (pm_up (pm_up mi (h + 1) 1 0) (h + 1) 2 0) (h + 1) 3 (-1)) ml (fun r1 mi2 ml3 => ((r1 = (-2) → K (-2) mi2 ml3) ∧ (¬ r1 = (-2) → (((decide (x2 = (-1)) && (!decide (2 ≤ r1))) = true → c_X11_text_97 l (d + 1) kd mr h x1 x2 (mi (h + 1) 1) r1 (b2i (decide (x2 = (-1)) && (!decide (2 ≤ r1)))) mi2 ml3 K) ∧ ((decide (x2 = (-1)) && (!decide (2 ≤ r1))) = false → (((!decide (x2 < 0) && (!decide (r1 ≤ x2))) = true → c_X11_text_97 l (d + 1) kd mr h x1 x2 (mi (h + 1) 1) r1 (b2i (decide (x2 = (-1)) && (!decide (2 ≤ r1)))) mi2 ml3 K) ∧ ((!decide (x2 < 0) && (!decide (r1 ≤ x2))) = false → K (-2) mi2 ml3)))))))) :
    wI l M_X11_text (d + 1) [.ref h, .int x1, .int x2] kd mr mi ml K := by
  show wp l M_X11_text (d + 1) 0 0 0 [some (.ref h), some (.int x1), some (.int x2), none, none, none, none, none] [] 0 0 kd mi ml mr _
  refine wp_aload_n (pc := 0) dX11_text_0 rfl ?_
  refine wp_getR (pc := 1) dX11_text_1 fl_X11_10 rfl (TX11s_k th) (TX11s_r0 th) ?_
  refine wp_getI (pc := 4) dX11_text_4 fl_X11_77 rfl (TX9s_k (TX11s_a0 th)) ?_
  refine wp_istore_n (pc := 7) dX11_text_7 (Nat.le_of_ble_eq_true rfl) rfl ?_
  show wp l M_X11_text (d + 1) 0 0 _ [some (.ref h), some (.int x1), some (.int x2), some (.int (mi (h + 1) 1)), none, none, none, none] _ 0 0 kd _ _ mr _
  refine wp_aload_n (pc := 8) dX11_text_8 rfl ?_
  refine wp_getR (pc := 9) dX11_text_9 fl_X11_10 rfl (TX11s_k th) (TX11s_r0 th) ?_
  refine wp_iconst (v := 0) (pc := 12) dX11_text_12 (by decide) ?_
  refine wp_putI (pc := 13) dX11_text_13 fl_X11_77 rfl rfl (TX9s_k (TX11s_a0 th)) ?_
  refine wp_aload_n (pc := 16) dX11_text_16 rfl ?_
  refine wp_getR (pc := 17) dX11_text_17 fl_X11_10 rfl (TX11s_k th) (TX11s_r0 th) ?_
  refine wp_iconst (v := 0) (pc := 20) dX11_text_20 (by decide) ?_
  refine wp_putI (pc := 21) dX11_text_21 fl_X11_85 rfl rfl (TX9s_k (TX11s_a0 th)) ?_
  refine wp_aload_n (pc := 24) dX11_text_24 rfl ?_
  refine wp_getR (pc := 25) dX11_text_25 fl_X11_10 rfl (TX11s_k th) (TX11s_r0 th) ?_
  refine wp_iconst (v := -1) (pc := 28) dX11_text_28 (by decide) ?_
  refine wp_putI (pc := 29) dX11_text_29 fl_X11_88 rfl rfl (TX9s_k (TX11s_a0 th)) ?_
  refine wp_aload_n (pc := 32) dX11_text_32 rfl ?_
  refine wp_getR (pc := 33) dX11_text_33 fl_X11_10 rfl (TX11s_k th) (TX11s_r0 th) ?_
  refine wp_iload_n (pc := 36) dX11_text_36 rfl ?_
  refine cvI [.int x1] [] (pc := 37) dX11_text_37 ml_X11_91 iv_X9_manyOf (TX9s_k (TX11s_a0 th)) (cl_X9 rfl) rfl rfl (Nat.le_of_ble_eq_true rfl) (Nat.le_of_ble_eq_true rfl) (wI.mono (fun r1 mi2 ml3 F => ?_) F)
  refine wp_istore (pc := 40) dX11_text_40 (Nat.le_of_ble_eq_true rfl) rfl ?_
  show wp l M_X11_text (d + 1) 0 0 _ [some (.ref h), some (.int x1), some (.int x2), some (.int (mi (h + 1) 1)), some (.int r1), none, none, none] _ 0 0 kd _ _ mr _
  refine wp_iload_n (pc := 42) dX11_text_42 rfl ?_
  refine wp_iconst (v := -1) (pc := 43) dX11_text_43 (by decide) ?_
  suffices J4 : ∀ v5 : Int32, v5 = (b2i (decide (x2 = (-1)) && (!decide (2 ≤ r1)))) → wp l M_X11_text (d + 1) 0 0 58 [some (.ref h), some (.int x1), some (.int x2), some (.int (mi (h + 1) 1)), some (.int r1), none, none, none] [.int v5] 0 0 kd mi2 ml3 mr _ by
      refine wp_icmp_ne (tgt := 57) (pc := 44) dX11_text_44 (by decide) (fun c6 => ?_) (fun c6 => ?_)
      · refine wp_iconst (v := 0) (pc := 57) dX11_text_57 (by decide) ?_
        exact J4 _ (by simp only [c6, if_true, if_false, decide_true, decide_false, Bool.not_true, Bool.not_false, Bool.true_and, Bool.false_and, Bool.true_or, Bool.false_or, b2i_t, b2i_f, ite_true, ite_false, not_true_eq_false, not_false_eq_true, reduceCtorEq, decide_eq_true_eq])
      · refine wp_iload (pc := 47) dX11_text_47 rfl ?_
        refine wp_iconst (v := 2) (pc := 49) dX11_text_49 (by decide) ?_
        refine wp_icmp_ge (tgt := 57) (pc := 50) dX11_text_50 (by decide) (fun c7 => ?_) (fun c7 => ?_)
        · refine wp_iconst (v := 0) (pc := 57) dX11_text_57 (by decide) ?_
          exact J4 _ (by simp only [eq_true c6, eq_true c7, if_true, if_false, decide_true, decide_false, Bool.not_true, Bool.not_false, Bool.true_and, Bool.false_and, Bool.true_or, Bool.false_or, b2i_t, b2i_f, ite_true, ite_false, not_true_eq_false, not_false_eq_true, reduceCtorEq, decide_eq_true_eq])
        · refine wp_iconst (v := 1) (pc := 53) dX11_text_53 (by decide) ?_
          refine wp_goto (tgt := 58) (pc := 54) dX11_text_54 (by decide) ?_
          exact J4 _ (by simp only [eq_true c6, c7, if_true, if_false, decide_true, decide_false, Bool.not_true, Bool.not_false, Bool.true_and, Bool.false_and, Bool.true_or, Bool.false_or, b2i_t, b2i_f, ite_true, ite_false, not_true_eq_false, not_false_eq_true, reduceCtorEq, decide_eq_true_eq])
  intro v5 ev5
  subst ev5
  refine wp_istore (pc := 58) dX11_text_58 (Nat.le_of_ble_eq_true rfl) rfl ?_
  show wp l M_X11_text (d + 1) 0 0 _ [some (.ref h), some (.int x1), some (.int x2), some (.int (mi (h + 1) 1)), some (.int r1), some (.int (b2i (decide (x2 = (-1)) && (!decide (2 ≤ r1))))), none, none] _ 0 0 kd _ _ mr _
  refine wp_iload_n (pc := 60) dX11_text_60 rfl ?_
  suffices J8 : ∀ v9 : Int32, v9 = (b2i (!decide (x2 < 0) && (!decide (r1 ≤ x2)))) → wp l M_X11_text (d + 1) 0 0 75 [some (.ref h), some (.int x1), some (.int x2), some (.int (mi (h + 1) 1)), some (.int r1), some (.int (b2i (decide (x2 = (-1)) && (!decide (2 ≤ r1))))), none, none] [.int v9] 0 0 kd mi2 ml3 mr _ by
      refine wp_if_lt (tgt := 74) (pc := 61) dX11_text_61 (by decide) (fun c10 => ?_) (fun c10 => ?_)
      · refine wp_iconst (v := 0) (pc := 74) dX11_text_74 (by decide) ?_
        exact J8 _ (by simp only [eq_true c10, if_true, if_false, decide_true, decide_false, Bool.not_true, Bool.not_false, Bool.true_and, Bool.false_and, Bool.true_or, Bool.false_or, b2i_t, b2i_f, ite_true, ite_false, not_true_eq_false, not_false_eq_true, reduceCtorEq, decide_eq_true_eq])
      · refine wp_iload_n (pc := 64) dX11_text_64 rfl ?_
        refine wp_iload (pc := 65) dX11_text_65 rfl ?_
        refine wp_icmp_ge (tgt := 74) (pc := 67) dX11_text_67 (by decide) (fun c11 => ?_) (fun c11 => ?_)
        · refine wp_iconst (v := 0) (pc := 74) dX11_text_74 (by decide) ?_
          exact J8 _ (by simp only [c10, eq_true c11, if_true, if_false, decide_true, decide_false, Bool.not_true, Bool.not_false, Bool.true_and, Bool.false_and, Bool.true_or, Bool.false_or, b2i_t, b2i_f, ite_true, ite_false, not_true_eq_false, not_false_eq_true, reduceCtorEq, decide_eq_true_eq])
        · refine wp_iconst (v := 1) (pc := 70) dX11_text_70 (by decide) ?_
          refine wp_goto (tgt := 75) (pc := 71) dX11_text_71 (by decide) ?_
          exact J8 _ (by simp only [c10, c11, if_true, if_false, decide_true, decide_false, Bool.not_true, Bool.not_false, Bool.true_and, Bool.false_and, Bool.true_or, Bool.false_or, b2i_t, b2i_f, ite_true, ite_false, not_true_eq_false, not_false_eq_true, reduceCtorEq, decide_eq_true_eq])
  intro v9 ev9
  subst ev9
  refine wp_istore (pc := 75) dX11_text_75 (Nat.le_of_ble_eq_true rfl) rfl ?_
  show wp l M_X11_text (d + 1) 0 0 _ [some (.ref h), some (.int x1), some (.int x2), some (.int (mi (h + 1) 1)), some (.int r1), some (.int (b2i (decide (x2 = (-1)) && (!decide (2 ≤ r1))))), some (.int (b2i (!decide (x2 < 0) && (!decide (r1 ≤ x2))))), none] _ 0 0 kd _ _ mr _
  refine wp_iload (pc := 77) dX11_text_77 rfl ?_
  refine wp_bipush (v := -2) (pc := 79) dX11_text_79 (by decide) ?_
  refine wp_icmp_eq (tgt := 94) (pc := 81) dX11_text_81 (by decide) (fun c12 => ?_) (fun c12 => ?_)
  · have F := F.1 c12
    refine wp_bipush (v := -2) (pc := 94) dX11_text_94 (by decide) ?_
    exact r_I (pc := 96) dX11_text_96 rfl F
  · have F := F.2 c12
    refine wp_iload (pc := 84) dX11_text_84 rfl ?_
    refine b_ne (tgt := 97) (pc := 86) dX11_text_86 (by decide) (fun c13 => ?_) (fun c13 => ?_)
    · have F := F.1 c13
      exact wp_less (L' := [some (.ref h), some (.int x1), some (.int x2), some (.int (mi (h + 1) 1)), some (.int r1), some (.int (b2i (decide (x2 = (-1)) && (!decide (2 ≤ r1))))), none, none]) ⟨rfl, ⟨rfl, ⟨rfl, ⟨rfl, ⟨rfl, ⟨rfl, trivial⟩⟩⟩⟩⟩⟩ F
    · have F := F.2 c13
      refine wp_iload (pc := 89) dX11_text_89 rfl ?_
      refine b_ne (tgt := 97) (pc := 91) dX11_text_91 (by decide) (fun c14 => ?_) (fun c14 => ?_)
      · have F := F.1 c14
        exact wp_less (L' := [some (.ref h), some (.int x1), some (.int x2), some (.int (mi (h + 1) 1)), some (.int r1), some (.int (b2i (decide (x2 = (-1)) && (!decide (2 ≤ r1))))), none, none]) ⟨rfl, ⟨rfl, ⟨rfl, ⟨rfl, ⟨rfl, ⟨rfl, trivial⟩⟩⟩⟩⟩⟩ F
      · have F := F.2 c14
        refine wp_bipush (v := -2) (pc := 94) dX11_text_94 (by decide) ?_
        exact r_I (pc := 96) dX11_text_96 rfl F
/-- manyOf(I)I -/
theorem w_X9_manyOf {l : Launch} {d : Nat} {kd : pm_K} {mr : pm_R} {h : Nat} {x1 : Int32} {mi : pm_I} {ml : pm_L} {K : Int32 → pm_I → pm_L → Prop} (th : TX9s kd mr h)
    (F : ((x1 < 0 → K (-2) mi ml) ∧ (¬ x1 < 0 → ((4 ≤ x1 → K (-2) mi ml) ∧ (¬ 4 ≤ x1 → vp_in x1 4 ∧ K (mi (h + 2) (Int32.toNatClampNeg x1)) mi ml))))) :
    wI l M_X9_manyOf d [.ref h, .int x1] kd mr mi ml K := by
  show wp l M_X9_manyOf d 0 0 0 [some (.ref h), some (.int x1)] [] 0 0 kd mi ml mr _
  refine wp_iload_n (pc := 0) dX9_manyOf_0 rfl ?_
  refine wp_if_lt (tgt := 18) (pc := 1) dX9_manyOf_1 (by decide) (fun c1 => ?_) (fun c1 => ?_)
  · have F := F.1 c1
    refine wp_bipush (v := -2) (pc := 18) dX9_manyOf_18 (by decide) ?_
    exact r_I (pc := 20) dX9_manyOf_20 rfl F
  · have F := F.2 c1
    refine wp_iload_n (pc := 4) dX9_manyOf_4 rfl ?_
    refine wp_iconst (v := 4) (pc := 5) dX9_manyOf_5 (by decide) ?_
    refine wp_icmp_ge (tgt := 18) (pc := 6) dX9_manyOf_6 (by decide) (fun c2 => ?_) (fun c2 => ?_)
    · have F := F.1 c2
      refine wp_bipush (v := -2) (pc := 18) dX9_manyOf_18 (by decide) ?_
      exact r_I (pc := 20) dX9_manyOf_20 rfl F
    · have F := F.2 c2
      refine wp_aload_n (pc := 9) dX9_manyOf_9 rfl ?_
      refine wp_getR (pc := 10) dX9_manyOf_10 fl_X9_19 rfl (TX9s_k th) (TX9s_r4 th) ?_
      refine wp_iload_n (pc := 13) dX9_manyOf_13 rfl ?_
      refine wp_iald (pc := 14) dX9_manyOf_14 (TX9s_a4 th) F.1 ?_
      have F := F.2
      refine wp_goto (tgt := 20) (pc := 15) dX9_manyOf_15 (by decide) ?_
      exact r_I (pc := 20) dX9_manyOf_20 rfl F
/-- reset()V -/
theorem w_X0_reset {l : Launch} {d : Nat} {kd : pm_K} {mr : pm_R} {h : Nat}  {mi : pm_I} {ml : pm_L} {K : pm_I → pm_L → Prop} (th : TX0s kd mr h)
    (F : wV l M_J7_fill_53178 d [.ref (h + 5), .int 3] kd mr (pm_up (pm_up (pm_up (pm_up (pm_up mi h 0 6) h 1 6) h 2 4) h 4 0) h 5 0) (pm_up ml h 3 0) (fun mi2 ml3 => K mi2 ml3)) :
    wV l M_X0_reset (d + 1) [.ref h] kd mr mi ml K := by
  show wp l M_X0_reset (d + 1) 0 0 0 [some (.ref h)] [] 0 0 kd mi ml mr _
  refine wp_aload_n (pc := 0) dX0_reset_0 rfl ?_
  refine wp_bipush (v := 6) (pc := 1) dX0_reset_1 (by decide) ?_
  refine wp_putI (pc := 3) dX0_reset_3 fl_X0_27 rfl rfl (TX0s_k th) ?_
  refine wp_aload_n (pc := 6) dX0_reset_6 rfl ?_
  refine wp_bipush (v := 6) (pc := 7) dX0_reset_7 (by decide) ?_
  refine wp_putI (pc := 9) dX0_reset_9 fl_X0_31 rfl rfl (TX0s_k th) ?_
  refine wp_aload_n (pc := 12) dX0_reset_12 rfl ?_
  refine wp_iconst (v := 4) (pc := 13) dX0_reset_13 (by decide) ?_
  refine wp_putI (pc := 14) dX0_reset_14 fl_X0_34 rfl rfl (TX0s_k th) ?_
  refine wp_aload_n (pc := 17) dX0_reset_17 rfl ?_
  refine wp_lconst (v := 0) (pc := 18) dX0_reset_18 (by decide) ?_
  refine wp_putL (pc := 19) dX0_reset_19 fl_X0_37 rfl rfl (TX0s_k th) ?_
  refine wp_aload_n (pc := 22) dX0_reset_22 rfl ?_
  refine wp_iconst (v := 0) (pc := 23) dX0_reset_23 (by decide) ?_
  refine wp_putI (pc := 24) dX0_reset_24 fl_X0_41 rfl rfl (TX0s_k th) ?_
  refine wp_aload_n (pc := 27) dX0_reset_27 rfl ?_
  refine wp_iconst (v := 0) (pc := 28) dX0_reset_28 (by decide) ?_
  refine wp_putI (pc := 29) dX0_reset_29 fl_X0_44 rfl rfl (TX0s_k th) ?_
  refine wp_aload_n (pc := 32) dX0_reset_32 rfl ?_
  refine wp_getR (pc := 33) dX0_reset_33 fl_X0_24 rfl (TX0s_k th) (TX0s_r10 th) ?_
  refine wp_iconst (v := 3) (pc := 36) dX0_reset_36 (by decide) ?_
  refine csV [.ref (h + 5), .int 3] [] (pc := 37) dX0_reset_37 ml_X0_47 st_J7_fill_53178 rfl rfl (Nat.le_of_ble_eq_true rfl) (Nat.le_of_ble_eq_true rfl) (wV.mono (fun mi2 ml3 F => ?_) F)
  exact r_V (pc := 40) dX0_reset_40 rfl F
/-- reset()V -/
theorem w_X10_reset {l : Launch} {d : Nat} {kd : pm_K} {mr : pm_R} {h : Nat}  {mi : pm_I} {ml : pm_L} {K : pm_I → pm_L → Prop} (th : TX10s kd mr h)
    (F : K (pm_up (pm_up (pm_up mi h 0 4) h 1 (-1)) (h + 1) 3 0) ml) :
    wV l M_X10_reset d [.ref h] kd mr mi ml K := by
  show wp l M_X10_reset d 0 0 0 [some (.ref h)] [] 0 0 kd mi ml mr _
  refine wp_aload_n (pc := 0) dX10_reset_0 rfl ?_
  refine wp_iconst (v := 4) (pc := 1) dX10_reset_1 (by decide) ?_
  refine wp_putI (pc := 2) dX10_reset_2 fl_X10_18 rfl rfl (TX10s_k th) ?_
  refine wp_aload_n (pc := 5) dX10_reset_5 rfl ?_
  refine wp_iconst (v := -1) (pc := 6) dX10_reset_6 (by decide) ?_
  refine wp_putI (pc := 7) dX10_reset_7 fl_X10_22 rfl rfl (TX10s_k th) ?_
  refine wp_aload_n (pc := 10) dX10_reset_10 rfl ?_
  refine wp_getR (pc := 11) dX10_reset_11 fl_X10_12 rfl (TX10s_k th) (TX10s_r2 th) ?_
  refine wp_iconst (v := 0) (pc := 14) dX10_reset_14 (by decide) ?_
  refine wp_putI (pc := 15) dX10_reset_15 fl_X10_25 rfl rfl (TX6s_k (TX10s_a2 th)) ?_
  exact r_V (pc := 18) dX10_reset_18 rfl F
/-- spotAt(II)I -/
theorem w_X11_spotAt {l : Launch} {d : Nat} {kd : pm_K} {mr : pm_R}  {x0 : Int32} {x1 : Int32} {mi : pm_I} {ml : pm_L} {K : Int32 → pm_I → pm_L → Prop} 
    (F : K ((8 * x1) + x0) mi ml) :
    wI l M_X11_spotAt d [.int x0, .int x1] kd mr mi ml K := by
  show wp l M_X11_spotAt d 0 0 0 [some (.int x0), some (.int x1)] [] 0 0 kd mi ml mr _
  refine wp_bipush (v := 8) (pc := 0) dX11_spotAt_0 (by decide) ?_
  refine wp_iload_n (pc := 2) dX11_spotAt_2 rfl ?_
  refine wp_imul (pc := 3) dX11_spotAt_3 ?_
  refine wp_iload_n (pc := 4) dX11_spotAt_4 rfl ?_
  refine wp_iadd (pc := 5) dX11_spotAt_5 ?_
  exact r_I (pc := 6) dX11_spotAt_6 rfl F
/-- addPlayer(II)V -/
theorem w_X0_addPlayer {l : Launch} {d : Nat} {kd : pm_K} {mr : pm_R} {h : Nat} {x1 : Int32} {x2 : Int32} {mi : pm_I} {ml : pm_L} {K : pm_I → pm_L → Prop} (th : TX0s kd mr h)
    (F : ((6 ≤ (mi h 4) → K mi ml) ∧ (¬ 6 ≤ (mi h 4) → vp_in (mi h 4) 6 ∧ vp_in (mi h 4) 6 ∧ K (pm_up (pm_up (pm_up mi (h + 1) (Int32.toNatClampNeg (mi h 4)) x1) (h + 2) (Int32.toNatClampNeg (mi h 4)) x2) h 4 ((mi h 4) + 1)) ml))) :
    wV l M_X0_addPlayer d [.ref h, .int x1, .int x2] kd mr mi ml K := by
  show wp l M_X0_addPlayer d 0 0 0 [some (.ref h), some (.int x1), some (.int x2)] [] 0 0 kd mi ml mr _
  refine wp_aload_n (pc := 0) dX0_addPlayer_0 rfl ?_
  refine wp_getI (pc := 1) dX0_addPlayer_1 fl_X0_41 rfl (TX0s_k th) ?_
  refine wp_bipush (v := 6) (pc := 4) dX0_addPlayer_4 (by decide) ?_
  refine wp_icmp_ge (tgt := 39) (pc := 6) dX0_addPlayer_6 (by decide) (fun c1 => ?_) (fun c1 => ?_)
  · have F := F.1 c1
    exact r_V (pc := 39) dX0_addPlayer_39 rfl F
  · have F := F.2 c1
    refine wp_aload_n (pc := 9) dX0_addPlayer_9 rfl ?_
    refine wp_getR (pc := 10) dX0_addPlayer_10 fl_X0_9 rfl (TX0s_k th) (TX0s_r6 th) ?_
    refine wp_aload_n (pc := 13) dX0_addPlayer_13 rfl ?_
    refine wp_getI (pc := 14) dX0_addPlayer_14 fl_X0_41 rfl (TX0s_k th) ?_
    refine wp_iload_n (pc := 17) dX0_addPlayer_17 rfl ?_
    refine wp_iast (pc := 18) dX0_addPlayer_18 (TX0s_a6 th) F.1 ?_
    have F := F.2
    refine wp_aload_n (pc := 19) dX0_addPlayer_19 rfl ?_
    refine wp_getR (pc := 20) dX0_addPlayer_20 fl_X0_15 rfl (TX0s_k th) (TX0s_r7 th) ?_
    refine wp_aload_n (pc := 23) dX0_addPlayer_23 rfl ?_
    refine wp_getI (pc := 24) dX0_addPlayer_24 fl_X0_41 rfl (TX0s_k th) ?_
    refine t_I (show ((pm_up mi (h + 1) (Int32.toNatClampNeg (mi h 4)) x1) h 4) = (mi h 4) from pm_up_k _ _ (by omega)) ?_
    refine wp_iload_n (pc := 27) dX0_addPlayer_27 rfl ?_
    refine wp_iast (pc := 28) dX0_addPlayer_28 (TX0s_a7 th) F.1 ?_
    have F := F.2
    refine wp_aload_n (pc := 29) dX0_addPlayer_29 rfl ?_
    refine wp_dup (pc := 30) dX0_addPlayer_30 rfl ?_
    refine wp_getI (pc := 31) dX0_addPlayer_31 fl_X0_41 rfl (TX0s_k th) ?_
    refine t_I (show ((pm_up (pm_up mi (h + 1) (Int32.toNatClampNeg (mi h 4)) x1) (h + 2) (Int32.toNatClampNeg (mi h 4)) x2) h 4) = (mi h 4) from (pm_up_k _ _ (by omega)).trans (pm_up_k _ _ (by omega))) ?_
    refine wp_iconst (v := 1) (pc := 34) dX0_addPlayer_34 (by decide) ?_
    refine wp_iadd (pc := 35) dX0_addPlayer_35 ?_
    refine wp_putI (pc := 36) dX0_addPlayer_36 fl_X0_41 rfl rfl (TX0s_k th) ?_
    exact r_V (pc := 39) dX0_addPlayer_39 rfl F
/-- addPerson(II)V -/
theorem w_X0_addPerson {l : Launch} {d : Nat} {kd : pm_K} {mr : pm_R} {h : Nat} {x1 : Int32} {x2 : Int32} {mi : pm_I} {ml : pm_L} {K : pm_I → pm_L → Prop} (th : TX0s kd mr h)
    (F : ((6 ≤ (mi h 5) → K mi ml) ∧ (¬ 6 ≤ (mi h 5) → vp_in (mi h 5) 6 ∧ vp_in (mi h 5) 6 ∧ K (pm_up (pm_up (pm_up mi (h + 3) (Int32.toNatClampNeg (mi h 5)) x1) (h + 4) (Int32.toNatClampNeg (mi h 5)) x2) h 5 ((mi h 5) + 1)) ml))) :
    wV l M_X0_addPerson d [.ref h, .int x1, .int x2] kd mr mi ml K := by
  show wp l M_X0_addPerson d 0 0 0 [some (.ref h), some (.int x1), some (.int x2)] [] 0 0 kd mi ml mr _
  refine wp_aload_n (pc := 0) dX0_addPerson_0 rfl ?_
  refine wp_getI (pc := 1) dX0_addPerson_1 fl_X0_44 rfl (TX0s_k th) ?_
  refine wp_bipush (v := 6) (pc := 4) dX0_addPerson_4 (by decide) ?_
  refine wp_icmp_ge (tgt := 39) (pc := 6) dX0_addPerson_6 (by decide) (fun c1 => ?_) (fun c1 => ?_)
  · have F := F.1 c1
    exact r_V (pc := 39) dX0_addPerson_39 rfl F
  · have F := F.2 c1
    refine wp_aload_n (pc := 9) dX0_addPerson_9 rfl ?_
    refine wp_getR (pc := 10) dX0_addPerson_10 fl_X0_18 rfl (TX0s_k th) (TX0s_r8 th) ?_
    refine wp_aload_n (pc := 13) dX0_addPerson_13 rfl ?_
    refine wp_getI (pc := 14) dX0_addPerson_14 fl_X0_44 rfl (TX0s_k th) ?_
    refine wp_iload_n (pc := 17) dX0_addPerson_17 rfl ?_
    refine wp_iast (pc := 18) dX0_addPerson_18 (TX0s_a8 th) F.1 ?_
    have F := F.2
    refine wp_aload_n (pc := 19) dX0_addPerson_19 rfl ?_
    refine wp_getR (pc := 20) dX0_addPerson_20 fl_X0_21 rfl (TX0s_k th) (TX0s_r9 th) ?_
    refine wp_aload_n (pc := 23) dX0_addPerson_23 rfl ?_
    refine wp_getI (pc := 24) dX0_addPerson_24 fl_X0_44 rfl (TX0s_k th) ?_
    refine t_I (show ((pm_up mi (h + 3) (Int32.toNatClampNeg (mi h 5)) x1) h 5) = (mi h 5) from pm_up_k _ _ (by omega)) ?_
    refine wp_iload_n (pc := 27) dX0_addPerson_27 rfl ?_
    refine wp_iast (pc := 28) dX0_addPerson_28 (TX0s_a9 th) F.1 ?_
    have F := F.2
    refine wp_aload_n (pc := 29) dX0_addPerson_29 rfl ?_
    refine wp_dup (pc := 30) dX0_addPerson_30 rfl ?_
    refine wp_getI (pc := 31) dX0_addPerson_31 fl_X0_44 rfl (TX0s_k th) ?_
    refine t_I (show ((pm_up (pm_up mi (h + 3) (Int32.toNatClampNeg (mi h 5)) x1) (h + 4) (Int32.toNatClampNeg (mi h 5)) x2) h 5) = (mi h 5) from (pm_up_k _ _ (by omega)).trans (pm_up_k _ _ (by omega))) ?_
    refine wp_iconst (v := 1) (pc := 34) dX0_addPerson_34 (by decide) ?_
    refine wp_iadd (pc := 35) dX0_addPerson_35 ?_
    refine wp_putI (pc := 36) dX0_addPerson_36 fl_X0_44 rfl rfl (TX0s_k th) ?_
    exact r_V (pc := 39) dX0_addPerson_39 rfl F
/-- only(I)J -/
theorem w_X11_only {l : Launch} {d : Nat} {kd : pm_K} {mr : pm_R}  {x0 : Int32} {mi : pm_I} {ml : pm_L} {K : Int64 → pm_I → pm_L → Prop} 
    (F : K ((1 : Int64) <<< ((Int32.toInt64 x0) &&& 63)) mi ml) :
    wL l M_X11_only d [.int x0] kd mr mi ml K := by
  show wp l M_X11_only d 0 0 0 [some (.int x0)] [] 0 0 kd mi ml mr _
  refine wp_lconst (v := 1) (pc := 0) dX11_only_0 (by decide) ?_
  refine wp_iload_n (pc := 1) dX11_only_1 rfl ?_
  refine wp_lshl (pc := 2) dX11_only_2 ?_
  exact r_L (pc := 3) dX11_only_3 rfl F
/-- add(III)V -/
theorem w_X6_add {l : Launch} {d : Nat} {kd : pm_K} {mr : pm_R} {h : Nat} {x1 : Int32} {x2 : Int32} {x3 : Int32} {mi : pm_I} {ml : pm_L} {K : pm_I → pm_L → Prop} (th : TX6s kd mr h)
    (F : ((40 ≤ (mi h 3) → K mi ml) ∧ (¬ 40 ≤ (mi h 3) → vp_in (mi h 3) 40 ∧ vp_in (mi h 3) 40 ∧ vp_in (mi h 3) 40 ∧ K (pm_up (pm_up (pm_up (pm_up mi (h + 1) (Int32.toNatClampNeg (mi h 3)) x1) (h + 2) (Int32.toNatClampNeg (mi h 3)) x2) (h + 3) (Int32.toNatClampNeg (mi h 3)) x3) h 3 ((mi h 3) + 1)) ml))) :
    wV l M_X6_add d [.ref h, .int x1, .int x2, .int x3] kd mr mi ml K := by
  show wp l M_X6_add d 0 0 0 [some (.ref h), some (.int x1), some (.int x2), some (.int x3)] [] 0 0 kd mi ml mr _
  refine wp_aload_n (pc := 0) dX6_add_0 rfl ?_
  refine wp_getI (pc := 1) dX6_add_1 fl_X6_21 rfl (TX6s_k th) ?_
  refine wp_bipush (v := 40) (pc := 4) dX6_add_4 (by decide) ?_
  refine wp_icmp_ge (tgt := 49) (pc := 6) dX6_add_6 (by decide) (fun c1 => ?_) (fun c1 => ?_)
  · have F := F.1 c1
    exact r_V (pc := 49) dX6_add_49 rfl F
  · have F := F.2 c1
    refine wp_aload_n (pc := 9) dX6_add_9 rfl ?_
    refine wp_getR (pc := 10) dX6_add_10 fl_X6_9 rfl (TX6s_k th) (TX6s_r0 th) ?_
    refine wp_aload_n (pc := 13) dX6_add_13 rfl ?_
    refine wp_getI (pc := 14) dX6_add_14 fl_X6_21 rfl (TX6s_k th) ?_
    refine wp_iload_n (pc := 17) dX6_add_17 rfl ?_
    refine wp_iast (pc := 18) dX6_add_18 (TX6s_a0 th) F.1 ?_
    have F := F.2
    refine wp_aload_n (pc := 19) dX6_add_19 rfl ?_
    refine wp_getR (pc := 20) dX6_add_20 fl_X6_15 rfl (TX6s_k th) (TX6s_r1 th) ?_
    refine wp_aload_n (pc := 23) dX6_add_23 rfl ?_
    refine wp_getI (pc := 24) dX6_add_24 fl_X6_21 rfl (TX6s_k th) ?_
    refine t_I (show ((pm_up mi (h + 1) (Int32.toNatClampNeg (mi h 3)) x1) h 3) = (mi h 3) from pm_up_k _ _ (by omega)) ?_
    refine wp_iload_n (pc := 27) dX6_add_27 rfl ?_
    refine wp_iast (pc := 28) dX6_add_28 (TX6s_a1 th) F.1 ?_
    have F := F.2
    refine wp_aload_n (pc := 29) dX6_add_29 rfl ?_
    refine wp_getR (pc := 30) dX6_add_30 fl_X6_18 rfl (TX6s_k th) (TX6s_r2 th) ?_
    refine wp_aload_n (pc := 33) dX6_add_33 rfl ?_
    refine wp_getI (pc := 34) dX6_add_34 fl_X6_21 rfl (TX6s_k th) ?_
    refine t_I (show ((pm_up (pm_up mi (h + 1) (Int32.toNatClampNeg (mi h 3)) x1) (h + 2) (Int32.toNatClampNeg (mi h 3)) x2) h 3) = (mi h 3) from (pm_up_k _ _ (by omega)).trans (pm_up_k _ _ (by omega))) ?_
    refine wp_iload_n (pc := 37) dX6_add_37 rfl ?_
    refine wp_iast (pc := 38) dX6_add_38 (TX6s_a2 th) F.1 ?_
    have F := F.2
    refine wp_aload_n (pc := 39) dX6_add_39 rfl ?_
    refine wp_dup (pc := 40) dX6_add_40 rfl ?_
    refine wp_getI (pc := 41) dX6_add_41 fl_X6_21 rfl (TX6s_k th) ?_
    refine t_I (show ((pm_up (pm_up (pm_up mi (h + 1) (Int32.toNatClampNeg (mi h 3)) x1) (h + 2) (Int32.toNatClampNeg (mi h 3)) x2) (h + 3) (Int32.toNatClampNeg (mi h 3)) x3) h 3) = (mi h 3) from (pm_up_k _ _ (by omega)).trans ((pm_up_k _ _ (by omega)).trans (pm_up_k _ _ (by omega)))) ?_
    refine wp_iconst (v := 1) (pc := 44) dX6_add_44 (by decide) ?_
    refine wp_iadd (pc := 45) dX6_add_45 ?_
    refine wp_putI (pc := 46) dX6_add_46 fl_X6_21 rfl rfl (TX6s_k th) ?_
    exact r_V (pc := 49) dX6_add_49 rfl F
def c_X0_inhabited_32 (l : Launch) (d : Nat) (kd : pm_K) (mr : pm_R) (h : Nat) (x1 : Int64) (x3 : Int32) (mi : pm_I) (ml : pm_L) (K : Int64 → pm_I → pm_L → Prop) : Prop := wp l M_X0_inhabited d 0 0 32 [some (.ref h), some (.long x1), none, some (.int x3)] [] 0 0 kd mi ml mr (qL kd mr K)
def c_X0_inhabited_4 (l : Launch) (d : Nat) (kd : pm_K) (mr : pm_R) (h : Nat) (x1 : Int64) (x3 : Int32) (mi : pm_I) (ml : pm_L) (K : Int64 → pm_I → pm_L → Prop) : Prop := wp l M_X0_inhabited d 0 0 4 [some (.ref h), some (.long x1), none, some (.int x3)] [] 0 0 kd mi ml mr (qL kd mr K)
theorem w_X0_inhabited_4 {l : Launch} {d : Nat} {kd : pm_K} {mr : pm_R} {h : Nat} {x1 : Int64} {x3 : Int32} {mi : pm_I} {ml : pm_L} {K : Int64 → pm_I → pm_L → Prop} (th : TX0s kd mr h)
    (F : (((mi h 4) ≤ x3 → c_X0_inhabited_32 l (d + 1) kd mr h x1 0 mi ml K) ∧ (¬ (mi h 4) ≤ x3 → vp_in x3 6 ∧ wL l M_X11_only d [.int (mi (h + 2) (Int32.toNatClampNeg x3))] kd mr mi ml (fun r2 mi3 ml4 => c_X0_inhabited_4 l (d + 1) kd mr h (x1 ||| r2) (x3 + 1) mi3 ml4 K)))) :
    c_X0_inhabited_4 l (d + 1) kd mr h x1 x3 mi ml K := by
  show wp l M_X0_inhabited (d + 1) 0 0 4 [some (.ref h), some (.long x1), none, some (.int x3)] [] 0 0 kd mi ml mr _
  refine wp_iload_n (pc := 4) dX0_inhabited_4 rfl ?_
  refine wp_aload_n (pc := 5) dX0_inhabited_5 rfl ?_
  refine wp_getI (pc := 6) dX0_inhabited_6 fl_X0_41 rfl (TX0s_k th) ?_
  refine wp_icmp_ge (tgt := 30) (pc := 9) dX0_inhabited_9 (by decide) (fun c1 => ?_) (fun c1 => ?_)
  · have F := F.1 c1
    refine wp_iconst (v := 0) (pc := 30) dX0_inhabited_30 (by decide) ?_
    refine wp_istore_n (pc := 31) dX0_inhabited_31 (Nat.le_of_ble_eq_true rfl) rfl ?_
    show wp l M_X0_inhabited (d + 1) 0 0 _ [some (.ref h), some (.long x1), none, some (.int 0)] _ 0 0 kd _ _ mr _
    exact wp_less (L' := [some (.ref h), some (.long x1), none, some (.int 0)]) ⟨rfl, ⟨rfl, ⟨rfl, trivial⟩⟩⟩ F
  · have F := F.2 c1
    refine wp_lload_n (pc := 12) dX0_inhabited_12 rfl ?_
    refine wp_aload_n (pc := 13) dX0_inhabited_13 rfl ?_
    refine wp_getR (pc := 14) dX0_inhabited_14 fl_X0_15 rfl (TX0s_k th) (TX0s_r7 th) ?_
    refine wp_iload_n (pc := 17) dX0_inhabited_17 rfl ?_
    refine wp_iald (pc := 18) dX0_inhabited_18 (TX0s_a7 th) F.1 ?_
    have F := F.2
    refine csL [.int (mi (h + 2) (Int32.toNatClampNeg x3))] [.long x1] (pc := 19) dX0_inhabited_19 ml_X0_62 st_X11_only rfl rfl (Nat.le_of_ble_eq_true rfl) (Nat.le_of_ble_eq_true rfl) (wL.mono (fun r2 mi3 ml4 F => ?_) F)
    refine wp_lor (pc := 22) dX0_inhabited_22 ?_
    refine wp_lstore_n (pc := 23) dX0_inhabited_23 (Nat.le_of_ble_eq_true rfl) rfl ?_
    show wp l M_X0_inhabited (d + 1) 0 0 _ [some (.ref h), some (.long (x1 ||| r2)), none, some (.int x3)] _ 0 0 kd _ _ mr _
    refine wp_iinc (v := (x3 + 1)) (pc := 24) dX0_inhabited_24 rfl rfl rfl ?_
    show wp l M_X0_inhabited (d + 1) 0 0 _ [some (.ref h), some (.long (x1 ||| r2)), none, some (.int (x3 + 1))] _ 0 0 kd _ _ mr _
    refine wp_goto (tgt := 4) (pc := 27) dX0_inhabited_27 (by decide) ?_
    exact wp_less (L' := [some (.ref h), some (.long (x1 ||| r2)), none, some (.int (x3 + 1))]) ⟨rfl, ⟨rfl, ⟨rfl, trivial⟩⟩⟩ F
theorem w_X0_inhabited_32 {l : Launch} {d : Nat} {kd : pm_K} {mr : pm_R} {h : Nat} {x1 : Int64} {x3 : Int32} {mi : pm_I} {ml : pm_L} {K : Int64 → pm_I → pm_L → Prop} (th : TX0s kd mr h)
    (F : (((mi h 5) ≤ x3 → K x1 mi ml) ∧ (¬ (mi h 5) ≤ x3 → vp_in x3 6 ∧ wL l M_X11_only d [.int (mi (h + 4) (Int32.toNatClampNeg x3))] kd mr mi ml (fun r6 mi7 ml8 => c_X0_inhabited_32 l (d + 1) kd mr h (x1 ||| r6) (x3 + 1) mi7 ml8 K)))) :
    c_X0_inhabited_32 l (d + 1) kd mr h x1 x3 mi ml K := by
  show wp l M_X0_inhabited (d + 1) 0 0 32 [some (.ref h), some (.long x1), none, some (.int x3)] [] 0 0 kd mi ml mr _
  refine wp_iload_n (pc := 32) dX0_inhabited_32 rfl ?_
  refine wp_aload_n (pc := 33) dX0_inhabited_33 rfl ?_
  refine wp_getI (pc := 34) dX0_inhabited_34 fl_X0_44 rfl (TX0s_k th) ?_
  refine wp_icmp_ge (tgt := 58) (pc := 37) dX0_inhabited_37 (by decide) (fun c5 => ?_) (fun c5 => ?_)
  · have F := F.1 c5
    refine wp_lload_n (pc := 58) dX0_inhabited_58 rfl ?_
    exact r_L (pc := 59) dX0_inhabited_59 rfl F
  · have F := F.2 c5
    refine wp_lload_n (pc := 40) dX0_inhabited_40 rfl ?_
    refine wp_aload_n (pc := 41) dX0_inhabited_41 rfl ?_
    refine wp_getR (pc := 42) dX0_inhabited_42 fl_X0_21 rfl (TX0s_k th) (TX0s_r9 th) ?_
    refine wp_iload_n (pc := 45) dX0_inhabited_45 rfl ?_
    refine wp_iald (pc := 46) dX0_inhabited_46 (TX0s_a9 th) F.1 ?_
    have F := F.2
    refine csL [.int (mi (h + 4) (Int32.toNatClampNeg x3))] [.long x1] (pc := 47) dX0_inhabited_47 ml_X0_62 st_X11_only rfl rfl (Nat.le_of_ble_eq_true rfl) (Nat.le_of_ble_eq_true rfl) (wL.mono (fun r6 mi7 ml8 F => ?_) F)
    refine wp_lor (pc := 50) dX0_inhabited_50 ?_
    refine wp_lstore_n (pc := 51) dX0_inhabited_51 (Nat.le_of_ble_eq_true rfl) rfl ?_
    show wp l M_X0_inhabited (d + 1) 0 0 _ [some (.ref h), some (.long (x1 ||| r6)), none, some (.int x3)] _ 0 0 kd _ _ mr _
    refine wp_iinc (v := (x3 + 1)) (pc := 52) dX0_inhabited_52 rfl rfl rfl ?_
    show wp l M_X0_inhabited (d + 1) 0 0 _ [some (.ref h), some (.long (x1 ||| r6)), none, some (.int (x3 + 1))] _ 0 0 kd _ _ mr _
    refine wp_goto (tgt := 32) (pc := 55) dX0_inhabited_55 (by decide) ?_
    exact wp_less (L' := [some (.ref h), some (.long (x1 ||| r6)), none, some (.int (x3 + 1))]) ⟨rfl, ⟨rfl, ⟨rfl, trivial⟩⟩⟩ F
/-- inhabited()J -/
theorem w_X0_inhabited {l : Launch} {d : Nat} {kd : pm_K} {mr : pm_R} {h : Nat}  {mi : pm_I} {ml : pm_L} {K : Int64 → pm_I → pm_L → Prop} (th : TX0s kd mr h)
    (F : c_X0_inhabited_4 l (d + 1) kd mr h 0 0 mi ml K) :
    wL l M_X0_inhabited (d + 1) [.ref h] kd mr mi ml K := by
  show wp l M_X0_inhabited (d + 1) 0 0 0 [some (.ref h), none, none, none] [] 0 0 kd mi ml mr _
  refine wp_lconst (v := 0) (pc := 0) dX0_inhabited_0 (by decide) ?_
  refine wp_lstore_n (pc := 1) dX0_inhabited_1 (Nat.le_of_ble_eq_true rfl) rfl ?_
  show wp l M_X0_inhabited (d + 1) 0 0 _ [some (.ref h), some (.long 0), none, none] _ 0 0 kd _ _ mr _
  refine wp_iconst (v := 0) (pc := 2) dX0_inhabited_2 (by decide) ?_
  refine wp_istore_n (pc := 3) dX0_inhabited_3 (Nat.le_of_ble_eq_true rfl) rfl ?_
  show wp l M_X0_inhabited (d + 1) 0 0 _ [some (.ref h), some (.long 0), none, some (.int 0)] _ 0 0 kd _ _ mr _
  exact wp_less (L' := [some (.ref h), some (.long 0), none, some (.int 0)]) ⟨rfl, ⟨rfl, ⟨rfl, trivial⟩⟩⟩ F
def c_X0_inside_15 (l : Launch) (d : Nat) (kd : pm_K) (mr : pm_R) (h : Nat) (x1 : Int64) (x3 : Int64) (x5 : Int32) (mi : pm_I) (ml : pm_L) (K : Int64 → pm_I → pm_L → Prop) : Prop := wp l M_X0_inside d 0 0 15 [some (.ref h), some (.long x1), none, some (.long x3), none, some (.int x5)] [] 0 0 kd mi ml mr (qL kd mr K)
theorem w_X0_inside_15 {l : Launch} {d : Nat} {kd : pm_K} {mr : pm_R} {h : Nat} {x1 : Int64} {x3 : Int64} {x5 : Int32} {mi : pm_I} {ml : pm_L} {K : Int64 → pm_I → pm_L → Prop} (th : TX0s kd mr h)
    (F : (((mi h 1) ≤ x5 → K x3 mi ml) ∧ (¬ (mi h 1) ≤ x5 → c_X0_inside_15 l (d + 1) kd mr h x1 (x3 ||| (x1 <<< ((Int32.toInt64 (8 * x5)) &&& 63))) (x5 + 1) mi ml K))) :
    c_X0_inside_15 l (d + 1) kd mr h x1 x3 x5 mi ml K := by
  show wp l M_X0_inside (d + 1) 0 0 15 [some (.ref h), some (.long x1), none, some (.long x3), none, some (.int x5)] [] 0 0 kd mi ml mr _
  refine wp_iload (pc := 15) dX0_inside_15 rfl ?_
  refine wp_aload_n (pc := 17) dX0_inside_17 rfl ?_
  refine wp_getI (pc := 18) dX0_inside_18 fl_X0_31 rfl (TX0s_k th) ?_
  refine wp_icmp_ge (tgt := 40) (pc := 21) dX0_inside_21 (by decide) (fun c4 => ?_) (fun c4 => ?_)
  · have F := F.1 c4
    refine wp_lload_n (pc := 40) dX0_inside_40 rfl ?_
    exact r_L (pc := 41) dX0_inside_41 rfl F
  · have F := F.2 c4
    refine wp_lload_n (pc := 24) dX0_inside_24 rfl ?_
    refine wp_lload_n (pc := 25) dX0_inside_25 rfl ?_
    refine wp_bipush (v := 8) (pc := 26) dX0_inside_26 (by decide) ?_
    refine wp_iload (pc := 28) dX0_inside_28 rfl ?_
    refine wp_imul (pc := 30) dX0_inside_30 ?_
    refine wp_lshl (pc := 31) dX0_inside_31 ?_
    refine wp_lor (pc := 32) dX0_inside_32 ?_
    refine wp_lstore_n (pc := 33) dX0_inside_33 (Nat.le_of_ble_eq_true rfl) rfl ?_
    show wp l M_X0_inside (d + 1) 0 0 _ [some (.ref h), some (.long x1), none, some (.long (x3 ||| (x1 <<< ((Int32.toInt64 (8 * x5)) &&& 63)))), none, some (.int x5)] _ 0 0 kd _ _ mr _
    refine wp_iinc (v := (x5 + 1)) (pc := 34) dX0_inside_34 rfl rfl rfl ?_
    show wp l M_X0_inside (d + 1) 0 0 _ [some (.ref h), some (.long x1), none, some (.long (x3 ||| (x1 <<< ((Int32.toInt64 (8 * x5)) &&& 63)))), none, some (.int (x5 + 1))] _ 0 0 kd _ _ mr _
    refine wp_goto (tgt := 15) (pc := 37) dX0_inside_37 (by decide) ?_
    exact wp_less (L' := [some (.ref h), some (.long x1), none, some (.long (x3 ||| (x1 <<< ((Int32.toInt64 (8 * x5)) &&& 63)))), none, some (.int (x5 + 1))]) ⟨rfl, ⟨rfl, ⟨rfl, ⟨rfl, trivial⟩⟩⟩⟩ F
/-- inside()J -/
theorem w_X0_inside {l : Launch} {d : Nat} {kd : pm_K} {mr : pm_R} {h : Nat}  {mi : pm_I} {ml : pm_L} {K : Int64 → pm_I → pm_L → Prop} (th : TX0s kd mr h)
    (F : wL l M_X11_only d [.int (mi h 0)] kd mr mi ml (fun r1 mi2 ml3 => c_X0_inside_15 l (d + 1) kd mr h (r1 - 1) 0 0 mi2 ml3 K)) :
    wL l M_X0_inside (d + 1) [.ref h] kd mr mi ml K := by
  show wp l M_X0_inside (d + 1) 0 0 0 [some (.ref h), none, none, none, none, none] [] 0 0 kd mi ml mr _
  refine wp_aload_n (pc := 0) dX0_inside_0 rfl ?_
  refine wp_getI (pc := 1) dX0_inside_1 fl_X0_27 rfl (TX0s_k th) ?_
  refine csL [.int (mi h 0)] [] (pc := 4) dX0_inside_4 ml_X0_62 st_X11_only rfl rfl (Nat.le_of_ble_eq_true rfl) (Nat.le_of_ble_eq_true rfl) (wL.mono (fun r1 mi2 ml3 F => ?_) F)
  refine wp_lconst (v := 1) (pc := 7) dX0_inside_7 (by decide) ?_
  refine wp_lsub (pc := 8) dX0_inside_8 ?_
  refine wp_lstore_n (pc := 9) dX0_inside_9 (Nat.le_of_ble_eq_true rfl) rfl ?_
  show wp l M_X0_inside (d + 1) 0 0 _ [some (.ref h), some (.long (r1 - 1)), none, none, none, none] _ 0 0 kd _ _ mr _
  refine wp_lconst (v := 0) (pc := 10) dX0_inside_10 (by decide) ?_
  refine wp_lstore_n (pc := 11) dX0_inside_11 (Nat.le_of_ble_eq_true rfl) rfl ?_
  show wp l M_X0_inside (d + 1) 0 0 _ [some (.ref h), some (.long (r1 - 1)), none, some (.long 0), none, none] _ 0 0 kd _ _ mr _
  refine wp_iconst (v := 0) (pc := 12) dX0_inside_12 (by decide) ?_
  refine wp_istore (pc := 13) dX0_inside_13 (Nat.le_of_ble_eq_true rfl) rfl ?_
  show wp l M_X0_inside (d + 1) 0 0 _ [some (.ref h), some (.long (r1 - 1)), none, some (.long 0), none, some (.int 0)] _ 0 0 kd _ _ mr _
  exact wp_less (L' := [some (.ref h), some (.long (r1 - 1)), none, some (.long 0), none, some (.int 0)]) ⟨rfl, ⟨rfl, ⟨rfl, ⟨rfl, trivial⟩⟩⟩⟩ F
def c_X10_namesOneWhoIsNotThere_2 (l : Launch) (d : Nat) (kd : pm_K) (mr : pm_R) (h : Nat) (x1 : Int32) (mi : pm_I) (ml : pm_L) (K : Bool → pm_I → pm_L → Prop) : Prop := wp l M_X10_namesOneWhoIsNotThere d 0 0 2 [some (.ref h), some (.int x1)] [] 0 0 kd mi ml mr (qB kd mr K)
theorem w_X10_namesOneWhoIsNotThere_2 {l : Launch} {d : Nat} {kd : pm_K} {mr : pm_R} {h : Nat} {x1 : Int32} {mi : pm_I} {ml : pm_L} {K : Bool → pm_I → pm_L → Prop} (th : TX10s kd mr h)
    (F : (((mi (h + 1) 3) ≤ x1 → K false mi ml) ∧ (¬ (mi (h + 1) 3) ≤ x1 → vp_in x1 40 ∧ (((mi h 0) ≤ (mi ((h + 1) + 2) (Int32.toNatClampNeg x1)) → K true mi ml) ∧ (¬ (mi h 0) ≤ (mi ((h + 1) + 2) (Int32.toNatClampNeg x1)) → vp_in x1 40 ∧ (((mi ((h + 1) + 3) (Int32.toNatClampNeg x1)) < (mi h 0) → c_X10_namesOneWhoIsNotThere_2 l d kd mr h (x1 + 1) mi ml K) ∧ (¬ (mi ((h + 1) + 3) (Int32.toNatClampNeg x1)) < (mi h 0) → K true mi ml))))))) :
    c_X10_namesOneWhoIsNotThere_2 l d kd mr h x1 mi ml K := by
  show wp l M_X10_namesOneWhoIsNotThere d 0 0 2 [some (.ref h), some (.int x1)] [] 0 0 kd mi ml mr _
  refine wp_iload_n (pc := 2) dX10_namesOneWhoIsNotThere_2 rfl ?_
  refine wp_aload_n (pc := 3) dX10_namesOneWhoIsNotThere_3 rfl ?_
  refine wp_getR (pc := 4) dX10_namesOneWhoIsNotThere_4 fl_X10_12 rfl (TX10s_k th) (TX10s_r2 th) ?_
  refine wp_getI (pc := 7) dX10_namesOneWhoIsNotThere_7 fl_X10_25 rfl (TX6s_k (TX10s_a2 th)) ?_
  refine wp_icmp_ge (tgt := 53) (pc := 10) dX10_namesOneWhoIsNotThere_10 (by decide) (fun c1 => ?_) (fun c1 => ?_)
  · have F := F.1 c1
    refine wp_iconst (v := 0) (pc := 53) dX10_namesOneWhoIsNotThere_53 (by decide) ?_
    exact r_Bx (pc := 54) dX10_namesOneWhoIsNotThere_54 rfl rfl F
  · have F := F.2 c1
    refine wp_aload_n (pc := 13) dX10_namesOneWhoIsNotThere_13 rfl ?_
    refine wp_getR (pc := 14) dX10_namesOneWhoIsNotThere_14 fl_X10_12 rfl (TX10s_k th) (TX10s_r2 th) ?_
    refine wp_getR (pc := 17) dX10_namesOneWhoIsNotThere_17 fl_X10_36 rfl (TX6s_k (TX10s_a2 th)) (TX6s_r1 (TX10s_a2 th)) ?_
    refine wp_iload_n (pc := 20) dX10_namesOneWhoIsNotThere_20 rfl ?_
    refine wp_iald (pc := 21) dX10_namesOneWhoIsNotThere_21 (TX6s_a1 (TX10s_a2 th)) F.1 ?_
    have F := F.2
    refine wp_aload_n (pc := 22) dX10_namesOneWhoIsNotThere_22 rfl ?_
    refine wp_getI (pc := 23) dX10_namesOneWhoIsNotThere_23 fl_X10_18 rfl (TX10s_k th) ?_
    refine wp_icmp_ge (tgt := 45) (pc := 26) dX10_namesOneWhoIsNotThere_26 (by decide) (fun c2 => ?_) (fun c2 => ?_)
    · have F := F.1 c2
      refine wp_iconst (v := 1) (pc := 45) dX10_namesOneWhoIsNotThere_45 (by decide) ?_
      exact r_Bx (pc := 46) dX10_namesOneWhoIsNotThere_46 rfl rfl F
    · have F := F.2 c2
      refine wp_aload_n (pc := 29) dX10_namesOneWhoIsNotThere_29 rfl ?_
      refine wp_getR (pc := 30) dX10_namesOneWhoIsNotThere_30 fl_X10_12 rfl (TX10s_k th) (TX10s_r2 th) ?_
      refine wp_getR (pc := 33) dX10_namesOneWhoIsNotThere_33 fl_X10_40 rfl (TX6s_k (TX10s_a2 th)) (TX6s_r2 (TX10s_a2 th)) ?_
      refine wp_iload_n (pc := 36) dX10_namesOneWhoIsNotThere_36 rfl ?_
      refine wp_iald (pc := 37) dX10_namesOneWhoIsNotThere_37 (TX6s_a2 (TX10s_a2 th)) F.1 ?_
      have F := F.2
      refine wp_aload_n (pc := 38) dX10_namesOneWhoIsNotThere_38 rfl ?_
      refine wp_getI (pc := 39) dX10_namesOneWhoIsNotThere_39 fl_X10_18 rfl (TX10s_k th) ?_
      refine wp_icmp_lt (tgt := 47) (pc := 42) dX10_namesOneWhoIsNotThere_42 (by decide) (fun c3 => ?_) (fun c3 => ?_)
      · have F := F.1 c3
        refine wp_iinc (v := (x1 + 1)) (pc := 47) dX10_namesOneWhoIsNotThere_47 rfl rfl rfl ?_
        show wp l M_X10_namesOneWhoIsNotThere d 0 0 _ [some (.ref h), some (.int (x1 + 1))] _ 0 0 kd _ _ mr _
        refine wp_goto (tgt := 2) (pc := 50) dX10_namesOneWhoIsNotThere_50 (by decide) ?_
        exact wp_less (L' := [some (.ref h), some (.int (x1 + 1))]) ⟨rfl, ⟨rfl, trivial⟩⟩ F
      · have F := F.2 c3
        refine wp_iconst (v := 1) (pc := 45) dX10_namesOneWhoIsNotThere_45 (by decide) ?_
        exact r_Bx (pc := 46) dX10_namesOneWhoIsNotThere_46 rfl rfl F
/-- namesOneWhoIsNotThere()Z -/
theorem w_X10_namesOneWhoIsNotThere {l : Launch} {d : Nat} {kd : pm_K} {mr : pm_R} {h : Nat}  {mi : pm_I} {ml : pm_L} {K : Bool → pm_I → pm_L → Prop} (th : TX10s kd mr h)
    (F : c_X10_namesOneWhoIsNotThere_2 l d kd mr h 0 mi ml K) :
    wB l M_X10_namesOneWhoIsNotThere d [.ref h] kd mr mi ml K := by
  show wp l M_X10_namesOneWhoIsNotThere d 0 0 0 [some (.ref h), none] [] 0 0 kd mi ml mr _
  refine wp_iconst (v := 0) (pc := 0) dX10_namesOneWhoIsNotThere_0 (by decide) ?_
  refine wp_istore_n (pc := 1) dX10_namesOneWhoIsNotThere_1 (Nat.le_of_ble_eq_true rfl) rfl ?_
  show wp l M_X10_namesOneWhoIsNotThere d 0 0 _ [some (.ref h), some (.int 0)] _ 0 0 kd _ _ mr _
  exact wp_less (L' := [some (.ref h), some (.int 0)]) ⟨rfl, ⟨rfl, trivial⟩⟩ F
def c_X9_put_109 (l : Launch) (d : Nat) (kd : pm_K) (mr : pm_R) (h : Nat) (o3 : Nat) (x1 : Int32) (x2 : Int32) (mi : pm_I) (ml : pm_L) (K : pm_I → pm_L → Prop) : Prop := wp l M_X9_put d 0 0 109 [some (.ref h), some (.int x1), some (.int x2), none] [] 0 0 kd mi ml mr (qV kd mr K)
theorem w_X9_put_109 {l : Launch} {d : Nat} {kd : pm_K} {mr : pm_R} {h : Nat} {o3 : Nat} {x1 : Int32} {x2 : Int32} {mi : pm_I} {ml : pm_L} {K : pm_I → pm_L → Prop} (th : TX9s kd mr h) (to3 : TX5s kd mr o3)
    (F : vp_in x1 4 ∧ vp_in x1 4 ∧ K (pm_up mi (h + 2) (Int32.toNatClampNeg x1) (if (mi (h + 2) (Int32.toNatClampNeg x1)) < (x2 + 1) then (x2 + 1) else (mi (h + 2) (Int32.toNatClampNeg x1)))) ml) :
    c_X9_put_109 l (d + 1) kd mr h o3 x1 x2 mi ml K := by
  show wp l M_X9_put (d + 1) 0 0 109 [some (.ref h), some (.int x1), some (.int x2), none] [] 0 0 kd mi ml mr _
  refine wp_aload_n (pc := 109) dX9_put_109 rfl ?_
  refine wp_getR (pc := 110) dX9_put_110 fl_X9_19 rfl (TX9s_k th) (TX9s_r4 th) ?_
  refine wp_iload_n (pc := 113) dX9_put_113 rfl ?_
  refine wp_aload_n (pc := 114) dX9_put_114 rfl ?_
  refine wp_getR (pc := 115) dX9_put_115 fl_X9_19 rfl (TX9s_k th) (TX9s_r4 th) ?_
  refine wp_iload_n (pc := 118) dX9_put_118 rfl ?_
  refine wp_iald (pc := 119) dX9_put_119 (TX9s_a4 th) F.1 ?_
  have F := F.2
  refine wp_iload_n (pc := 120) dX9_put_120 rfl ?_
  refine wp_iconst (v := 1) (pc := 121) dX9_put_121 (by decide) ?_
  refine wp_iadd (pc := 122) dX9_put_122 ?_
  refine wp_max (pc := 123) dX9_put_123 ⟨tb_3 188 rfl rfl, tb_2 152 rfl rfl, tb_1 14 rfl rfl, tb_2 153 rfl rfl⟩ (Nat.succ_pos d) (Nat.le_of_ble_eq_true rfl) ⟨Nat.le_refl 0, Nat.le_refl 0⟩ ?_
  refine wp_iast (pc := 126) dX9_put_126 (TX9s_a4 th) F.1 ?_
  have F := F.2
  exact r_V (pc := 127) dX9_put_127 rfl F
/-- put(IILCityChords$Reader;)V -/
theorem w_X9_put {l : Launch} {d : Nat} {kd : pm_K} {mr : pm_R} {h : Nat} {o3 : Nat} {x1 : Int32} {x2 : Int32} {mi : pm_I} {ml : pm_L} {K : pm_I → pm_L → Prop} (th : TX9s kd mr h) (to3 : TX5s kd mr o3)
    (F : ((x1 < 0 → K mi ml) ∧ (¬ x1 < 0 → ((4 ≤ x1 → K mi ml) ∧ (¬ 4 ≤ x1 → ((x2 < 0 → K mi ml) ∧ (¬ x2 < 0 → ((x2 < 2 → (((x1).toInt < 0 ∨ 2 < (x1).toInt → vp_in x2 2 ∧ ∃ b6, mr (h + 6) (Int32.toNatClampNeg x2) = some b6 ∧ TX6s kd mr b6 ∧ wV l M_X6_take d [.ref b6, .ref (o3 + 8)] kd mr mi ml (fun mi8 ml9 => c_X9_put_109 l (d + 1) kd mr h o3 x1 x2 mi8 ml9 K)) ∧ ((x1).toInt = 0 → vp_in x2 2 ∧ ∃ b10, mr (h + 3) (Int32.toNatClampNeg x2) = some b10 ∧ TX0s kd mr b10 ∧ wV l M_X0_take d [.ref b10, .ref (o3 + 2)] kd mr mi ml (fun mi12 ml13 => c_X9_put_109 l (d + 1) kd mr h o3 x1 x2 mi12 ml13 K)) ∧ ((x1).toInt = 1 → vp_in x2 2 ∧ ∃ b14, mr (h + 4) (Int32.toNatClampNeg x2) = some b14 ∧ TX6s kd mr b14 ∧ wV l M_X6_take d [.ref b14, .ref (o3 + 8)] kd mr mi ml (fun mi16 ml17 => c_X9_put_109 l (d + 1) kd mr h o3 x1 x2 mi16 ml17 K)) ∧ ((x1).toInt = 2 → vp_in x2 2 ∧ ∃ b18, mr (h + 5) (Int32.toNatClampNeg x2) = some b18 ∧ TX10s kd mr b18 ∧ wV l M_X10_take d [.ref b18, .ref (o3 + 12)] kd mr mi ml (fun mi20 ml21 => c_X9_put_109 l (d + 1) kd mr h o3 x1 x2 mi20 ml21 K)))) ∧ (¬ x2 < 2 → K mi ml))))))))) :
    wV l M_X9_put (d + 1) [.ref h, .int x1, .int x2, .ref o3] kd mr mi ml K := by
  show wp l M_X9_put (d + 1) 0 0 0 [some (.ref h), some (.int x1), some (.int x2), some (.ref o3)] [] 0 0 kd mi ml mr _
  refine wp_iload_n (pc := 0) dX9_put_0 rfl ?_
  refine wp_if_lt (tgt := 18) (pc := 1) dX9_put_1 (by decide) (fun c1 => ?_) (fun c1 => ?_)
  · have F := F.1 c1
    exact r_V (pc := 18) dX9_put_18 rfl F
  · have F := F.2 c1
    refine wp_iload_n (pc := 4) dX9_put_4 rfl ?_
    refine wp_iconst (v := 4) (pc := 5) dX9_put_5 (by decide) ?_
    refine wp_icmp_ge (tgt := 18) (pc := 6) dX9_put_6 (by decide) (fun c2 => ?_) (fun c2 => ?_)
    · have F := F.1 c2
      exact r_V (pc := 18) dX9_put_18 rfl F
    · have F := F.2 c2
      refine wp_iload_n (pc := 9) dX9_put_9 rfl ?_
      refine wp_if_lt (tgt := 18) (pc := 10) dX9_put_10 (by decide) (fun c3 => ?_) (fun c3 => ?_)
      · have F := F.1 c3
        exact r_V (pc := 18) dX9_put_18 rfl F
      · have F := F.2 c3
        refine wp_iload_n (pc := 13) dX9_put_13 rfl ?_
        refine wp_iconst (v := 2) (pc := 14) dX9_put_14 (by decide) ?_
        refine wp_icmp_lt (tgt := 19) (pc := 15) dX9_put_15 (by decide) (fun c4 => ?_) (fun c4 => ?_)
        · have F := F.1 c4
          refine wp_iload_n (pc := 19) dX9_put_19 rfl ?_
          by_cases c5 : (x1).toInt < 0 ∨ 2 < (x1).toInt
          · have F := F.1 c5
            refine wp_tableOut (tgt := 96) (pc := 20) dX9_put_20 c5 (by decide) ?_
            refine wp_aload_n (pc := 96) dX9_put_96 rfl ?_
            refine wp_getR (pc := 97) dX9_put_97 fl_X9_41 rfl (TX9s_k th) (TX9s_r8 th) ?_
            refine wp_iload_n (pc := 100) dX9_put_100 rfl ?_
            obtain ⟨F1, b6, hb6, tb6, F⟩ := F
            refine wp_aald (t := 1) (pc := 101) dX9_put_101 (by decide) (TX9s_a8 th) F1 hb6 ?_
            refine wp_aload_n (pc := 102) dX9_put_102 rfl ?_
            refine wp_getR (pc := 103) dX9_put_103 fl_X9_79 rfl (TX5s_k to3) (TX5s_r9 to3) ?_
            refine cvV [.ref (o3 + 8)] [] (pc := 106) dX9_put_106 ml_X9_63 iv_X6_take (TX6s_k tb6) (cl_X6 rfl) rfl rfl (Nat.le_of_ble_eq_true rfl) (Nat.le_of_ble_eq_true rfl) (wV.mono (fun mi8 ml9 F => ?_) F)
            exact wp_less (L' := [some (.ref h), some (.int x1), some (.int x2), none]) ⟨rfl, ⟨rfl, ⟨rfl, trivial⟩⟩⟩ F
          have c5 : (x1).toInt = 0 ∨ (x1).toInt = 1 ∨ (x1).toInt = 2 := by omega
          have F := F.2
          rcases c5 with c5 | c5 | c5
          · have F := F.1 c5
            refine wp_tableIn (tgt := 48) (pc := 20) dX9_put_20 c5 (by decide) (by decide) rfl (by decide) ?_
            refine wp_aload_n (pc := 48) dX9_put_48 rfl ?_
            refine wp_getR (pc := 49) dX9_put_49 fl_X9_25 rfl (TX9s_k th) (TX9s_r5 th) ?_
            refine wp_iload_n (pc := 52) dX9_put_52 rfl ?_
            obtain ⟨F1, b10, hb10, tb10, F⟩ := F
            refine wp_aald (t := 0) (pc := 53) dX9_put_53 (by decide) (TX9s_a5 th) F1 hb10 ?_
            refine wp_aload_n (pc := 54) dX9_put_54 rfl ?_
            refine wp_getR (pc := 55) dX9_put_55 fl_X9_73 rfl (TX5s_k to3) (TX5s_r8 to3) ?_
            refine cvV [.ref (o3 + 2)] [] (pc := 58) dX9_put_58 ml_X9_59 iv_X0_take (TX0s_k tb10) (cl_X0 rfl) rfl rfl (Nat.le_of_ble_eq_true rfl) (Nat.le_of_ble_eq_true rfl) (wV.mono (fun mi12 ml13 F => ?_) F)
            refine wp_goto (tgt := 109) (pc := 61) dX9_put_61 (by decide) ?_
            exact wp_less (L' := [some (.ref h), some (.int x1), some (.int x2), none]) ⟨rfl, ⟨rfl, ⟨rfl, trivial⟩⟩⟩ F
          · have F := F.2.1 c5
            refine wp_tableIn (tgt := 64) (pc := 20) dX9_put_20 c5 (by decide) (by decide) rfl (by decide) ?_
            refine wp_aload_n (pc := 64) dX9_put_64 rfl ?_
            refine wp_getR (pc := 65) dX9_put_65 fl_X9_31 rfl (TX9s_k th) (TX9s_r6 th) ?_
            refine wp_iload_n (pc := 68) dX9_put_68 rfl ?_
            obtain ⟨F1, b14, hb14, tb14, F⟩ := F
            refine wp_aald (t := 1) (pc := 69) dX9_put_69 (by decide) (TX9s_a6 th) F1 hb14 ?_
            refine wp_aload_n (pc := 70) dX9_put_70 rfl ?_
            refine wp_getR (pc := 71) dX9_put_71 fl_X9_79 rfl (TX5s_k to3) (TX5s_r9 to3) ?_
            refine cvV [.ref (o3 + 8)] [] (pc := 74) dX9_put_74 ml_X9_63 iv_X6_take (TX6s_k tb14) (cl_X6 rfl) rfl rfl (Nat.le_of_ble_eq_true rfl) (Nat.le_of_ble_eq_true rfl) (wV.mono (fun mi16 ml17 F => ?_) F)
            refine wp_goto (tgt := 109) (pc := 77) dX9_put_77 (by decide) ?_
            exact wp_less (L' := [some (.ref h), some (.int x1), some (.int x2), none]) ⟨rfl, ⟨rfl, ⟨rfl, trivial⟩⟩⟩ F
          · have F := F.2.2 c5
            refine wp_tableIn (tgt := 80) (pc := 20) dX9_put_20 c5 (by decide) (by decide) rfl (by decide) ?_
            refine wp_aload_n (pc := 80) dX9_put_80 rfl ?_
            refine wp_getR (pc := 81) dX9_put_81 fl_X9_37 rfl (TX9s_k th) (TX9s_r7 th) ?_
            refine wp_iload_n (pc := 84) dX9_put_84 rfl ?_
            obtain ⟨F1, b18, hb18, tb18, F⟩ := F
            refine wp_aald (t := 2) (pc := 85) dX9_put_85 (by decide) (TX9s_a7 th) F1 hb18 ?_
            refine wp_aload_n (pc := 86) dX9_put_86 rfl ?_
            refine wp_getR (pc := 87) dX9_put_87 fl_X9_83 rfl (TX5s_k to3) (TX5s_r10 to3) ?_
            refine cvV [.ref (o3 + 12)] [] (pc := 90) dX9_put_90 ml_X9_66 iv_X10_take (TX10s_k tb18) (cl_X10 rfl) rfl rfl (Nat.le_of_ble_eq_true rfl) (Nat.le_of_ble_eq_true rfl) (wV.mono (fun mi20 ml21 F => ?_) F)
            refine wp_goto (tgt := 109) (pc := 93) dX9_put_93 (by decide) ?_
            exact wp_less (L' := [some (.ref h), some (.int x1), some (.int x2), none]) ⟨rfl, ⟨rfl, ⟨rfl, trivial⟩⟩⟩ F
        · have F := F.2 c4
          exact r_V (pc := 18) dX9_put_18 rfl F
/-- take(LCityChords$City;)V -/
theorem w_X0_take {l : Launch} {d : Nat} {kd : pm_K} {mr : pm_R} {h : Nat} {o1 : Nat}  {mi : pm_I} {ml : pm_L} {K : pm_I → pm_L → Prop} (th : TX0s kd mr h) (to1 : TX0s kd mr o1)
    (F : (¬ (0 : Int32) < 0 ∧ ¬ (0 : Int32) < 0 ∧ ¬ (6 : Int32) < 0 ∧ (Int32.toNatClampNeg (0 : Int32)) + (Int32.toNatClampNeg (6 : Int32)) ≤ 6 ∧ (Int32.toNatClampNeg (0 : Int32)) + (Int32.toNatClampNeg (6 : Int32)) ≤ 6) ∧ ∀ mi1 : pm_I, mi1 = (pm_ur (pm_up (pm_up (pm_up (pm_up (pm_up mi h 0 (mi o1 0)) h 1 ((pm_up mi h 0 (mi o1 0)) o1 1)) h 2 ((pm_up (pm_up mi h 0 (mi o1 0)) h 1 ((pm_up mi h 0 (mi o1 0)) o1 1)) o1 2)) h 4 ((pm_up (pm_up (pm_up mi h 0 (mi o1 0)) h 1 ((pm_up mi h 0 (mi o1 0)) o1 1)) h 2 ((pm_up (pm_up mi h 0 (mi o1 0)) h 1 ((pm_up mi h 0 (mi o1 0)) o1 1)) o1 2)) o1 4)) h 5 ((pm_up (pm_up (pm_up (pm_up mi h 0 (mi o1 0)) h 1 ((pm_up mi h 0 (mi o1 0)) o1 1)) h 2 ((pm_up (pm_up mi h 0 (mi o1 0)) h 1 ((pm_up mi h 0 (mi o1 0)) o1 1)) o1 2)) h 4 ((pm_up (pm_up (pm_up mi h 0 (mi o1 0)) h 1 ((pm_up mi h 0 (mi o1 0)) o1 1)) h 2 ((pm_up (pm_up mi h 0 (mi o1 0)) h 1 ((pm_up mi h 0 (mi o1 0)) o1 1)) o1 2)) o1 4)) o1 5)) (h + 1) (va_cpy ((pm_up (pm_up (pm_up (pm_up (pm_up mi h 0 (mi o1 0)) h 1 ((pm_up mi h 0 (mi o1 0)) o1 1)) h 2 ((pm_up (pm_up mi h 0 (mi o1 0)) h 1 ((pm_up mi h 0 (mi o1 0)) o1 1)) o1 2)) h 4 ((pm_up (pm_up (pm_up mi h 0 (mi o1 0)) h 1 ((pm_up mi h 0 (mi o1 0)) o1 1)) h 2 ((pm_up (pm_up mi h 0 (mi o1 0)) h 1 ((pm_up mi h 0 (mi o1 0)) o1 1)) o1 2)) o1 4)) h 5 ((pm_up (pm_up (pm_up (pm_up mi h 0 (mi o1 0)) h 1 ((pm_up mi h 0 (mi o1 0)) o1 1)) h 2 ((pm_up (pm_up mi h 0 (mi o1 0)) h 1 ((pm_up mi h 0 (mi o1 0)) o1 1)) o1 2)) h 4 ((pm_up (pm_up (pm_up mi h 0 (mi o1 0)) h 1 ((pm_up mi h 0 (mi o1 0)) o1 1)) h 2 ((pm_up (pm_up mi h 0 (mi o1 0)) h 1 ((pm_up mi h 0 (mi o1 0)) o1 1)) o1 2)) o1 4)) o1 5)) (o1 + 1)) ((pm_up (pm_up (pm_up (pm_up (pm_up mi h 0 (mi o1 0)) h 1 ((pm_up mi h 0 (mi o1 0)) o1 1)) h 2 ((pm_up (pm_up mi h 0 (mi o1 0)) h 1 ((pm_up mi h 0 (mi o1 0)) o1 1)) o1 2)) h 4 ((pm_up (pm_up (pm_up mi h 0 (mi o1 0)) h 1 ((pm_up mi h 0 (mi o1 0)) o1 1)) h 2 ((pm_up (pm_up mi h 0 (mi o1 0)) h 1 ((pm_up mi h 0 (mi o1 0)) o1 1)) o1 2)) o1 4)) h 5 ((pm_up (pm_up (pm_up (pm_up mi h 0 (mi o1 0)) h 1 ((pm_up mi h 0 (mi o1 0)) o1 1)) h 2 ((pm_up (pm_up mi h 0 (mi o1 0)) h 1 ((pm_up mi h 0 (mi o1 0)) o1 1)) o1 2)) h 4 ((pm_up (pm_up (pm_up mi h 0 (mi o1 0)) h 1 ((pm_up mi h 0 (mi o1 0)) o1 1)) h 2 ((pm_up (pm_up mi h 0 (mi o1 0)) h 1 ((pm_up mi h 0 (mi o1 0)) o1 1)) o1 2)) o1 4)) o1 5)) (h + 1)) (Int32.toNatClampNeg (0 : Int32)) (Int32.toNatClampNeg (0 : Int32)) (Int32.toNatClampNeg (6 : Int32)))) → (¬ (0 : Int32) < 0 ∧ ¬ (0 : Int32) < 0 ∧ ¬ (6 : Int32) < 0 ∧ (Int32.toNatClampNeg (0 : Int32)) + (Int32.toNatClampNeg (6 : Int32)) ≤ 6 ∧ (Int32.toNatClampNeg (0 : Int32)) + (Int32.toNatClampNeg (6 : Int32)) ≤ 6) ∧ ∀ mi2 : pm_I, mi2 = (pm_ur mi1 (h + 2) (va_cpy (mi1 (o1 + 2)) (mi1 (h + 2)) (Int32.toNatClampNeg (0 : Int32)) (Int32.toNatClampNeg (0 : Int32)) (Int32.toNatClampNeg (6 : Int32)))) → (¬ (0 : Int32) < 0 ∧ ¬ (0 : Int32) < 0 ∧ ¬ (6 : Int32) < 0 ∧ (Int32.toNatClampNeg (0 : Int32)) + (Int32.toNatClampNeg (6 : Int32)) ≤ 6 ∧ (Int32.toNatClampNeg (0 : Int32)) + (Int32.toNatClampNeg (6 : Int32)) ≤ 6) ∧ ∀ mi3 : pm_I, mi3 = (pm_ur mi2 (h + 3) (va_cpy (mi2 (o1 + 3)) (mi2 (h + 3)) (Int32.toNatClampNeg (0 : Int32)) (Int32.toNatClampNeg (0 : Int32)) (Int32.toNatClampNeg (6 : Int32)))) → (¬ (0 : Int32) < 0 ∧ ¬ (0 : Int32) < 0 ∧ ¬ (6 : Int32) < 0 ∧ (Int32.toNatClampNeg (0 : Int32)) + (Int32.toNatClampNeg (6 : Int32)) ≤ 6 ∧ (Int32.toNatClampNeg (0 : Int32)) + (Int32.toNatClampNeg (6 : Int32)) ≤ 6) ∧ ∀ mi4 : pm_I, mi4 = (pm_ur mi3 (h + 4) (va_cpy (mi3 (o1 + 4)) (mi3 (h + 4)) (Int32.toNatClampNeg (0 : Int32)) (Int32.toNatClampNeg (0 : Int32)) (Int32.toNatClampNeg (6 : Int32)))) → (¬ (0 : Int32) < 0 ∧ ¬ (0 : Int32) < 0 ∧ ¬ (4 : Int32) < 0 ∧ (Int32.toNatClampNeg (0 : Int32)) + (Int32.toNatClampNeg (4 : Int32)) ≤ 4 ∧ (Int32.toNatClampNeg (0 : Int32)) + (Int32.toNatClampNeg (4 : Int32)) ≤ 4) ∧ ∀ mi5 : pm_I, mi5 = (pm_ur mi4 (h + 5) (va_cpy (mi4 (o1 + 5)) (mi4 (h + 5)) (Int32.toNatClampNeg (0 : Int32)) (Int32.toNatClampNeg (0 : Int32)) (Int32.toNatClampNeg (4 : Int32)))) → K mi5 (pm_up ml h 3 (ml o1 3))) :
    wV l M_X0_take (d + 1) [.ref h, .ref o1] kd mr mi ml K := by
  show wp l M_X0_take (d + 1) 0 0 0 [some (.ref h), some (.ref o1)] [] 0 0 kd mi ml mr _
  refine wp_aload_n (pc := 0) dX0_take_0 rfl ?_
  refine wp_aload_n (pc := 1) dX0_take_1 rfl ?_
  refine wp_getI (pc := 2) dX0_take_2 fl_X0_27 rfl (TX0s_k to1) ?_
  refine wp_putI (pc := 5) dX0_take_5 fl_X0_27 rfl rfl (TX0s_k th) ?_
  refine wp_aload_n (pc := 8) dX0_take_8 rfl ?_
  refine wp_aload_n (pc := 9) dX0_take_9 rfl ?_
  refine wp_getI (pc := 10) dX0_take_10 fl_X0_31 rfl (TX0s_k to1) ?_
  refine wp_putI (pc := 13) dX0_take_13 fl_X0_31 rfl rfl (TX0s_k th) ?_
  refine wp_aload_n (pc := 16) dX0_take_16 rfl ?_
  refine wp_aload_n (pc := 17) dX0_take_17 rfl ?_
  refine wp_getI (pc := 18) dX0_take_18 fl_X0_34 rfl (TX0s_k to1) ?_
  refine wp_putI (pc := 21) dX0_take_21 fl_X0_34 rfl rfl (TX0s_k th) ?_
  refine wp_aload_n (pc := 24) dX0_take_24 rfl ?_
  refine wp_aload_n (pc := 25) dX0_take_25 rfl ?_
  refine wp_getL (pc := 26) dX0_take_26 fl_X0_37 rfl (TX0s_k to1) ?_
  refine wp_putL (pc := 29) dX0_take_29 fl_X0_37 rfl rfl (TX0s_k th) ?_
  refine wp_aload_n (pc := 32) dX0_take_32 rfl ?_
  refine wp_aload_n (pc := 33) dX0_take_33 rfl ?_
  refine wp_getI (pc := 34) dX0_take_34 fl_X0_41 rfl (TX0s_k to1) ?_
  refine wp_putI (pc := 37) dX0_take_37 fl_X0_41 rfl rfl (TX0s_k th) ?_
  refine wp_aload_n (pc := 40) dX0_take_40 rfl ?_
  refine wp_aload_n (pc := 41) dX0_take_41 rfl ?_
  refine wp_getI (pc := 42) dX0_take_42 fl_X0_44 rfl (TX0s_k to1) ?_
  refine wp_putI (pc := 45) dX0_take_45 fl_X0_44 rfl rfl (TX0s_k th) ?_
  refine wp_aload_n (pc := 48) dX0_take_48 rfl ?_
  refine wp_getR (pc := 49) dX0_take_49 fl_X0_9 rfl (TX0s_k to1) (TX0s_r6 to1) ?_
  refine wp_iconst (v := 0) (pc := 52) dX0_take_52 (by decide) ?_
  refine wp_aload_n (pc := 53) dX0_take_53 rfl ?_
  refine wp_getR (pc := 54) dX0_take_54 fl_X0_9 rfl (TX0s_k th) (TX0s_r6 th) ?_
  refine wp_iconst (v := 0) (pc := 57) dX0_take_57 (by decide) ?_
  refine wp_bipush (v := 6) (pc := 58) dX0_take_58 (by decide) ?_
  refine wp_copy (pc := 60) dX0_take_60 ⟨tb_3 177 rfl rfl, tb_2 233 rfl rfl, tb_2 232 rfl rfl, tb_1 16 rfl rfl⟩ (Nat.succ_pos d) (Nat.le_of_ble_eq_true rfl) (by decide) (TX0s_a6 to1) (TX0s_a6 th) F.1.1 F.1.2.1 F.1.2.2.1 F.1.2.2.2.1 F.1.2.2.2.2 ?_
  have F := F.2
  generalize emi1 : (pm_ur (pm_up (pm_up (pm_up (pm_up (pm_up mi h 0 (mi o1 0)) h 1 ((pm_up mi h 0 (mi o1 0)) o1 1)) h 2 ((pm_up (pm_up mi h 0 (mi o1 0)) h 1 ((pm_up mi h 0 (mi o1 0)) o1 1)) o1 2)) h 4 ((pm_up (pm_up (pm_up mi h 0 (mi o1 0)) h 1 ((pm_up mi h 0 (mi o1 0)) o1 1)) h 2 ((pm_up (pm_up mi h 0 (mi o1 0)) h 1 ((pm_up mi h 0 (mi o1 0)) o1 1)) o1 2)) o1 4)) h 5 ((pm_up (pm_up (pm_up (pm_up mi h 0 (mi o1 0)) h 1 ((pm_up mi h 0 (mi o1 0)) o1 1)) h 2 ((pm_up (pm_up mi h 0 (mi o1 0)) h 1 ((pm_up mi h 0 (mi o1 0)) o1 1)) o1 2)) h 4 ((pm_up (pm_up (pm_up mi h 0 (mi o1 0)) h 1 ((pm_up mi h 0 (mi o1 0)) o1 1)) h 2 ((pm_up (pm_up mi h 0 (mi o1 0)) h 1 ((pm_up mi h 0 (mi o1 0)) o1 1)) o1 2)) o1 4)) o1 5)) (h + 1) (va_cpy ((pm_up (pm_up (pm_up (pm_up (pm_up mi h 0 (mi o1 0)) h 1 ((pm_up mi h 0 (mi o1 0)) o1 1)) h 2 ((pm_up (pm_up mi h 0 (mi o1 0)) h 1 ((pm_up mi h 0 (mi o1 0)) o1 1)) o1 2)) h 4 ((pm_up (pm_up (pm_up mi h 0 (mi o1 0)) h 1 ((pm_up mi h 0 (mi o1 0)) o1 1)) h 2 ((pm_up (pm_up mi h 0 (mi o1 0)) h 1 ((pm_up mi h 0 (mi o1 0)) o1 1)) o1 2)) o1 4)) h 5 ((pm_up (pm_up (pm_up (pm_up mi h 0 (mi o1 0)) h 1 ((pm_up mi h 0 (mi o1 0)) o1 1)) h 2 ((pm_up (pm_up mi h 0 (mi o1 0)) h 1 ((pm_up mi h 0 (mi o1 0)) o1 1)) o1 2)) h 4 ((pm_up (pm_up (pm_up mi h 0 (mi o1 0)) h 1 ((pm_up mi h 0 (mi o1 0)) o1 1)) h 2 ((pm_up (pm_up mi h 0 (mi o1 0)) h 1 ((pm_up mi h 0 (mi o1 0)) o1 1)) o1 2)) o1 4)) o1 5)) (o1 + 1)) ((pm_up (pm_up (pm_up (pm_up (pm_up mi h 0 (mi o1 0)) h 1 ((pm_up mi h 0 (mi o1 0)) o1 1)) h 2 ((pm_up (pm_up mi h 0 (mi o1 0)) h 1 ((pm_up mi h 0 (mi o1 0)) o1 1)) o1 2)) h 4 ((pm_up (pm_up (pm_up mi h 0 (mi o1 0)) h 1 ((pm_up mi h 0 (mi o1 0)) o1 1)) h 2 ((pm_up (pm_up mi h 0 (mi o1 0)) h 1 ((pm_up mi h 0 (mi o1 0)) o1 1)) o1 2)) o1 4)) h 5 ((pm_up (pm_up (pm_up (pm_up mi h 0 (mi o1 0)) h 1 ((pm_up mi h 0 (mi o1 0)) o1 1)) h 2 ((pm_up (pm_up mi h 0 (mi o1 0)) h 1 ((pm_up mi h 0 (mi o1 0)) o1 1)) o1 2)) h 4 ((pm_up (pm_up (pm_up mi h 0 (mi o1 0)) h 1 ((pm_up mi h 0 (mi o1 0)) o1 1)) h 2 ((pm_up (pm_up mi h 0 (mi o1 0)) h 1 ((pm_up mi h 0 (mi o1 0)) o1 1)) o1 2)) o1 4)) o1 5)) (h + 1)) (Int32.toNatClampNeg (0 : Int32)) (Int32.toNatClampNeg (0 : Int32)) (Int32.toNatClampNeg (6 : Int32)))) = mi1
  have F := F mi1 emi1.symm
  refine wp_aload_n (pc := 63) dX0_take_63 rfl ?_
  refine wp_getR (pc := 64) dX0_take_64 fl_X0_15 rfl (TX0s_k to1) (TX0s_r7 to1) ?_
  refine wp_iconst (v := 0) (pc := 67) dX0_take_67 (by decide) ?_
  refine wp_aload_n (pc := 68) dX0_take_68 rfl ?_
  refine wp_getR (pc := 69) dX0_take_69 fl_X0_15 rfl (TX0s_k th) (TX0s_r7 th) ?_
  refine wp_iconst (v := 0) (pc := 72) dX0_take_72 (by decide) ?_
  refine wp_bipush (v := 6) (pc := 73) dX0_take_73 (by decide) ?_
  refine wp_copy (pc := 75) dX0_take_75 ⟨tb_3 177 rfl rfl, tb_2 233 rfl rfl, tb_2 232 rfl rfl, tb_1 16 rfl rfl⟩ (Nat.succ_pos d) (Nat.le_of_ble_eq_true rfl) (by decide) (TX0s_a7 to1) (TX0s_a7 th) F.1.1 F.1.2.1 F.1.2.2.1 F.1.2.2.2.1 F.1.2.2.2.2 ?_
  have F := F.2
  generalize emi2 : (pm_ur mi1 (h + 2) (va_cpy (mi1 (o1 + 2)) (mi1 (h + 2)) (Int32.toNatClampNeg (0 : Int32)) (Int32.toNatClampNeg (0 : Int32)) (Int32.toNatClampNeg (6 : Int32)))) = mi2
  have F := F mi2 emi2.symm
  refine wp_aload_n (pc := 78) dX0_take_78 rfl ?_
  refine wp_getR (pc := 79) dX0_take_79 fl_X0_18 rfl (TX0s_k to1) (TX0s_r8 to1) ?_
  refine wp_iconst (v := 0) (pc := 82) dX0_take_82 (by decide) ?_
  refine wp_aload_n (pc := 83) dX0_take_83 rfl ?_
  refine wp_getR (pc := 84) dX0_take_84 fl_X0_18 rfl (TX0s_k th) (TX0s_r8 th) ?_
  refine wp_iconst (v := 0) (pc := 87) dX0_take_87 (by decide) ?_
  refine wp_bipush (v := 6) (pc := 88) dX0_take_88 (by decide) ?_
  refine wp_copy (pc := 90) dX0_take_90 ⟨tb_3 177 rfl rfl, tb_2 233 rfl rfl, tb_2 232 rfl rfl, tb_1 16 rfl rfl⟩ (Nat.succ_pos d) (Nat.le_of_ble_eq_true rfl) (by decide) (TX0s_a8 to1) (TX0s_a8 th) F.1.1 F.1.2.1 F.1.2.2.1 F.1.2.2.2.1 F.1.2.2.2.2 ?_
  have F := F.2
  generalize emi3 : (pm_ur mi2 (h + 3) (va_cpy (mi2 (o1 + 3)) (mi2 (h + 3)) (Int32.toNatClampNeg (0 : Int32)) (Int32.toNatClampNeg (0 : Int32)) (Int32.toNatClampNeg (6 : Int32)))) = mi3
  have F := F mi3 emi3.symm
  refine wp_aload_n (pc := 93) dX0_take_93 rfl ?_
  refine wp_getR (pc := 94) dX0_take_94 fl_X0_21 rfl (TX0s_k to1) (TX0s_r9 to1) ?_
  refine wp_iconst (v := 0) (pc := 97) dX0_take_97 (by decide) ?_
  refine wp_aload_n (pc := 98) dX0_take_98 rfl ?_
  refine wp_getR (pc := 99) dX0_take_99 fl_X0_21 rfl (TX0s_k th) (TX0s_r9 th) ?_
  refine wp_iconst (v := 0) (pc := 102) dX0_take_102 (by decide) ?_
  refine wp_bipush (v := 6) (pc := 103) dX0_take_103 (by decide) ?_
  refine wp_copy (pc := 105) dX0_take_105 ⟨tb_3 177 rfl rfl, tb_2 233 rfl rfl, tb_2 232 rfl rfl, tb_1 16 rfl rfl⟩ (Nat.succ_pos d) (Nat.le_of_ble_eq_true rfl) (by decide) (TX0s_a9 to1) (TX0s_a9 th) F.1.1 F.1.2.1 F.1.2.2.1 F.1.2.2.2.1 F.1.2.2.2.2 ?_
  have F := F.2
  generalize emi4 : (pm_ur mi3 (h + 4) (va_cpy (mi3 (o1 + 4)) (mi3 (h + 4)) (Int32.toNatClampNeg (0 : Int32)) (Int32.toNatClampNeg (0 : Int32)) (Int32.toNatClampNeg (6 : Int32)))) = mi4
  have F := F mi4 emi4.symm
  refine wp_aload_n (pc := 108) dX0_take_108 rfl ?_
  refine wp_getR (pc := 109) dX0_take_109 fl_X0_24 rfl (TX0s_k to1) (TX0s_r10 to1) ?_
  refine wp_iconst (v := 0) (pc := 112) dX0_take_112 (by decide) ?_
  refine wp_aload_n (pc := 113) dX0_take_113 rfl ?_
  refine wp_getR (pc := 114) dX0_take_114 fl_X0_24 rfl (TX0s_k th) (TX0s_r10 th) ?_
  refine wp_iconst (v := 0) (pc := 117) dX0_take_117 (by decide) ?_
  refine wp_iconst (v := 4) (pc := 118) dX0_take_118 (by decide) ?_
  refine wp_copy (pc := 119) dX0_take_119 ⟨tb_3 177 rfl rfl, tb_2 233 rfl rfl, tb_2 232 rfl rfl, tb_1 16 rfl rfl⟩ (Nat.succ_pos d) (Nat.le_of_ble_eq_true rfl) (by decide) (TX0s_a10 to1) (TX0s_a10 th) F.1.1 F.1.2.1 F.1.2.2.1 F.1.2.2.2.1 F.1.2.2.2.2 ?_
  have F := F.2
  generalize emi5 : (pm_ur mi4 (h + 5) (va_cpy (mi4 (o1 + 5)) (mi4 (h + 5)) (Int32.toNatClampNeg (0 : Int32)) (Int32.toNatClampNeg (0 : Int32)) (Int32.toNatClampNeg (4 : Int32)))) = mi5
  have F := F mi5 emi5.symm
  exact r_V (pc := 122) dX0_take_122 rfl F
/-- take(LCityChords$Rows;)V -/
theorem w_X6_take {l : Launch} {d : Nat} {kd : pm_K} {mr : pm_R} {h : Nat} {o1 : Nat}  {mi : pm_I} {ml : pm_L} {K : pm_I → pm_L → Prop} (th : TX6s kd mr h) (to1 : TX6s kd mr o1)
    (F : (¬ (0 : Int32) < 0 ∧ ¬ (0 : Int32) < 0 ∧ ¬ (40 : Int32) < 0 ∧ (Int32.toNatClampNeg (0 : Int32)) + (Int32.toNatClampNeg (40 : Int32)) ≤ 40 ∧ (Int32.toNatClampNeg (0 : Int32)) + (Int32.toNatClampNeg (40 : Int32)) ≤ 40) ∧ ∀ mi1 : pm_I, mi1 = (pm_ur (pm_up mi h 3 (mi o1 3)) (h + 1) (va_cpy ((pm_up mi h 3 (mi o1 3)) (o1 + 1)) ((pm_up mi h 3 (mi o1 3)) (h + 1)) (Int32.toNatClampNeg (0 : Int32)) (Int32.toNatClampNeg (0 : Int32)) (Int32.toNatClampNeg (40 : Int32)))) → (¬ (0 : Int32) < 0 ∧ ¬ (0 : Int32) < 0 ∧ ¬ (40 : Int32) < 0 ∧ (Int32.toNatClampNeg (0 : Int32)) + (Int32.toNatClampNeg (40 : Int32)) ≤ 40 ∧ (Int32.toNatClampNeg (0 : Int32)) + (Int32.toNatClampNeg (40 : Int32)) ≤ 40) ∧ ∀ mi2 : pm_I, mi2 = (pm_ur mi1 (h + 2) (va_cpy (mi1 (o1 + 2)) (mi1 (h + 2)) (Int32.toNatClampNeg (0 : Int32)) (Int32.toNatClampNeg (0 : Int32)) (Int32.toNatClampNeg (40 : Int32)))) → (¬ (0 : Int32) < 0 ∧ ¬ (0 : Int32) < 0 ∧ ¬ (40 : Int32) < 0 ∧ (Int32.toNatClampNeg (0 : Int32)) + (Int32.toNatClampNeg (40 : Int32)) ≤ 40 ∧ (Int32.toNatClampNeg (0 : Int32)) + (Int32.toNatClampNeg (40 : Int32)) ≤ 40) ∧ ∀ mi3 : pm_I, mi3 = (pm_ur mi2 (h + 3) (va_cpy (mi2 (o1 + 3)) (mi2 (h + 3)) (Int32.toNatClampNeg (0 : Int32)) (Int32.toNatClampNeg (0 : Int32)) (Int32.toNatClampNeg (40 : Int32)))) → K mi3 ml) :
    wV l M_X6_take (d + 1) [.ref h, .ref o1] kd mr mi ml K := by
  show wp l M_X6_take (d + 1) 0 0 0 [some (.ref h), some (.ref o1)] [] 0 0 kd mi ml mr _
  refine wp_aload_n (pc := 0) dX6_take_0 rfl ?_
  refine wp_aload_n (pc := 1) dX6_take_1 rfl ?_
  refine wp_getI (pc := 2) dX6_take_2 fl_X6_21 rfl (TX6s_k to1) ?_
  refine wp_putI (pc := 5) dX6_take_5 fl_X6_21 rfl rfl (TX6s_k th) ?_
  refine wp_aload_n (pc := 8) dX6_take_8 rfl ?_
  refine wp_getR (pc := 9) dX6_take_9 fl_X6_9 rfl (TX6s_k to1) (TX6s_r0 to1) ?_
  refine wp_iconst (v := 0) (pc := 12) dX6_take_12 (by decide) ?_
  refine wp_aload_n (pc := 13) dX6_take_13 rfl ?_
  refine wp_getR (pc := 14) dX6_take_14 fl_X6_9 rfl (TX6s_k th) (TX6s_r0 th) ?_
  refine wp_iconst (v := 0) (pc := 17) dX6_take_17 (by decide) ?_
  refine wp_bipush (v := 40) (pc := 18) dX6_take_18 (by decide) ?_
  refine wp_copy (pc := 20) dX6_take_20 ⟨tb_3 182 rfl rfl, tb_2 233 rfl rfl, tb_2 232 rfl rfl, tb_1 16 rfl rfl⟩ (Nat.succ_pos d) (Nat.le_of_ble_eq_true rfl) (by decide) (TX6s_a0 to1) (TX6s_a0 th) F.1.1 F.1.2.1 F.1.2.2.1 F.1.2.2.2.1 F.1.2.2.2.2 ?_
  have F := F.2
  generalize emi1 : (pm_ur (pm_up mi h 3 (mi o1 3)) (h + 1) (va_cpy ((pm_up mi h 3 (mi o1 3)) (o1 + 1)) ((pm_up mi h 3 (mi o1 3)) (h + 1)) (Int32.toNatClampNeg (0 : Int32)) (Int32.toNatClampNeg (0 : Int32)) (Int32.toNatClampNeg (40 : Int32)))) = mi1
  have F := F mi1 emi1.symm
  refine wp_aload_n (pc := 23) dX6_take_23 rfl ?_
  refine wp_getR (pc := 24) dX6_take_24 fl_X6_15 rfl (TX6s_k to1) (TX6s_r1 to1) ?_
  refine wp_iconst (v := 0) (pc := 27) dX6_take_27 (by decide) ?_
  refine wp_aload_n (pc := 28) dX6_take_28 rfl ?_
  refine wp_getR (pc := 29) dX6_take_29 fl_X6_15 rfl (TX6s_k th) (TX6s_r1 th) ?_
  refine wp_iconst (v := 0) (pc := 32) dX6_take_32 (by decide) ?_
  refine wp_bipush (v := 40) (pc := 33) dX6_take_33 (by decide) ?_
  refine wp_copy (pc := 35) dX6_take_35 ⟨tb_3 182 rfl rfl, tb_2 233 rfl rfl, tb_2 232 rfl rfl, tb_1 16 rfl rfl⟩ (Nat.succ_pos d) (Nat.le_of_ble_eq_true rfl) (by decide) (TX6s_a1 to1) (TX6s_a1 th) F.1.1 F.1.2.1 F.1.2.2.1 F.1.2.2.2.1 F.1.2.2.2.2 ?_
  have F := F.2
  generalize emi2 : (pm_ur mi1 (h + 2) (va_cpy (mi1 (o1 + 2)) (mi1 (h + 2)) (Int32.toNatClampNeg (0 : Int32)) (Int32.toNatClampNeg (0 : Int32)) (Int32.toNatClampNeg (40 : Int32)))) = mi2
  have F := F mi2 emi2.symm
  refine wp_aload_n (pc := 38) dX6_take_38 rfl ?_
  refine wp_getR (pc := 39) dX6_take_39 fl_X6_18 rfl (TX6s_k to1) (TX6s_r2 to1) ?_
  refine wp_iconst (v := 0) (pc := 42) dX6_take_42 (by decide) ?_
  refine wp_aload_n (pc := 43) dX6_take_43 rfl ?_
  refine wp_getR (pc := 44) dX6_take_44 fl_X6_18 rfl (TX6s_k th) (TX6s_r2 th) ?_
  refine wp_iconst (v := 0) (pc := 47) dX6_take_47 (by decide) ?_
  refine wp_bipush (v := 40) (pc := 48) dX6_take_48 (by decide) ?_
  refine wp_copy (pc := 50) dX6_take_50 ⟨tb_3 182 rfl rfl, tb_2 233 rfl rfl, tb_2 232 rfl rfl, tb_1 16 rfl rfl⟩ (Nat.succ_pos d) (Nat.le_of_ble_eq_true rfl) (by decide) (TX6s_a2 to1) (TX6s_a2 th) F.1.1 F.1.2.1 F.1.2.2.1 F.1.2.2.2.1 F.1.2.2.2.2 ?_
  have F := F.2
  generalize emi3 : (pm_ur mi2 (h + 3) (va_cpy (mi2 (o1 + 3)) (mi2 (h + 3)) (Int32.toNatClampNeg (0 : Int32)) (Int32.toNatClampNeg (0 : Int32)) (Int32.toNatClampNeg (40 : Int32)))) = mi3
  have F := F mi3 emi3.symm
  exact r_V (pc := 53) dX6_take_53 rfl F
/-- take(LCityChords$Trial;)V -/
theorem w_X10_take {l : Launch} {d : Nat} {kd : pm_K} {mr : pm_R} {h : Nat} {o1 : Nat}  {mi : pm_I} {ml : pm_L} {K : pm_I → pm_L → Prop} (th : TX10s kd mr h) (to1 : TX10s kd mr o1)
    (F : wV l M_X6_take d [.ref (h + 1), .ref (o1 + 1)] kd mr (pm_up (pm_up mi h 0 (mi o1 0)) h 1 ((pm_up mi h 0 (mi o1 0)) o1 1)) ml (fun mi2 ml3 => K mi2 ml3)) :
    wV l M_X10_take (d + 1) [.ref h, .ref o1] kd mr mi ml K := by
  show wp l M_X10_take (d + 1) 0 0 0 [some (.ref h), some (.ref o1)] [] 0 0 kd mi ml mr _
  refine wp_aload_n (pc := 0) dX10_take_0 rfl ?_
  refine wp_aload_n (pc := 1) dX10_take_1 rfl ?_
  refine wp_getI (pc := 2) dX10_take_2 fl_X10_18 rfl (TX10s_k to1) ?_
  refine wp_putI (pc := 5) dX10_take_5 fl_X10_18 rfl rfl (TX10s_k th) ?_
  refine wp_aload_n (pc := 8) dX10_take_8 rfl ?_
  refine wp_aload_n (pc := 9) dX10_take_9 rfl ?_
  refine wp_getI (pc := 10) dX10_take_10 fl_X10_22 rfl (TX10s_k to1) ?_
  refine wp_putI (pc := 13) dX10_take_13 fl_X10_22 rfl rfl (TX10s_k th) ?_
  refine wp_aload_n (pc := 16) dX10_take_16 rfl ?_
  refine wp_getR (pc := 17) dX10_take_17 fl_X10_12 rfl (TX10s_k th) (TX10s_r2 th) ?_
  refine wp_aload_n (pc := 20) dX10_take_20 rfl ?_
  refine wp_getR (pc := 21) dX10_take_21 fl_X10_12 rfl (TX10s_k to1) (TX10s_r2 to1) ?_
  refine cvV [.ref (o1 + 1)] [] (pc := 24) dX10_take_24 ml_X10_28 iv_X6_take (TX6s_k (TX10s_a2 th)) (cl_X6 rfl) rfl rfl (Nat.le_of_ble_eq_true rfl) (Nat.le_of_ble_eq_true rfl) (wV.mono (fun mi2 ml3 F => ?_) F)
  exact r_V (pc := 27) dX10_take_27 rfl F
/-- fault(I)I -/
theorem w_X11_fault {l : Launch} {d : Nat} {kd : pm_K} {mr : pm_R} {h : Nat} {x1 : Int32} {mi : pm_I} {ml : pm_L} {K : Int32 → pm_I → pm_L → Prop} (th : TX11s kd mr h)
    (F : (((x1).toInt = 0 → K (mi (h + 1) 2) mi ml) ∧ (¬ (x1).toInt = 0 → (((x1).toInt = 1 → K (mi (h + 1) 3) mi ml) ∧ (¬ (x1).toInt = 1 → K (-1) mi ml))))) :
    wI l M_X11_fault d [.ref h, .int x1] kd mr mi ml K := by
  show wp l M_X11_fault d 0 0 0 [some (.ref h), some (.int x1)] [] 0 0 kd mi ml mr _
  refine wp_iload_n (pc := 0) dX11_fault_0 rfl ?_
  by_cases c1 : (x1).toInt = 0
  · have F := F.1 c1
    refine wp_lookup (tgt := 28) (off := 27) (pc := 1) dX11_fault_1 (by decide) (by rw [c1]; decide) (by decide) ?_
    refine wp_aload_n (pc := 28) dX11_fault_28 rfl ?_
    refine wp_getR (pc := 29) dX11_fault_29 fl_X11_10 rfl (TX11s_k th) (TX11s_r0 th) ?_
    refine wp_getI (pc := 32) dX11_fault_32 fl_X11_85 rfl (TX9s_k (TX11s_a0 th)) ?_
    exact r_I (pc := 35) dX11_fault_35 rfl F
  have F := F.2 c1
  by_cases c2 : (x1).toInt = 1
  · have F := F.1 c2
    refine wp_lookup (tgt := 36) (off := 35) (pc := 1) dX11_fault_1 (by decide) (by rw [c2]; decide) (by decide) ?_
    refine wp_aload_n (pc := 36) dX11_fault_36 rfl ?_
    refine wp_getR (pc := 37) dX11_fault_37 fl_X11_10 rfl (TX11s_k th) (TX11s_r0 th) ?_
    refine wp_getI (pc := 40) dX11_fault_40 fl_X11_88 rfl (TX9s_k (TX11s_a0 th)) ?_
    exact r_I (pc := 43) dX11_fault_43 rfl F
  have F := F.2 c2
  refine wp_lookup (tgt := 44) (off := 43) (pc := 1) dX11_fault_1 (by decide) (by have nc1 : ¬ (0 : Int) = (x1).toInt := fun z => c1 z.symm; have nc2 : ¬ (1 : Int) = (x1).toInt := fun z => c2 z.symm; simp only [Op.lookupswitch.offset, nc1, nc2, if_false]) (by decide) ?_
  refine wp_iconst (v := -1) (pc := 44) dX11_fault_44 (by decide) ?_
  exact r_I (pc := 45) dX11_fault_45 rfl F
/-- city(II)I -/
theorem w_X11_city {l : Launch} {d : Nat} {kd : pm_K} {mr : pm_R} {h : Nat} {x1 : Int32} {x2 : Int32} {mi : pm_I} {ml : pm_L} {K : Int32 → pm_I → pm_L → Prop} (th : TX11s kd mr h)
    (F : wR l M_X9_cityAt d [.ref (h + 1), .int x1] kd mr mi ml (fun r1 mi2 ml3 => ((r1 = none → K (-1) mi2 ml3) ∧ (∀ b4, r1 = some b4 → TX0s kd mr b4 ∧ wI l M_X0_tell d [.ref b4, .int x2] kd mr mi2 ml3 (fun r5 mi6 ml7 => K r5 mi6 ml7))))) :
    wI l M_X11_city (d + 1) [.ref h, .int x1, .int x2] kd mr mi ml K := by
  show wp l M_X11_city (d + 1) 0 0 0 [some (.ref h), some (.int x1), some (.int x2), none] [] 0 0 kd mi ml mr _
  refine wp_aload_n (pc := 0) dX11_city_0 rfl ?_
  refine wp_getR (pc := 1) dX11_city_1 fl_X11_10 rfl (TX11s_k th) (TX11s_r0 th) ?_
  refine wp_iload_n (pc := 4) dX11_city_4 rfl ?_
  refine cvR [.int x1] [] (pc := 5) dX11_city_5 ml_X11_109 iv_X9_cityAt (TX9s_k (TX11s_a0 th)) (cl_X9 rfl) rfl rfl (Nat.le_of_ble_eq_true rfl) (Nat.le_of_ble_eq_true rfl) (wR.mono (fun r1 mi2 ml3 F => ?_) F)
  cases r1 with
  | none =>
      have F := F.1 rfl
      show wp l M_X11_city (d + 1) 0 0 _ _ (.null :: _) 0 0 kd _ _ mr _
      refine wp_astore_nN (pc := 8) dX11_city_8 (Nat.le_of_ble_eq_true rfl) rfl ?_
      show wp l M_X11_city (d + 1) 0 0 _ [some (.ref h), some (.int x1), some (.int x2), some (.null)] _ 0 0 kd _ _ mr _
      refine wp_aload_nN (pc := 9) dX11_city_9 rfl ?_
      refine wp_ifnonnullN (pc := 10) dX11_city_10 ?_
      refine wp_iconst (v := -1) (pc := 13) dX11_city_13 (by decide) ?_
      refine wp_goto (tgt := 22) (pc := 14) dX11_city_14 (by decide) ?_
      exact r_I (pc := 22) dX11_city_22 rfl F
  | some b4 =>
      obtain ⟨tb4, F⟩ := F.2 b4 rfl
      show wp l M_X11_city (d + 1) 0 0 _ _ (.ref b4 :: _) 0 0 kd _ _ mr _
      refine wp_astore_n (pc := 8) dX11_city_8 (Nat.le_of_ble_eq_true rfl) rfl ?_
      show wp l M_X11_city (d + 1) 0 0 _ [some (.ref h), some (.int x1), some (.int x2), some (.ref b4)] _ 0 0 kd _ _ mr _
      refine wp_aload_n (pc := 9) dX11_city_9 rfl ?_
      refine wp_ifnonnull (tgt := 17) (pc := 10) dX11_city_10 (by decide) ?_
      refine wp_aload_n (pc := 17) dX11_city_17 rfl ?_
      refine wp_iload_n (pc := 18) dX11_city_18 rfl ?_
      refine cvI [.int x2] [] (pc := 19) dX11_city_19 ml_X11_113 iv_X0_tell (TX0s_k tb4) (cl_X0 rfl) rfl rfl (Nat.le_of_ble_eq_true rfl) (Nat.le_of_ble_eq_true rfl) (wI.mono (fun r5 mi6 ml7 F => ?_) F)
      exact r_I (pc := 22) dX11_city_22 rfl F
/-- cityAt(I)LCityChords$City; -/
theorem w_X9_cityAt {l : Launch} {d : Nat} {kd : pm_K} {mr : pm_R} {h : Nat} {x1 : Int32} {mi : pm_I} {ml : pm_L} {K : Option Nat → pm_I → pm_L → Prop} (th : TX9s kd mr h)
    (F : wB l M_X9_hasOne d [.ref h, .int 0, .int x1] kd mr mi ml (fun r1 mi2 ml3 => ((r1 = false → K none mi2 ml3) ∧ (r1 = true → vp_in x1 2 ∧ ∃ b5, mr (h + 3) (Int32.toNatClampNeg x1) = some b5 ∧ TX0s kd mr b5 ∧ K (some b5) mi2 ml3)))) :
    wR l M_X9_cityAt (d + 1) [.ref h, .int x1] kd mr mi ml K := by
  show wp l M_X9_cityAt (d + 1) 0 0 0 [some (.ref h), some (.int x1)] [] 0 0 kd mi ml mr _
  refine wp_aload_n (pc := 0) dX9_cityAt_0 rfl ?_
  refine wp_iconst (v := 0) (pc := 1) dX9_cityAt_1 (by decide) ?_
  refine wp_iload_n (pc := 2) dX9_cityAt_2 rfl ?_
  refine cvB [.int 0, .int x1] [] (pc := 3) dX9_cityAt_3 ml_X9_69 iv_X9_hasOne (TX9s_k th) (cl_X9 rfl) rfl rfl (Nat.le_of_ble_eq_true rfl) (Nat.le_of_ble_eq_true rfl) (wB.mono (fun r1 mi2 ml3 F => ?_) F)
  refine b_eq (tgt := 18) (pc := 6) dX9_cityAt_6 (by decide) (fun c4 => ?_) (fun c4 => ?_)
  · have F := F.1 c4
    refine wp_null (pc := 18) dX9_cityAt_18 ?_
    exact r_N (pc := 19) dX9_cityAt_19 rfl (Or.inl ⟨_, rfl⟩) F
  · have F := F.2 c4
    refine wp_aload_n (pc := 9) dX9_cityAt_9 rfl ?_
    refine wp_getR (pc := 10) dX9_cityAt_10 fl_X9_25 rfl (TX9s_k th) (TX9s_r5 th) ?_
    refine wp_iload_n (pc := 13) dX9_cityAt_13 rfl ?_
    obtain ⟨F1, b5, hb5, tb5, F⟩ := F
    refine wp_aald (t := 0) (pc := 14) dX9_cityAt_14 (by decide) (TX9s_a5 th) F1 hb5 ?_
    refine wp_goto (tgt := 19) (pc := 15) dX9_cityAt_15 (by decide) ?_
    exact r_R (pc := 19) dX9_cityAt_19 rfl (Or.inl ⟨_, rfl⟩) F
/-- hasOne(II)Z -/
theorem w_X9_hasOne {l : Launch} {d : Nat} {kd : pm_K} {mr : pm_R} {h : Nat} {x1 : Int32} {x2 : Int32} {mi : pm_I} {ml : pm_L} {K : Bool → pm_I → pm_L → Prop} (th : TX9s kd mr h)
    (F : ((x2 < 0 → K false mi ml) ∧ (¬ x2 < 0 → vp_in x1 4 ∧ K (!decide ((mi (h + 2) (Int32.toNatClampNeg x1)) ≤ x2) && (!decide (2 ≤ x2))) mi ml))) :
    wB l M_X9_hasOne d [.ref h, .int x1, .int x2] kd mr mi ml K := by
  show wp l M_X9_hasOne d 0 0 0 [some (.ref h), some (.int x1), some (.int x2)] [] 0 0 kd mi ml mr _
  refine wp_iload_n (pc := 0) dX9_hasOne_0 rfl ?_
  refine wp_if_lt (tgt := 23) (pc := 1) dX9_hasOne_1 (by decide) (fun c1 => ?_) (fun c1 => ?_)
  · have F := F.1 c1
    refine wp_iconst (v := 0) (pc := 23) dX9_hasOne_23 (by decide) ?_
    exact r_Bx (pc := 24) dX9_hasOne_24 rfl rfl F
  · have F := F.2 c1
    refine wp_iload_n (pc := 4) dX9_hasOne_4 rfl ?_
    refine wp_aload_n (pc := 5) dX9_hasOne_5 rfl ?_
    refine wp_getR (pc := 6) dX9_hasOne_6 fl_X9_19 rfl (TX9s_k th) (TX9s_r4 th) ?_
    refine wp_iload_n (pc := 9) dX9_hasOne_9 rfl ?_
    refine wp_iald (pc := 10) dX9_hasOne_10 (TX9s_a4 th) F.1 ?_
    have F := F.2
    suffices J2 : ∀ v3 : Int32, v3 = (b2i (!decide ((mi (h + 2) (Int32.toNatClampNeg x1)) ≤ x2) && (!decide (2 ≤ x2)))) → wp l M_X9_hasOne d 0 0 24 [some (.ref h), some (.int x1), some (.int x2)] [.int v3] 0 0 kd mi ml mr _ by
        refine wp_icmp_ge (tgt := 23) (pc := 11) dX9_hasOne_11 (by decide) (fun c4 => ?_) (fun c4 => ?_)
        · refine wp_iconst (v := 0) (pc := 23) dX9_hasOne_23 (by decide) ?_
          exact J2 _ (by simp only [eq_true c4, if_true, if_false, decide_true, decide_false, Bool.not_true, Bool.not_false, Bool.true_and, Bool.false_and, Bool.true_or, Bool.false_or, b2i_t, b2i_f, ite_true, ite_false, not_true_eq_false, not_false_eq_true, reduceCtorEq, decide_eq_true_eq])
        · refine wp_iload_n (pc := 14) dX9_hasOne_14 rfl ?_
          refine wp_iconst (v := 2) (pc := 15) dX9_hasOne_15 (by decide) ?_
          refine wp_icmp_ge (tgt := 23) (pc := 16) dX9_hasOne_16 (by decide) (fun c5 => ?_) (fun c5 => ?_)
          · refine wp_iconst (v := 0) (pc := 23) dX9_hasOne_23 (by decide) ?_
            exact J2 _ (by simp only [c4, eq_true c5, if_true, if_false, decide_true, decide_false, Bool.not_true, Bool.not_false, Bool.true_and, Bool.false_and, Bool.true_or, Bool.false_or, b2i_t, b2i_f, ite_true, ite_false, not_true_eq_false, not_false_eq_true, reduceCtorEq, decide_eq_true_eq])
          · refine wp_iconst (v := 1) (pc := 19) dX9_hasOne_19 (by decide) ?_
            refine wp_goto (tgt := 24) (pc := 20) dX9_hasOne_20 (by decide) ?_
            exact J2 _ (by simp only [c4, c5, if_true, if_false, decide_true, decide_false, Bool.not_true, Bool.not_false, Bool.true_and, Bool.false_and, Bool.true_or, Bool.false_or, b2i_t, b2i_f, ite_true, ite_false, not_true_eq_false, not_false_eq_true, reduceCtorEq, decide_eq_true_eq])
    intro v3 ev3
    subst ev3
    exact r_B (pc := 24) dX9_hasOne_24 rfl F
/-- tell(I)I -/
theorem w_X0_tell {l : Launch} {d : Nat} {kd : pm_K} {mr : pm_R} {h : Nat} {x1 : Int32} {mi : pm_I} {ml : pm_L} {K : Int32 → pm_I → pm_L → Prop} (th : TX0s kd mr h)
    (F : ((x1 < 100 → (((x1).toInt < 0 ∨ 4 < (x1).toInt → ((10 ≤ x1 → wI l M_X0_tellOne d [.ref h, .int (x1 / 10), .int (x1 - x1 / 10 * 10)] kd mr mi ml (fun r4 mi5 ml6 => K r4 mi5 ml6)) ∧ (¬ 10 ≤ x1 → K (-1) mi ml))) ∧ ((x1).toInt = 0 → K (mi h 0) mi ml) ∧ ((x1).toInt = 1 → K (mi h 1) mi ml) ∧ ((x1).toInt = 2 → K (mi h 2) mi ml) ∧ ((x1).toInt = 3 → K (mi h 4) mi ml) ∧ ((x1).toInt = 4 → K (mi h 5) mi ml))) ∧ (¬ x1 < 100 → wI l M_X0_spotOf d [.ref h, .int (x1 - 100)] kd mr mi ml (fun r7 mi8 ml9 => ((¬ r7 = (-1) → wB l M_X11_has d [.long (ml9 h 3), .int r7] kd mr mi8 ml9 (fun r11 mi12 ml13 => K (b2i (decide (r11 = true))) mi12 ml13)) ∧ (r7 = (-1) → K (-1) mi8 ml9)))))) :
    wI l M_X0_tell (d + 1) [.ref h, .int x1] kd mr mi ml K := by
  show wp l M_X0_tell (d + 1) 0 0 0 [some (.ref h), some (.int x1), none] [] 0 0 kd mi ml mr _
  refine wp_iload_n (pc := 0) dX0_tell_0 rfl ?_
  refine wp_bipush (v := 100) (pc := 1) dX0_tell_1 (by decide) ?_
  refine wp_icmp_lt (tgt := 41) (pc := 3) dX0_tell_3 (by decide) (fun c1 => ?_) (fun c1 => ?_)
  · have F := F.1 c1
    refine wp_iload_n (pc := 41) dX0_tell_41 rfl ?_
    by_cases c2 : (x1).toInt < 0 ∨ 4 < (x1).toInt
    · have F := F.1 c2
      refine wp_tableOut (tgt := 101) (pc := 42) dX0_tell_42 c2 (by decide) ?_
      refine wp_iload_n (pc := 101) dX0_tell_101 rfl ?_
      refine wp_bipush (v := 10) (pc := 102) dX0_tell_102 (by decide) ?_
      refine wp_icmp_ge (tgt := 111) (pc := 104) dX0_tell_104 (by decide) (fun c3 => ?_) (fun c3 => ?_)
      · have F := F.1 c3
        refine wp_aload_n (pc := 111) dX0_tell_111 rfl ?_
        refine wp_iload_n (pc := 112) dX0_tell_112 rfl ?_
        refine wp_bipush (v := 10) (pc := 113) dX0_tell_113 (by decide) ?_
        refine wp_idiv (pc := 115) dX0_tell_115 (by decide) ?_
        refine wp_iload_n (pc := 116) dX0_tell_116 rfl ?_
        refine wp_bipush (v := 10) (pc := 117) dX0_tell_117 (by decide) ?_
        refine wp_irem (pc := 119) dX0_tell_119 (by decide) ?_
        refine cvI [.int (x1 / 10), .int (x1 - x1 / 10 * 10)] [] (pc := 120) dX0_tell_120 ml_X0_92 iv_X0_tellOne (TX0s_k th) (cl_X0 rfl) rfl rfl (Nat.le_of_ble_eq_true rfl) (Nat.le_of_ble_eq_true rfl) (wI.mono (fun r4 mi5 ml6 F => ?_) F)
        exact r_I (pc := 123) dX0_tell_123 rfl F
      · have F := F.2 c3
        refine wp_iconst (v := -1) (pc := 107) dX0_tell_107 (by decide) ?_
        refine wp_goto (tgt := 123) (pc := 108) dX0_tell_108 (by decide) ?_
        exact r_I (pc := 123) dX0_tell_123 rfl F
    have c2 : (x1).toInt = 0 ∨ (x1).toInt = 1 ∨ (x1).toInt = 2 ∨ (x1).toInt = 3 ∨ (x1).toInt = 4 := by omega
    have F := F.2
    rcases c2 with c2 | c2 | c2 | c2 | c2
    · have F := F.1 c2
      refine wp_tableIn (tgt := 76) (pc := 42) dX0_tell_42 c2 (by decide) (by decide) rfl (by decide) ?_
      refine wp_aload_n (pc := 76) dX0_tell_76 rfl ?_
      refine wp_getI (pc := 77) dX0_tell_77 fl_X0_27 rfl (TX0s_k th) ?_
      exact r_I (pc := 80) dX0_tell_80 rfl F
    · have F := F.2.1 c2
      refine wp_tableIn (tgt := 81) (pc := 42) dX0_tell_42 c2 (by decide) (by decide) rfl (by decide) ?_
      refine wp_aload_n (pc := 81) dX0_tell_81 rfl ?_
      refine wp_getI (pc := 82) dX0_tell_82 fl_X0_31 rfl (TX0s_k th) ?_
      exact r_I (pc := 85) dX0_tell_85 rfl F
    · have F := F.2.2.1 c2
      refine wp_tableIn (tgt := 86) (pc := 42) dX0_tell_42 c2 (by decide) (by decide) rfl (by decide) ?_
      refine wp_aload_n (pc := 86) dX0_tell_86 rfl ?_
      refine wp_getI (pc := 87) dX0_tell_87 fl_X0_34 rfl (TX0s_k th) ?_
      exact r_I (pc := 90) dX0_tell_90 rfl F
    · have F := F.2.2.2.1 c2
      refine wp_tableIn (tgt := 91) (pc := 42) dX0_tell_42 c2 (by decide) (by decide) rfl (by decide) ?_
      refine wp_aload_n (pc := 91) dX0_tell_91 rfl ?_
      refine wp_getI (pc := 92) dX0_tell_92 fl_X0_41 rfl (TX0s_k th) ?_
      exact r_I (pc := 95) dX0_tell_95 rfl F
    · have F := F.2.2.2.2 c2
      refine wp_tableIn (tgt := 96) (pc := 42) dX0_tell_42 c2 (by decide) (by decide) rfl (by decide) ?_
      refine wp_aload_n (pc := 96) dX0_tell_96 rfl ?_
      refine wp_getI (pc := 97) dX0_tell_97 fl_X0_44 rfl (TX0s_k th) ?_
      exact r_I (pc := 100) dX0_tell_100 rfl F
  · have F := F.2 c1
    refine wp_aload_n (pc := 6) dX0_tell_6 rfl ?_
    refine wp_iload_n (pc := 7) dX0_tell_7 rfl ?_
    refine wp_bipush (v := 100) (pc := 8) dX0_tell_8 (by decide) ?_
    refine wp_isub (pc := 10) dX0_tell_10 ?_
    refine cvI [.int (x1 - 100)] [] (pc := 11) dX0_tell_11 ml_X0_89 iv_X0_spotOf (TX0s_k th) (cl_X0 rfl) rfl rfl (Nat.le_of_ble_eq_true rfl) (Nat.le_of_ble_eq_true rfl) (wI.mono (fun r7 mi8 ml9 F => ?_) F)
    refine wp_istore_n (pc := 14) dX0_tell_14 (Nat.le_of_ble_eq_true rfl) rfl ?_
    show wp l M_X0_tell (d + 1) 0 0 _ [some (.ref h), some (.int x1), some (.int r7)] _ 0 0 kd _ _ mr _
    refine wp_iload_n (pc := 15) dX0_tell_15 rfl ?_
    refine wp_iconst (v := -1) (pc := 16) dX0_tell_16 (by decide) ?_
    refine wp_icmp_ne (tgt := 24) (pc := 17) dX0_tell_17 (by decide) (fun c10 => ?_) (fun c10 => ?_)
    · have F := F.1 c10
      refine wp_aload_n (pc := 24) dX0_tell_24 rfl ?_
      refine wp_getL (pc := 25) dX0_tell_25 fl_X0_37 rfl (TX0s_k th) ?_
      refine wp_iload_n (pc := 28) dX0_tell_28 rfl ?_
      refine csB [.long (ml9 h 3), .int r7] [] (pc := 29) dX0_tell_29 ml_X0_85 st_X11_has rfl rfl (Nat.le_of_ble_eq_true rfl) (Nat.le_of_ble_eq_true rfl) (wB.mono (fun r11 mi12 ml13 F => ?_) F)
      suffices J14 : ∀ v15 : Int32, v15 = (b2i (decide (r11 = true))) → wp l M_X0_tell (d + 1) 0 0 40 [some (.ref h), some (.int x1), some (.int r7)] [.int v15] 0 0 kd mi12 ml13 mr _ by
          refine b_eq (tgt := 39) (pc := 32) dX0_tell_32 (by decide) (fun c16 => ?_) (fun c16 => ?_)
          · refine wp_iconst (v := 0) (pc := 39) dX0_tell_39 (by decide) ?_
            exact J14 _ (by simp only [c16, if_true, if_false, decide_true, decide_false, Bool.not_true, Bool.not_false, Bool.true_and, Bool.false_and, Bool.true_or, Bool.false_or, b2i_t, b2i_f, ite_true, ite_false, not_true_eq_false, not_false_eq_true, reduceCtorEq, decide_eq_true_eq])
          · refine wp_iconst (v := 1) (pc := 35) dX0_tell_35 (by decide) ?_
            refine wp_goto (tgt := 40) (pc := 36) dX0_tell_36 (by decide) ?_
            exact J14 _ (by simp only [c16, if_true, if_false, decide_true, decide_false, Bool.not_true, Bool.not_false, Bool.true_and, Bool.false_and, Bool.true_or, Bool.false_or, b2i_t, b2i_f, ite_true, ite_false, not_true_eq_false, not_false_eq_true, reduceCtorEq, decide_eq_true_eq])
      intro v15 ev15
      subst ev15
      exact r_I (pc := 40) dX0_tell_40 rfl F
    · have F := F.2 c10
      refine wp_iconst (v := -1) (pc := 20) dX0_tell_20 (by decide) ?_
      refine wp_goto (tgt := 40) (pc := 21) dX0_tell_21 (by decide) ?_
      exact r_I (pc := 40) dX0_tell_40 rfl F
/-- spotOf(I)I -/
theorem w_X0_spotOf {l : Launch} {d : Nat} {kd : pm_K} {mr : pm_R} {h : Nat} {x1 : Int32} {mi : pm_I} {ml : pm_L} {K : Int32 → pm_I → pm_L → Prop} (th : TX0s kd mr h)
    (F : (((mi h 0) < 1 → K (-1) mi ml) ∧ (¬ (mi h 0) < 1 → ((x1 < 0 → K (-1) mi ml) ∧ (¬ x1 < 0 → ((x1 < ((mi h 0) * (mi h 1)) → ¬ (mi h 0) = 0 ∧ ¬ (mi h 0) = 0 ∧ wI l M_X11_spotAt d [.int (x1 - x1 / (mi h 0) * (mi h 0)), .int (x1 / (mi h 0))] kd mr mi ml (fun r4 mi5 ml6 => K r4 mi5 ml6)) ∧ (¬ x1 < ((mi h 0) * (mi h 1)) → K (-1) mi ml))))))) :
    wI l M_X0_spotOf (d + 1) [.ref h, .int x1] kd mr mi ml K := by
  show wp l M_X0_spotOf (d + 1) 0 0 0 [some (.ref h), some (.int x1)] [] 0 0 kd mi ml mr _
  refine wp_aload_n (pc := 0) dX0_spotOf_0 rfl ?_
  refine wp_getI (pc := 1) dX0_spotOf_1 fl_X0_27 rfl (TX0s_k th) ?_
  refine wp_iconst (v := 1) (pc := 4) dX0_spotOf_4 (by decide) ?_
  refine wp_icmp_lt (tgt := 25) (pc := 5) dX0_spotOf_5 (by decide) (fun c1 => ?_) (fun c1 => ?_)
  · have F := F.1 c1
    refine wp_iconst (v := -1) (pc := 25) dX0_spotOf_25 (by decide) ?_
    exact r_I (pc := 26) dX0_spotOf_26 rfl F
  · have F := F.2 c1
    refine wp_iload_n (pc := 8) dX0_spotOf_8 rfl ?_
    refine wp_if_lt (tgt := 25) (pc := 9) dX0_spotOf_9 (by decide) (fun c2 => ?_) (fun c2 => ?_)
    · have F := F.1 c2
      refine wp_iconst (v := -1) (pc := 25) dX0_spotOf_25 (by decide) ?_
      exact r_I (pc := 26) dX0_spotOf_26 rfl F
    · have F := F.2 c2
      refine wp_iload_n (pc := 12) dX0_spotOf_12 rfl ?_
      refine wp_aload_n (pc := 13) dX0_spotOf_13 rfl ?_
      refine wp_getI (pc := 14) dX0_spotOf_14 fl_X0_27 rfl (TX0s_k th) ?_
      refine wp_aload_n (pc := 17) dX0_spotOf_17 rfl ?_
      refine wp_getI (pc := 18) dX0_spotOf_18 fl_X0_31 rfl (TX0s_k th) ?_
      refine wp_imul (pc := 21) dX0_spotOf_21 ?_
      refine wp_icmp_lt (tgt := 27) (pc := 22) dX0_spotOf_22 (by decide) (fun c3 => ?_) (fun c3 => ?_)
      · have F := F.1 c3
        refine wp_iload_n (pc := 27) dX0_spotOf_27 rfl ?_
        refine wp_aload_n (pc := 28) dX0_spotOf_28 rfl ?_
        refine wp_getI (pc := 29) dX0_spotOf_29 fl_X0_27 rfl (TX0s_k th) ?_
        refine wp_irem (pc := 32) dX0_spotOf_32 F.1 ?_
        have F := F.2
        refine wp_iload_n (pc := 33) dX0_spotOf_33 rfl ?_
        refine wp_aload_n (pc := 34) dX0_spotOf_34 rfl ?_
        refine wp_getI (pc := 35) dX0_spotOf_35 fl_X0_27 rfl (TX0s_k th) ?_
        refine wp_idiv (pc := 38) dX0_spotOf_38 F.1 ?_
        have F := F.2
        refine csI [.int (x1 - x1 / (mi h 0) * (mi h 0)), .int (x1 / (mi h 0))] [] (pc := 39) dX0_spotOf_39 ml_X0_72 st_X11_spotAt rfl rfl (Nat.le_of_ble_eq_true rfl) (Nat.le_of_ble_eq_true rfl) (wI.mono (fun r4 mi5 ml6 F => ?_) F)
        exact r_I (pc := 42) dX0_spotOf_42 rfl F
      · have F := F.2 c3
        refine wp_iconst (v := -1) (pc := 25) dX0_spotOf_25 (by decide) ?_
        exact r_I (pc := 26) dX0_spotOf_26 rfl F
/-- has(JI)Z -/
theorem w_X11_has {l : Launch} {d : Nat} {kd : pm_K} {mr : pm_R}  {x0 : Int64} {x2 : Int32} {mi : pm_I} {ml : pm_L} {K : Bool → pm_I → pm_L → Prop} 
    (F : ((x2 < 0 → K false mi ml) ∧ (¬ x2 < 0 → ((64 ≤ x2 → K false mi ml) ∧ (¬ 64 ≤ x2 → wL l M_X11_only d [.int x2] kd mr mi ml (fun r3 mi4 ml5 => K (!decide ((lg_cmp (x0 &&& r3) 0) = 0)) mi4 ml5)))))) :
    wB l M_X11_has (d + 1) [.long x0, .int x2] kd mr mi ml K := by
  show wp l M_X11_has (d + 1) 0 0 0 [some (.long x0), none, some (.int x2)] [] 0 0 kd mi ml mr _
  refine wp_iload_n (pc := 0) dX11_has_0 rfl ?_
  refine wp_if_lt (tgt := 25) (pc := 1) dX11_has_1 (by decide) (fun c1 => ?_) (fun c1 => ?_)
  · have F := F.1 c1
    refine wp_iconst (v := 0) (pc := 25) dX11_has_25 (by decide) ?_
    exact r_Bx (pc := 26) dX11_has_26 rfl rfl F
  · have F := F.2 c1
    refine wp_iload_n (pc := 4) dX11_has_4 rfl ?_
    refine wp_bipush (v := 64) (pc := 5) dX11_has_5 (by decide) ?_
    refine wp_icmp_ge (tgt := 25) (pc := 7) dX11_has_7 (by decide) (fun c2 => ?_) (fun c2 => ?_)
    · have F := F.1 c2
      refine wp_iconst (v := 0) (pc := 25) dX11_has_25 (by decide) ?_
      exact r_Bx (pc := 26) dX11_has_26 rfl rfl F
    · have F := F.2 c2
      refine wp_lload_n (pc := 10) dX11_has_10 rfl ?_
      refine wp_iload_n (pc := 11) dX11_has_11 rfl ?_
      refine csL [.int x2] [.long x0] (pc := 12) dX11_has_12 ml_X11_282 st_X11_only rfl rfl (Nat.le_of_ble_eq_true rfl) (Nat.le_of_ble_eq_true rfl) (wL.mono (fun r3 mi4 ml5 F => ?_) F)
      refine wp_land (pc := 15) dX11_has_15 ?_
      refine wp_lconst (v := 0) (pc := 16) dX11_has_16 (by decide) ?_
      refine wp_lcmp (pc := 17) dX11_has_17 ?_
      suffices J6 : ∀ v7 : Int32, v7 = (b2i (!decide ((lg_cmp (x0 &&& r3) 0) = 0))) → wp l M_X11_has (d + 1) 0 0 26 [some (.long x0), none, some (.int x2)] [.int v7] 0 0 kd mi4 ml5 mr _ by
          refine wp_if_eq (tgt := 25) (pc := 18) dX11_has_18 (by decide) (fun c8 => ?_) (fun c8 => ?_)
          · refine wp_iconst (v := 0) (pc := 25) dX11_has_25 (by decide) ?_
            exact J6 _ (by simp only [eq_true c8, if_true, if_false, decide_true, decide_false, Bool.not_true, Bool.not_false, Bool.true_and, Bool.false_and, Bool.true_or, Bool.false_or, b2i_t, b2i_f, ite_true, ite_false, not_true_eq_false, not_false_eq_true, reduceCtorEq, decide_eq_true_eq])
          · refine wp_iconst (v := 1) (pc := 21) dX11_has_21 (by decide) ?_
            refine wp_goto (tgt := 26) (pc := 22) dX11_has_22 (by decide) ?_
            exact J6 _ (by simp only [c8, if_true, if_false, decide_true, decide_false, Bool.not_true, Bool.not_false, Bool.true_and, Bool.false_and, Bool.true_or, Bool.false_or, b2i_t, b2i_f, ite_true, ite_false, not_true_eq_false, not_false_eq_true, reduceCtorEq, decide_eq_true_eq])
      intro v7 ev7
      subst ev7
      exact r_B (pc := 26) dX11_has_26 rfl F
/-- tellOne(II)I -/
theorem w_X0_tellOne {l : Launch} {d : Nat} {kd : pm_K} {mr : pm_R} {h : Nat} {x1 : Int32} {x2 : Int32} {mi : pm_I} {ml : pm_L} {K : Int32 → pm_I → pm_L → Prop} (th : TX0s kd mr h)
    (F : (((x1).toInt < 1 ∨ 5 < (x1).toInt → K (-1) mi ml) ∧ ((x1).toInt = 1 → ((4 ≤ x2 → K (-1) mi ml) ∧ (¬ 4 ≤ x2 → vp_in x2 4 ∧ K (mi (h + 5) (Int32.toNatClampNeg x2)) mi ml))) ∧ ((x1).toInt = 2 → wB l M_X0_hasPlayer d [.ref h, .int x2] kd mr mi ml (fun r3 mi4 ml5 => ((r3 = false → K (-1) mi4 ml5) ∧ (r3 = true → vp_in x2 6 ∧ K (mi4 (h + 1) (Int32.toNatClampNeg x2)) mi4 ml5)))) ∧ ((x1).toInt = 3 → wB l M_X0_hasPlayer d [.ref h, .int x2] kd mr mi ml (fun r7 mi8 ml9 => ((r7 = false → K (-1) mi8 ml9) ∧ (r7 = true → vp_in x2 6 ∧ wI l M_X0_cellOf d [.ref h, .int (mi8 (h + 2) (Int32.toNatClampNeg x2))] kd mr mi8 ml9 (fun r11 mi12 ml13 => K r11 mi12 ml13))))) ∧ ((x1).toInt = 4 → wB l M_X0_hasPerson d [.ref h, .int x2] kd mr mi ml (fun r14 mi15 ml16 => ((r14 = false → K (-1) mi15 ml16) ∧ (r14 = true → vp_in x2 6 ∧ K (mi15 (h + 3) (Int32.toNatClampNeg x2)) mi15 ml16)))) ∧ ((x1).toInt = 5 → wB l M_X0_hasPerson d [.ref h, .int x2] kd mr mi ml (fun r18 mi19 ml20 => ((r18 = false → K (-1) mi19 ml20) ∧ (r18 = true → vp_in x2 6 ∧ wI l M_X0_cellOf d [.ref h, .int (mi19 (h + 4) (Int32.toNatClampNeg x2))] kd mr mi19 ml20 (fun r22 mi23 ml24 => K r22 mi23 ml24))))))) :
    wI l M_X0_tellOne (d + 1) [.ref h, .int x1, .int x2] kd mr mi ml K := by
  show wp l M_X0_tellOne (d + 1) 0 0 0 [some (.ref h), some (.int x1), some (.int x2)] [] 0 0 kd mi ml mr _
  refine wp_iload_n (pc := 0) dX0_tellOne_0 rfl ?_
  by_cases c1 : (x1).toInt < 1 ∨ 5 < (x1).toInt
  · have F := F.1 c1
    refine wp_tableOut (tgt := 136) (pc := 1) dX0_tellOne_1 c1 (by decide) ?_
    refine wp_iconst (v := -1) (pc := 136) dX0_tellOne_136 (by decide) ?_
    exact r_I (pc := 137) dX0_tellOne_137 rfl F
  have c1 : (x1).toInt = 1 ∨ (x1).toInt = 2 ∨ (x1).toInt = 3 ∨ (x1).toInt = 4 ∨ (x1).toInt = 5 := by omega
  have F := F.2
  rcases c1 with c1 | c1 | c1 | c1 | c1
  · have F := F.1 c1
    refine wp_tableIn (tgt := 36) (pc := 1) dX0_tellOne_1 c1 (by decide) (by decide) rfl (by decide) ?_
    refine wp_iload_n (pc := 36) dX0_tellOne_36 rfl ?_
    refine wp_iconst (v := 4) (pc := 37) dX0_tellOne_37 (by decide) ?_
    refine wp_icmp_ge (tgt := 50) (pc := 38) dX0_tellOne_38 (by decide) (fun c2 => ?_) (fun c2 => ?_)
    · have F := F.1 c2
      refine wp_iconst (v := -1) (pc := 50) dX0_tellOne_50 (by decide) ?_
      exact r_I (pc := 51) dX0_tellOne_51 rfl F
    · have F := F.2 c2
      refine wp_aload_n (pc := 41) dX0_tellOne_41 rfl ?_
      refine wp_getR (pc := 42) dX0_tellOne_42 fl_X0_24 rfl (TX0s_k th) (TX0s_r10 th) ?_
      refine wp_iload_n (pc := 45) dX0_tellOne_45 rfl ?_
      refine wp_iald (pc := 46) dX0_tellOne_46 (TX0s_a10 th) F.1 ?_
      have F := F.2
      refine wp_goto (tgt := 51) (pc := 47) dX0_tellOne_47 (by decide) ?_
      exact r_I (pc := 51) dX0_tellOne_51 rfl F
  · have F := F.2.1 c1
    refine wp_tableIn (tgt := 52) (pc := 1) dX0_tellOne_1 c1 (by decide) (by decide) rfl (by decide) ?_
    refine wp_aload_n (pc := 52) dX0_tellOne_52 rfl ?_
    refine wp_iload_n (pc := 53) dX0_tellOne_53 rfl ?_
    refine cvB [.int x2] [] (pc := 54) dX0_tellOne_54 ml_X0_95 iv_X0_hasPlayer (TX0s_k th) (cl_X0 rfl) rfl rfl (Nat.le_of_ble_eq_true rfl) (Nat.le_of_ble_eq_true rfl) (wB.mono (fun r3 mi4 ml5 F => ?_) F)
    refine b_eq (tgt := 69) (pc := 57) dX0_tellOne_57 (by decide) (fun c6 => ?_) (fun c6 => ?_)
    · have F := F.1 c6
      refine wp_iconst (v := -1) (pc := 69) dX0_tellOne_69 (by decide) ?_
      exact r_I (pc := 70) dX0_tellOne_70 rfl F
    · have F := F.2 c6
      refine wp_aload_n (pc := 60) dX0_tellOne_60 rfl ?_
      refine wp_getR (pc := 61) dX0_tellOne_61 fl_X0_9 rfl (TX0s_k th) (TX0s_r6 th) ?_
      refine wp_iload_n (pc := 64) dX0_tellOne_64 rfl ?_
      refine wp_iald (pc := 65) dX0_tellOne_65 (TX0s_a6 th) F.1 ?_
      have F := F.2
      refine wp_goto (tgt := 70) (pc := 66) dX0_tellOne_66 (by decide) ?_
      exact r_I (pc := 70) dX0_tellOne_70 rfl F
  · have F := F.2.2.1 c1
    refine wp_tableIn (tgt := 71) (pc := 1) dX0_tellOne_1 c1 (by decide) (by decide) rfl (by decide) ?_
    refine wp_aload_n (pc := 71) dX0_tellOne_71 rfl ?_
    refine wp_iload_n (pc := 72) dX0_tellOne_72 rfl ?_
    refine cvB [.int x2] [] (pc := 73) dX0_tellOne_73 ml_X0_95 iv_X0_hasPlayer (TX0s_k th) (cl_X0 rfl) rfl rfl (Nat.le_of_ble_eq_true rfl) (Nat.le_of_ble_eq_true rfl) (wB.mono (fun r7 mi8 ml9 F => ?_) F)
    refine b_eq (tgt := 92) (pc := 76) dX0_tellOne_76 (by decide) (fun c10 => ?_) (fun c10 => ?_)
    · have F := F.1 c10
      refine wp_iconst (v := -1) (pc := 92) dX0_tellOne_92 (by decide) ?_
      exact r_I (pc := 93) dX0_tellOne_93 rfl F
    · have F := F.2 c10
      refine wp_aload_n (pc := 79) dX0_tellOne_79 rfl ?_
      refine wp_aload_n (pc := 80) dX0_tellOne_80 rfl ?_
      refine wp_getR (pc := 81) dX0_tellOne_81 fl_X0_15 rfl (TX0s_k th) (TX0s_r7 th) ?_
      refine wp_iload_n (pc := 84) dX0_tellOne_84 rfl ?_
      refine wp_iald (pc := 85) dX0_tellOne_85 (TX0s_a7 th) F.1 ?_
      have F := F.2
      refine cvI [.int (mi8 (h + 2) (Int32.toNatClampNeg x2))] [] (pc := 86) dX0_tellOne_86 ml_X0_99 iv_X0_cellOf (TX0s_k th) (cl_X0 rfl) rfl rfl (Nat.le_of_ble_eq_true rfl) (Nat.le_of_ble_eq_true rfl) (wI.mono (fun r11 mi12 ml13 F => ?_) F)
      refine wp_goto (tgt := 93) (pc := 89) dX0_tellOne_89 (by decide) ?_
      exact r_I (pc := 93) dX0_tellOne_93 rfl F
  · have F := F.2.2.2.1 c1
    refine wp_tableIn (tgt := 94) (pc := 1) dX0_tellOne_1 c1 (by decide) (by decide) rfl (by decide) ?_
    refine wp_aload_n (pc := 94) dX0_tellOne_94 rfl ?_
    refine wp_iload_n (pc := 95) dX0_tellOne_95 rfl ?_
    refine cvB [.int x2] [] (pc := 96) dX0_tellOne_96 ml_X0_102 iv_X0_hasPerson (TX0s_k th) (cl_X0 rfl) rfl rfl (Nat.le_of_ble_eq_true rfl) (Nat.le_of_ble_eq_true rfl) (wB.mono (fun r14 mi15 ml16 F => ?_) F)
    refine b_eq (tgt := 111) (pc := 99) dX0_tellOne_99 (by decide) (fun c17 => ?_) (fun c17 => ?_)
    · have F := F.1 c17
      refine wp_iconst (v := -1) (pc := 111) dX0_tellOne_111 (by decide) ?_
      exact r_I (pc := 112) dX0_tellOne_112 rfl F
    · have F := F.2 c17
      refine wp_aload_n (pc := 102) dX0_tellOne_102 rfl ?_
      refine wp_getR (pc := 103) dX0_tellOne_103 fl_X0_18 rfl (TX0s_k th) (TX0s_r8 th) ?_
      refine wp_iload_n (pc := 106) dX0_tellOne_106 rfl ?_
      refine wp_iald (pc := 107) dX0_tellOne_107 (TX0s_a8 th) F.1 ?_
      have F := F.2
      refine wp_goto (tgt := 112) (pc := 108) dX0_tellOne_108 (by decide) ?_
      exact r_I (pc := 112) dX0_tellOne_112 rfl F
  · have F := F.2.2.2.2 c1
    refine wp_tableIn (tgt := 113) (pc := 1) dX0_tellOne_1 c1 (by decide) (by decide) rfl (by decide) ?_
    refine wp_aload_n (pc := 113) dX0_tellOne_113 rfl ?_
    refine wp_iload_n (pc := 114) dX0_tellOne_114 rfl ?_
    refine cvB [.int x2] [] (pc := 115) dX0_tellOne_115 ml_X0_102 iv_X0_hasPerson (TX0s_k th) (cl_X0 rfl) rfl rfl (Nat.le_of_ble_eq_true rfl) (Nat.le_of_ble_eq_true rfl) (wB.mono (fun r18 mi19 ml20 F => ?_) F)
    refine b_eq (tgt := 134) (pc := 118) dX0_tellOne_118 (by decide) (fun c21 => ?_) (fun c21 => ?_)
    · have F := F.1 c21
      refine wp_iconst (v := -1) (pc := 134) dX0_tellOne_134 (by decide) ?_
      exact r_I (pc := 135) dX0_tellOne_135 rfl F
    · have F := F.2 c21
      refine wp_aload_n (pc := 121) dX0_tellOne_121 rfl ?_
      refine wp_aload_n (pc := 122) dX0_tellOne_122 rfl ?_
      refine wp_getR (pc := 123) dX0_tellOne_123 fl_X0_21 rfl (TX0s_k th) (TX0s_r9 th) ?_
      refine wp_iload_n (pc := 126) dX0_tellOne_126 rfl ?_
      refine wp_iald (pc := 127) dX0_tellOne_127 (TX0s_a9 th) F.1 ?_
      have F := F.2
      refine cvI [.int (mi19 (h + 4) (Int32.toNatClampNeg x2))] [] (pc := 128) dX0_tellOne_128 ml_X0_99 iv_X0_cellOf (TX0s_k th) (cl_X0 rfl) rfl rfl (Nat.le_of_ble_eq_true rfl) (Nat.le_of_ble_eq_true rfl) (wI.mono (fun r22 mi23 ml24 F => ?_) F)
      refine wp_goto (tgt := 135) (pc := 131) dX0_tellOne_131 (by decide) ?_
      exact r_I (pc := 135) dX0_tellOne_135 rfl F
/-- hasPlayer(I)Z -/
theorem w_X0_hasPlayer {l : Launch} {d : Nat} {kd : pm_K} {mr : pm_R} {h : Nat} {x1 : Int32} {mi : pm_I} {ml : pm_L} {K : Bool → pm_I → pm_L → Prop} (th : TX0s kd mr h)
    (F : K (!decide (x1 < 0) && (!decide ((mi h 4) ≤ x1) && (!decide (6 ≤ x1)))) mi ml) :
    wB l M_X0_hasPlayer d [.ref h, .int x1] kd mr mi ml K := by
  show wp l M_X0_hasPlayer d 0 0 0 [some (.ref h), some (.int x1)] [] 0 0 kd mi ml mr _
  refine wp_iload_n (pc := 0) dX0_hasPlayer_0 rfl ?_
  suffices J1 : ∀ v2 : Int32, v2 = (b2i (!decide (x1 < 0) && (!decide ((mi h 4) ≤ x1) && (!decide (6 ≤ x1))))) → wp l M_X0_hasPlayer d 0 0 23 [some (.ref h), some (.int x1)] [.int v2] 0 0 kd mi ml mr _ by
      refine wp_if_lt (tgt := 22) (pc := 1) dX0_hasPlayer_1 (by decide) (fun c3 => ?_) (fun c3 => ?_)
      · refine wp_iconst (v := 0) (pc := 22) dX0_hasPlayer_22 (by decide) ?_
        exact J1 _ (by simp only [eq_true c3, if_true, if_false, decide_true, decide_false, Bool.not_true, Bool.not_false, Bool.true_and, Bool.false_and, Bool.true_or, Bool.false_or, b2i_t, b2i_f, ite_true, ite_false, not_true_eq_false, not_false_eq_true, reduceCtorEq, decide_eq_true_eq])
      · refine wp_iload_n (pc := 4) dX0_hasPlayer_4 rfl ?_
        refine wp_aload_n (pc := 5) dX0_hasPlayer_5 rfl ?_
        refine wp_getI (pc := 6) dX0_hasPlayer_6 fl_X0_41 rfl (TX0s_k th) ?_
        refine wp_icmp_ge (tgt := 22) (pc := 9) dX0_hasPlayer_9 (by decide) (fun c4 => ?_) (fun c4 => ?_)
        · refine wp_iconst (v := 0) (pc := 22) dX0_hasPlayer_22 (by decide) ?_
          exact J1 _ (by simp only [c3, eq_true c4, if_true, if_false, decide_true, decide_false, Bool.not_true, Bool.not_false, Bool.true_and, Bool.false_and, Bool.true_or, Bool.false_or, b2i_t, b2i_f, ite_true, ite_false, not_true_eq_false, not_false_eq_true, reduceCtorEq, decide_eq_true_eq])
        · refine wp_iload_n (pc := 12) dX0_hasPlayer_12 rfl ?_
          refine wp_bipush (v := 6) (pc := 13) dX0_hasPlayer_13 (by decide) ?_
          refine wp_icmp_ge (tgt := 22) (pc := 15) dX0_hasPlayer_15 (by decide) (fun c5 => ?_) (fun c5 => ?_)
          · refine wp_iconst (v := 0) (pc := 22) dX0_hasPlayer_22 (by decide) ?_
            exact J1 _ (by simp only [c3, c4, eq_true c5, if_true, if_false, decide_true, decide_false, Bool.not_true, Bool.not_false, Bool.true_and, Bool.false_and, Bool.true_or, Bool.false_or, b2i_t, b2i_f, ite_true, ite_false, not_true_eq_false, not_false_eq_true, reduceCtorEq, decide_eq_true_eq])
          · refine wp_iconst (v := 1) (pc := 18) dX0_hasPlayer_18 (by decide) ?_
            refine wp_goto (tgt := 23) (pc := 19) dX0_hasPlayer_19 (by decide) ?_
            exact J1 _ (by simp only [c3, c4, c5, if_true, if_false, decide_true, decide_false, Bool.not_true, Bool.not_false, Bool.true_and, Bool.false_and, Bool.true_or, Bool.false_or, b2i_t, b2i_f, ite_true, ite_false, not_true_eq_false, not_false_eq_true, reduceCtorEq, decide_eq_true_eq])
  intro v2 ev2
  subst ev2
  exact r_B (pc := 23) dX0_hasPlayer_23 rfl F
/-- cellOf(I)I -/
theorem w_X0_cellOf {l : Launch} {d : Nat} {kd : pm_K} {mr : pm_R} {h : Nat} {x1 : Int32} {mi : pm_I} {ml : pm_L} {K : Int32 → pm_I → pm_L → Prop} (th : TX0s kd mr h)
    (F : K (((mi h 0) * (x1 / 8)) + (x1 - x1 / 8 * 8)) mi ml) :
    wI l M_X0_cellOf d [.ref h, .int x1] kd mr mi ml K := by
  show wp l M_X0_cellOf d 0 0 0 [some (.ref h), some (.int x1)] [] 0 0 kd mi ml mr _
  refine wp_aload_n (pc := 0) dX0_cellOf_0 rfl ?_
  refine wp_getI (pc := 1) dX0_cellOf_1 fl_X0_27 rfl (TX0s_k th) ?_
  refine wp_iload_n (pc := 4) dX0_cellOf_4 rfl ?_
  refine wp_bipush (v := 8) (pc := 5) dX0_cellOf_5 (by decide) ?_
  refine wp_idiv (pc := 7) dX0_cellOf_7 (by decide) ?_
  refine wp_imul (pc := 8) dX0_cellOf_8 ?_
  refine wp_iload_n (pc := 9) dX0_cellOf_9 rfl ?_
  refine wp_bipush (v := 8) (pc := 10) dX0_cellOf_10 (by decide) ?_
  refine wp_irem (pc := 12) dX0_cellOf_12 (by decide) ?_
  refine wp_iadd (pc := 13) dX0_cellOf_13 ?_
  exact r_I (pc := 14) dX0_cellOf_14 rfl F
/-- hasPerson(I)Z -/
theorem w_X0_hasPerson {l : Launch} {d : Nat} {kd : pm_K} {mr : pm_R} {h : Nat} {x1 : Int32} {mi : pm_I} {ml : pm_L} {K : Bool → pm_I → pm_L → Prop} (th : TX0s kd mr h)
    (F : K (!decide (x1 < 0) && (!decide ((mi h 5) ≤ x1) && (!decide (6 ≤ x1)))) mi ml) :
    wB l M_X0_hasPerson d [.ref h, .int x1] kd mr mi ml K := by
  show wp l M_X0_hasPerson d 0 0 0 [some (.ref h), some (.int x1)] [] 0 0 kd mi ml mr _
  refine wp_iload_n (pc := 0) dX0_hasPerson_0 rfl ?_
  suffices J1 : ∀ v2 : Int32, v2 = (b2i (!decide (x1 < 0) && (!decide ((mi h 5) ≤ x1) && (!decide (6 ≤ x1))))) → wp l M_X0_hasPerson d 0 0 23 [some (.ref h), some (.int x1)] [.int v2] 0 0 kd mi ml mr _ by
      refine wp_if_lt (tgt := 22) (pc := 1) dX0_hasPerson_1 (by decide) (fun c3 => ?_) (fun c3 => ?_)
      · refine wp_iconst (v := 0) (pc := 22) dX0_hasPerson_22 (by decide) ?_
        exact J1 _ (by simp only [eq_true c3, if_true, if_false, decide_true, decide_false, Bool.not_true, Bool.not_false, Bool.true_and, Bool.false_and, Bool.true_or, Bool.false_or, b2i_t, b2i_f, ite_true, ite_false, not_true_eq_false, not_false_eq_true, reduceCtorEq, decide_eq_true_eq])
      · refine wp_iload_n (pc := 4) dX0_hasPerson_4 rfl ?_
        refine wp_aload_n (pc := 5) dX0_hasPerson_5 rfl ?_
        refine wp_getI (pc := 6) dX0_hasPerson_6 fl_X0_44 rfl (TX0s_k th) ?_
        refine wp_icmp_ge (tgt := 22) (pc := 9) dX0_hasPerson_9 (by decide) (fun c4 => ?_) (fun c4 => ?_)
        · refine wp_iconst (v := 0) (pc := 22) dX0_hasPerson_22 (by decide) ?_
          exact J1 _ (by simp only [c3, eq_true c4, if_true, if_false, decide_true, decide_false, Bool.not_true, Bool.not_false, Bool.true_and, Bool.false_and, Bool.true_or, Bool.false_or, b2i_t, b2i_f, ite_true, ite_false, not_true_eq_false, not_false_eq_true, reduceCtorEq, decide_eq_true_eq])
        · refine wp_iload_n (pc := 12) dX0_hasPerson_12 rfl ?_
          refine wp_bipush (v := 6) (pc := 13) dX0_hasPerson_13 (by decide) ?_
          refine wp_icmp_ge (tgt := 22) (pc := 15) dX0_hasPerson_15 (by decide) (fun c5 => ?_) (fun c5 => ?_)
          · refine wp_iconst (v := 0) (pc := 22) dX0_hasPerson_22 (by decide) ?_
            exact J1 _ (by simp only [c3, c4, eq_true c5, if_true, if_false, decide_true, decide_false, Bool.not_true, Bool.not_false, Bool.true_and, Bool.false_and, Bool.true_or, Bool.false_or, b2i_t, b2i_f, ite_true, ite_false, not_true_eq_false, not_false_eq_true, reduceCtorEq, decide_eq_true_eq])
          · refine wp_iconst (v := 1) (pc := 18) dX0_hasPerson_18 (by decide) ?_
            refine wp_goto (tgt := 23) (pc := 19) dX0_hasPerson_19 (by decide) ?_
            exact J1 _ (by simp only [c3, c4, c5, if_true, if_false, decide_true, decide_false, Bool.not_true, Bool.not_false, Bool.true_and, Bool.false_and, Bool.true_or, Bool.false_or, b2i_t, b2i_f, ite_true, ite_false, not_true_eq_false, not_false_eq_true, reduceCtorEq, decide_eq_true_eq])
  intro v2 ev2
  subst ev2
  exact r_B (pc := 23) dX0_hasPerson_23 rfl F
/-- deed(III)I -/
theorem w_X11_deed {l : Launch} {d : Nat} {kd : pm_K} {mr : pm_R} {h : Nat} {x1 : Int32} {x2 : Int32} {x3 : Int32} {mi : pm_I} {ml : pm_L} {K : Int32 → pm_I → pm_L → Prop} (th : TX11s kd mr h)
    (F : wR l M_X9_nightAt d [.ref (h + 1), .int x1] kd mr mi ml (fun r1 mi2 ml3 => ((r1 = none → K (-2) mi2 ml3) ∧ (∀ b4, r1 = some b4 → TX6s kd mr b4 ∧ wI l M_X6_tell d [.ref b4, .int x2, .int x3] kd mr mi2 ml3 (fun r5 mi6 ml7 => K r5 mi6 ml7))))) :
    wI l M_X11_deed (d + 1) [.ref h, .int x1, .int x2, .int x3] kd mr mi ml K := by
  show wp l M_X11_deed (d + 1) 0 0 0 [some (.ref h), some (.int x1), some (.int x2), some (.int x3), none] [] 0 0 kd mi ml mr _
  refine wp_aload_n (pc := 0) dX11_deed_0 rfl ?_
  refine wp_getR (pc := 1) dX11_deed_1 fl_X11_10 rfl (TX11s_k th) (TX11s_r0 th) ?_
  refine wp_iload_n (pc := 4) dX11_deed_4 rfl ?_
  refine cvR [.int x1] [] (pc := 5) dX11_deed_5 ml_X11_118 iv_X9_nightAt (TX9s_k (TX11s_a0 th)) (cl_X9 rfl) rfl rfl (Nat.le_of_ble_eq_true rfl) (Nat.le_of_ble_eq_true rfl) (wR.mono (fun r1 mi2 ml3 F => ?_) F)
  cases r1 with
  | none =>
      have F := F.1 rfl
      show wp l M_X11_deed (d + 1) 0 0 _ _ (.null :: _) 0 0 kd _ _ mr _
      refine wp_astoreN (pc := 8) dX11_deed_8 (Nat.le_of_ble_eq_true rfl) rfl ?_
      show wp l M_X11_deed (d + 1) 0 0 _ [some (.ref h), some (.int x1), some (.int x2), some (.int x3), some (.null)] _ 0 0 kd _ _ mr _
      refine wp_aloadN (pc := 10) dX11_deed_10 rfl ?_
      refine wp_ifnonnullN (pc := 12) dX11_deed_12 ?_
      refine wp_bipush (v := -2) (pc := 15) dX11_deed_15 (by decide) ?_
      refine wp_goto (tgt := 27) (pc := 17) dX11_deed_17 (by decide) ?_
      exact r_I (pc := 27) dX11_deed_27 rfl F
  | some b4 =>
      obtain ⟨tb4, F⟩ := F.2 b4 rfl
      show wp l M_X11_deed (d + 1) 0 0 _ _ (.ref b4 :: _) 0 0 kd _ _ mr _
      refine wp_astore (pc := 8) dX11_deed_8 (Nat.le_of_ble_eq_true rfl) rfl ?_
      show wp l M_X11_deed (d + 1) 0 0 _ [some (.ref h), some (.int x1), some (.int x2), some (.int x3), some (.ref b4)] _ 0 0 kd _ _ mr _
      refine wp_aload (pc := 10) dX11_deed_10 rfl ?_
      refine wp_ifnonnull (tgt := 20) (pc := 12) dX11_deed_12 (by decide) ?_
      refine wp_aload (pc := 20) dX11_deed_20 rfl ?_
      refine wp_iload_n (pc := 22) dX11_deed_22 rfl ?_
      refine wp_iload_n (pc := 23) dX11_deed_23 rfl ?_
      refine cvI [.int x2, .int x3] [] (pc := 24) dX11_deed_24 ml_X11_122 iv_X6_tell (TX6s_k tb4) (cl_X6 rfl) rfl rfl (Nat.le_of_ble_eq_true rfl) (Nat.le_of_ble_eq_true rfl) (wI.mono (fun r5 mi6 ml7 F => ?_) F)
      exact r_I (pc := 27) dX11_deed_27 rfl F
/-- nightAt(I)LCityChords$Rows; -/
theorem w_X9_nightAt {l : Launch} {d : Nat} {kd : pm_K} {mr : pm_R} {h : Nat} {x1 : Int32} {mi : pm_I} {ml : pm_L} {K : Option Nat → pm_I → pm_L → Prop} (th : TX9s kd mr h)
    (F : wB l M_X9_hasOne d [.ref h, .int 1, .int x1] kd mr mi ml (fun r1 mi2 ml3 => ((r1 = false → K none mi2 ml3) ∧ (r1 = true → vp_in x1 2 ∧ ∃ b5, mr (h + 4) (Int32.toNatClampNeg x1) = some b5 ∧ TX6s kd mr b5 ∧ K (some b5) mi2 ml3)))) :
    wR l M_X9_nightAt (d + 1) [.ref h, .int x1] kd mr mi ml K := by
  show wp l M_X9_nightAt (d + 1) 0 0 0 [some (.ref h), some (.int x1)] [] 0 0 kd mi ml mr _
  refine wp_aload_n (pc := 0) dX9_nightAt_0 rfl ?_
  refine wp_iconst (v := 1) (pc := 1) dX9_nightAt_1 (by decide) ?_
  refine wp_iload_n (pc := 2) dX9_nightAt_2 rfl ?_
  refine cvB [.int 1, .int x1] [] (pc := 3) dX9_nightAt_3 ml_X9_69 iv_X9_hasOne (TX9s_k th) (cl_X9 rfl) rfl rfl (Nat.le_of_ble_eq_true rfl) (Nat.le_of_ble_eq_true rfl) (wB.mono (fun r1 mi2 ml3 F => ?_) F)
  refine b_eq (tgt := 18) (pc := 6) dX9_nightAt_6 (by decide) (fun c4 => ?_) (fun c4 => ?_)
  · have F := F.1 c4
    refine wp_null (pc := 18) dX9_nightAt_18 ?_
    exact r_N (pc := 19) dX9_nightAt_19 rfl (Or.inl ⟨_, rfl⟩) F
  · have F := F.2 c4
    refine wp_aload_n (pc := 9) dX9_nightAt_9 rfl ?_
    refine wp_getR (pc := 10) dX9_nightAt_10 fl_X9_31 rfl (TX9s_k th) (TX9s_r6 th) ?_
    refine wp_iload_n (pc := 13) dX9_nightAt_13 rfl ?_
    obtain ⟨F1, b5, hb5, tb5, F⟩ := F
    refine wp_aald (t := 1) (pc := 14) dX9_nightAt_14 (by decide) (TX9s_a6 th) F1 hb5 ?_
    refine wp_goto (tgt := 19) (pc := 15) dX9_nightAt_15 (by decide) ?_
    exact r_R (pc := 19) dX9_nightAt_19 rfl (Or.inl ⟨_, rfl⟩) F
/-- tell(II)I -/
theorem w_X6_tell {l : Launch} {d : Nat} {kd : pm_K} {mr : pm_R} {h : Nat} {x1 : Int32} {x2 : Int32} {mi : pm_I} {ml : pm_L} {K : Int32 → pm_I → pm_L → Prop} (th : TX6s kd mr h)
    (F : ((¬ x1 = (-1) → ((x1 < 0 → K (-2) mi ml) ∧ (¬ x1 < 0 → ((x1 < (mi h 3) → (((x2).toInt < 0 ∨ 2 < (x2).toInt → K (-2) mi ml) ∧ ((x2).toInt = 0 → vp_in x1 40 ∧ K (mi (h + 1) (Int32.toNatClampNeg x1)) mi ml) ∧ ((x2).toInt = 1 → vp_in x1 40 ∧ K (mi (h + 2) (Int32.toNatClampNeg x1)) mi ml) ∧ ((x2).toInt = 2 → vp_in x1 40 ∧ K (mi (h + 3) (Int32.toNatClampNeg x1)) mi ml))) ∧ (¬ x1 < (mi h 3) → K (-2) mi ml))))) ∧ (x1 = (-1) → K (if x2 = 0 then (mi h 3) else ((-2) : Int32)) mi ml))) :
    wI l M_X6_tell d [.ref h, .int x1, .int x2] kd mr mi ml K := by
  show wp l M_X6_tell d 0 0 0 [some (.ref h), some (.int x1), some (.int x2)] [] 0 0 kd mi ml mr _
  refine wp_iload_n (pc := 0) dX6_tell_0 rfl ?_
  refine wp_iconst (v := -1) (pc := 1) dX6_tell_1 (by decide) ?_
  refine wp_icmp_ne (tgt := 19) (pc := 2) dX6_tell_2 (by decide) (fun c1 => ?_) (fun c1 => ?_)
  · have F := F.1 c1
    refine wp_iload_n (pc := 19) dX6_tell_19 rfl ?_
    refine wp_if_lt (tgt := 31) (pc := 20) dX6_tell_20 (by decide) (fun c2 => ?_) (fun c2 => ?_)
    · have F := F.1 c2
      refine wp_bipush (v := -2) (pc := 31) dX6_tell_31 (by decide) ?_
      exact r_I (pc := 33) dX6_tell_33 rfl F
    · have F := F.2 c2
      refine wp_iload_n (pc := 23) dX6_tell_23 rfl ?_
      refine wp_aload_n (pc := 24) dX6_tell_24 rfl ?_
      refine wp_getI (pc := 25) dX6_tell_25 fl_X6_21 rfl (TX6s_k th) ?_
      refine wp_icmp_lt (tgt := 34) (pc := 28) dX6_tell_28 (by decide) (fun c3 => ?_) (fun c3 => ?_)
      · have F := F.1 c3
        refine wp_iload_n (pc := 34) dX6_tell_34 rfl ?_
        by_cases c4 : (x2).toInt < 0 ∨ 2 < (x2).toInt
        · have F := F.1 c4
          refine wp_tableOut (tgt := 81) (pc := 35) dX6_tell_35 c4 (by decide) ?_
          refine wp_bipush (v := -2) (pc := 81) dX6_tell_81 (by decide) ?_
          exact r_I (pc := 83) dX6_tell_83 rfl F
        have c4 : (x2).toInt = 0 ∨ (x2).toInt = 1 ∨ (x2).toInt = 2 := by omega
        have F := F.2
        rcases c4 with c4 | c4 | c4
        · have F := F.1 c4
          refine wp_tableIn (tgt := 60) (pc := 35) dX6_tell_35 c4 (by decide) (by decide) rfl (by decide) ?_
          refine wp_aload_n (pc := 60) dX6_tell_60 rfl ?_
          refine wp_getR (pc := 61) dX6_tell_61 fl_X6_9 rfl (TX6s_k th) (TX6s_r0 th) ?_
          refine wp_iload_n (pc := 64) dX6_tell_64 rfl ?_
          refine wp_iald (pc := 65) dX6_tell_65 (TX6s_a0 th) F.1 ?_
          have F := F.2
          exact r_I (pc := 66) dX6_tell_66 rfl F
        · have F := F.2.1 c4
          refine wp_tableIn (tgt := 67) (pc := 35) dX6_tell_35 c4 (by decide) (by decide) rfl (by decide) ?_
          refine wp_aload_n (pc := 67) dX6_tell_67 rfl ?_
          refine wp_getR (pc := 68) dX6_tell_68 fl_X6_15 rfl (TX6s_k th) (TX6s_r1 th) ?_
          refine wp_iload_n (pc := 71) dX6_tell_71 rfl ?_
          refine wp_iald (pc := 72) dX6_tell_72 (TX6s_a1 th) F.1 ?_
          have F := F.2
          exact r_I (pc := 73) dX6_tell_73 rfl F
        · have F := F.2.2 c4
          refine wp_tableIn (tgt := 74) (pc := 35) dX6_tell_35 c4 (by decide) (by decide) rfl (by decide) ?_
          refine wp_aload_n (pc := 74) dX6_tell_74 rfl ?_
          refine wp_getR (pc := 75) dX6_tell_75 fl_X6_18 rfl (TX6s_k th) (TX6s_r2 th) ?_
          refine wp_iload_n (pc := 78) dX6_tell_78 rfl ?_
          refine wp_iald (pc := 79) dX6_tell_79 (TX6s_a2 th) F.1 ?_
          have F := F.2
          exact r_I (pc := 80) dX6_tell_80 rfl F
      · have F := F.2 c3
        refine wp_bipush (v := -2) (pc := 31) dX6_tell_31 (by decide) ?_
        exact r_I (pc := 33) dX6_tell_33 rfl F
  · have F := F.2 c1
    refine wp_iload_n (pc := 5) dX6_tell_5 rfl ?_
    suffices J5 : ∀ v6 : Int32, v6 = (if x2 = 0 then (mi h 3) else ((-2) : Int32)) → wp l M_X6_tell d 0 0 18 [some (.ref h), some (.int x1), some (.int x2)] [.int v6] 0 0 kd mi ml mr _ by
        refine wp_if_ne (tgt := 16) (pc := 6) dX6_tell_6 (by decide) (fun c7 => ?_) (fun c7 => ?_)
        · refine wp_bipush (v := -2) (pc := 16) dX6_tell_16 (by decide) ?_
          exact J5 _ (by simp only [c7, if_true, if_false, decide_true, decide_false, Bool.not_true, Bool.not_false, Bool.true_and, Bool.false_and, Bool.true_or, Bool.false_or, b2i_t, b2i_f, ite_true, ite_false, not_true_eq_false, not_false_eq_true, reduceCtorEq, decide_eq_true_eq])
        · refine wp_aload_n (pc := 9) dX6_tell_9 rfl ?_
          refine wp_getI (pc := 10) dX6_tell_10 fl_X6_21 rfl (TX6s_k th) ?_
          refine wp_goto (tgt := 18) (pc := 13) dX6_tell_13 (by decide) ?_
          exact J5 _ (by simp only [eq_true c7, if_true, if_false, decide_true, decide_false, Bool.not_true, Bool.not_false, Bool.true_and, Bool.false_and, Bool.true_or, Bool.false_or, b2i_t, b2i_f, ite_true, ite_false, not_true_eq_false, not_false_eq_true, reduceCtorEq, decide_eq_true_eq])
    intro v6 ev6
    subst ev6
    exact r_I (pc := 18) dX6_tell_18 rfl F
/-- stop(II)I -/
theorem w_X11_stop {l : Launch} {d : Nat} {kd : pm_K} {mr : pm_R} {h : Nat} {x1 : Int32} {x2 : Int32} {mi : pm_I} {ml : pm_L} {K : Int32 → pm_I → pm_L → Prop} (th : TX11s kd mr h)
    (F : wR l M_X9_cityAt d [.ref (h + 1), .int x1] kd mr mi ml (fun r1 mi2 ml3 => ((r1 = none → wR l M_X9_nightAt d [.ref (h + 1), .int x2] kd mr mi2 ml3 (fun r5 mi6 ml7 => ((r5 = none → K (-1) mi6 ml7) ∧ (∀ b8, r5 = some b8 → TX6s kd mr b8 ∧ K (-1) mi6 ml7)))) ∧ (∀ b4, r1 = some b4 → TX0s kd mr b4 ∧ wR l M_X9_nightAt d [.ref (h + 1), .int x2] kd mr mi2 ml3 (fun r9 mi10 ml11 => ((r9 = none → K (-1) mi10 ml11) ∧ (∀ b12, r9 = some b12 → TX6s kd mr b12 ∧ wI l M_X3_playNight d [.ref (h + 208), .ref b4, .ref b12, .int (mi10 b12 3)] kd mr mi10 ml11 (fun r13 mi14 ml15 => K r13 mi14 ml15)))))))) :
    wI l M_X11_stop (d + 1) [.ref h, .int x1, .int x2] kd mr mi ml K := by
  show wp l M_X11_stop (d + 1) 0 0 0 [some (.ref h), some (.int x1), some (.int x2), none, none] [] 0 0 kd mi ml mr _
  refine wp_aload_n (pc := 0) dX11_stop_0 rfl ?_
  refine wp_getR (pc := 1) dX11_stop_1 fl_X11_10 rfl (TX11s_k th) (TX11s_r0 th) ?_
  refine wp_iload_n (pc := 4) dX11_stop_4 rfl ?_
  refine cvR [.int x1] [] (pc := 5) dX11_stop_5 ml_X11_109 iv_X9_cityAt (TX9s_k (TX11s_a0 th)) (cl_X9 rfl) rfl rfl (Nat.le_of_ble_eq_true rfl) (Nat.le_of_ble_eq_true rfl) (wR.mono (fun r1 mi2 ml3 F => ?_) F)
  cases r1 with
  | none =>
      have F := F.1 rfl
      show wp l M_X11_stop (d + 1) 0 0 _ _ (.null :: _) 0 0 kd _ _ mr _
      refine wp_astore_nN (pc := 8) dX11_stop_8 (Nat.le_of_ble_eq_true rfl) rfl ?_
      show wp l M_X11_stop (d + 1) 0 0 _ [some (.ref h), some (.int x1), some (.int x2), some (.null), none] _ 0 0 kd _ _ mr _
      refine wp_aload_n (pc := 9) dX11_stop_9 rfl ?_
      refine wp_getR (pc := 10) dX11_stop_10 fl_X11_10 rfl (TX11s_k th) (TX11s_r0 th) ?_
      refine wp_iload_n (pc := 13) dX11_stop_13 rfl ?_
      refine cvR [.int x2] [] (pc := 14) dX11_stop_14 ml_X11_118 iv_X9_nightAt (TX9s_k (TX11s_a0 th)) (cl_X9 rfl) rfl rfl (Nat.le_of_ble_eq_true rfl) (Nat.le_of_ble_eq_true rfl) (wR.mono (fun r5 mi6 ml7 F => ?_) F)
      cases r5 with
      | none =>
          have F := F.1 rfl
          show wp l M_X11_stop (d + 1) 0 0 _ _ (.null :: _) 0 0 kd _ _ mr _
          refine wp_astoreN (pc := 17) dX11_stop_17 (Nat.le_of_ble_eq_true rfl) rfl ?_
          show wp l M_X11_stop (d + 1) 0 0 _ [some (.ref h), some (.int x1), some (.int x2), some (.null), some (.null)] _ 0 0 kd _ _ mr _
          refine wp_aload_nN (pc := 19) dX11_stop_19 rfl ?_
          refine wp_ifnullN (tgt := 28) (pc := 20) dX11_stop_20 (by decide) ?_
          refine wp_iconst (v := -1) (pc := 28) dX11_stop_28 (by decide) ?_
          exact r_I (pc := 29) dX11_stop_29 rfl F
      | some b8 =>
          obtain ⟨tb8, F⟩ := F.2 b8 rfl
          show wp l M_X11_stop (d + 1) 0 0 _ _ (.ref b8 :: _) 0 0 kd _ _ mr _
          refine wp_astore (pc := 17) dX11_stop_17 (Nat.le_of_ble_eq_true rfl) rfl ?_
          show wp l M_X11_stop (d + 1) 0 0 _ [some (.ref h), some (.int x1), some (.int x2), some (.null), some (.ref b8)] _ 0 0 kd _ _ mr _
          refine wp_aload_nN (pc := 19) dX11_stop_19 rfl ?_
          refine wp_ifnullN (tgt := 28) (pc := 20) dX11_stop_20 (by decide) ?_
          refine wp_iconst (v := -1) (pc := 28) dX11_stop_28 (by decide) ?_
          exact r_I (pc := 29) dX11_stop_29 rfl F
  | some b4 =>
      obtain ⟨tb4, F⟩ := F.2 b4 rfl
      show wp l M_X11_stop (d + 1) 0 0 _ _ (.ref b4 :: _) 0 0 kd _ _ mr _
      refine wp_astore_n (pc := 8) dX11_stop_8 (Nat.le_of_ble_eq_true rfl) rfl ?_
      show wp l M_X11_stop (d + 1) 0 0 _ [some (.ref h), some (.int x1), some (.int x2), some (.ref b4), none] _ 0 0 kd _ _ mr _
      refine wp_aload_n (pc := 9) dX11_stop_9 rfl ?_
      refine wp_getR (pc := 10) dX11_stop_10 fl_X11_10 rfl (TX11s_k th) (TX11s_r0 th) ?_
      refine wp_iload_n (pc := 13) dX11_stop_13 rfl ?_
      refine cvR [.int x2] [] (pc := 14) dX11_stop_14 ml_X11_118 iv_X9_nightAt (TX9s_k (TX11s_a0 th)) (cl_X9 rfl) rfl rfl (Nat.le_of_ble_eq_true rfl) (Nat.le_of_ble_eq_true rfl) (wR.mono (fun r9 mi10 ml11 F => ?_) F)
      cases r9 with
      | none =>
          have F := F.1 rfl
          show wp l M_X11_stop (d + 1) 0 0 _ _ (.null :: _) 0 0 kd _ _ mr _
          refine wp_astoreN (pc := 17) dX11_stop_17 (Nat.le_of_ble_eq_true rfl) rfl ?_
          show wp l M_X11_stop (d + 1) 0 0 _ [some (.ref h), some (.int x1), some (.int x2), some (.ref b4), some (.null)] _ 0 0 kd _ _ mr _
          refine wp_aload_n (pc := 19) dX11_stop_19 rfl ?_
          refine wp_ifnull (pc := 20) dX11_stop_20 ?_
          refine wp_aloadN (pc := 23) dX11_stop_23 rfl ?_
          refine wp_ifnonnullN (pc := 25) dX11_stop_25 ?_
          refine wp_iconst (v := -1) (pc := 28) dX11_stop_28 (by decide) ?_
          exact r_I (pc := 29) dX11_stop_29 rfl F
      | some b12 =>
          obtain ⟨tb12, F⟩ := F.2 b12 rfl
          show wp l M_X11_stop (d + 1) 0 0 _ _ (.ref b12 :: _) 0 0 kd _ _ mr _
          refine wp_astore (pc := 17) dX11_stop_17 (Nat.le_of_ble_eq_true rfl) rfl ?_
          show wp l M_X11_stop (d + 1) 0 0 _ [some (.ref h), some (.int x1), some (.int x2), some (.ref b4), some (.ref b12)] _ 0 0 kd _ _ mr _
          refine wp_aload_n (pc := 19) dX11_stop_19 rfl ?_
          refine wp_ifnull (pc := 20) dX11_stop_20 ?_
          refine wp_aload (pc := 23) dX11_stop_23 rfl ?_
          refine wp_ifnonnull (tgt := 30) (pc := 25) dX11_stop_25 (by decide) ?_
          refine wp_aload_n (pc := 30) dX11_stop_30 rfl ?_
          refine wp_getR (pc := 31) dX11_stop_31 fl_X11_48 rfl (TX11s_k th) (TX11s_r6 th) ?_
          refine wp_aload_n (pc := 34) dX11_stop_34 rfl ?_
          refine wp_aload (pc := 35) dX11_stop_35 rfl ?_
          refine wp_aload (pc := 37) dX11_stop_37 rfl ?_
          refine wp_getI (pc := 39) dX11_stop_39 fl_X11_127 rfl (TX6s_k tb12) ?_
          refine cvI [.ref b4, .ref b12, .int (mi10 b12 3)] [] (pc := 42) dX11_stop_42 ml_X11_130 iv_X3_playNight (TX3s_k (TX11s_a6 th)) (cl_X3 rfl) rfl rfl (Nat.le_of_ble_eq_true rfl) (Nat.le_of_ble_eq_true rfl) (wI.mono (fun r13 mi14 ml15 F => ?_) F)
          exact r_I (pc := 45) dX11_stop_45 rfl F
/-- open()J -/
theorem w_X0_open {l : Launch} {d : Nat} {kd : pm_K} {mr : pm_R} {h : Nat}  {mi : pm_I} {ml : pm_L} {K : Int64 → pm_I → pm_L → Prop} (th : TX0s kd mr h)
    (F : wL l M_X0_inside d [.ref h] kd mr mi ml (fun r1 mi2 ml3 => K (r1 &&& ((ml3 h 3) ^^^ (-1))) mi2 ml3)) :
    wL l M_X0_open (d + 1) [.ref h] kd mr mi ml K := by
  show wp l M_X0_open (d + 1) 0 0 0 [some (.ref h)] [] 0 0 kd mi ml mr _
  refine wp_aload_n (pc := 0) dX0_open_0 rfl ?_
  refine cvL [] [] (pc := 1) dX0_open_1 ml_X0_66 iv_X0_inside (TX0s_k th) (cl_X0 rfl) rfl rfl (Nat.le_of_ble_eq_true rfl) (Nat.le_of_ble_eq_true rfl) (wL.mono (fun r1 mi2 ml3 F => ?_) F)
  refine wp_aload_n (pc := 4) dX0_open_4 rfl ?_
  refine wp_getL (pc := 5) dX0_open_5 fl_X0_37 rfl (TX0s_k th) ?_
  refine wp_ldc2 (v := -1) (pc := 8) dX0_open_8 (tb_4 34 rfl rfl) ?_
  refine wp_lxor (pc := 11) dX0_open_11 ?_
  refine wp_land (pc := 12) dX0_open_12 ?_
  exact r_L (pc := 13) dX0_open_13 rfl F
/-- nextSpot(IIJ)I -/
theorem w_X11_nextSpot {l : Launch} {d : Nat} {kd : pm_K} {mr : pm_R}  {x0 : Int32} {x1 : Int32} {x2 : Int64} {mi : pm_I} {ml : pm_L} {K : Int32 → pm_I → pm_L → Prop} 
    (F : wL l M_X11_only d [.int x0] kd mr mi ml (fun r1 mi2 ml3 => wL l M_X11_moved d [.long r1, .int x1] kd mr mi2 ml3 (fun r4 mi5 ml6 => wI l M_X11_leastOf d [.long (r4 &&& x2)] kd mr mi5 ml6 (fun r7 mi8 ml9 => K r7 mi8 ml9)))) :
    wI l M_X11_nextSpot (d + 1) [.int x0, .int x1, .long x2] kd mr mi ml K := by
  show wp l M_X11_nextSpot (d + 1) 0 0 0 [some (.int x0), some (.int x1), some (.long x2), none] [] 0 0 kd mi ml mr _
  refine wp_iload_n (pc := 0) dX11_nextSpot_0 rfl ?_
  refine csL [.int x0] [] (pc := 1) dX11_nextSpot_1 ml_X11_282 st_X11_only rfl rfl (Nat.le_of_ble_eq_true rfl) (Nat.le_of_ble_eq_true rfl) (wL.mono (fun r1 mi2 ml3 F => ?_) F)
  refine wp_iload_n (pc := 4) dX11_nextSpot_4 rfl ?_
  refine csL [.long r1, .int x1] [] (pc := 5) dX11_nextSpot_5 ml_X11_290 st_X11_moved rfl rfl (Nat.le_of_ble_eq_true rfl) (Nat.le_of_ble_eq_true rfl) (wL.mono (fun r4 mi5 ml6 F => ?_) F)
  refine wp_lload_n (pc := 8) dX11_nextSpot_8 rfl ?_
  refine wp_land (pc := 9) dX11_nextSpot_9 ?_
  refine csI [.long (r4 &&& x2)] [] (pc := 10) dX11_nextSpot_10 ml_X11_294 st_X11_leastOf rfl rfl (Nat.le_of_ble_eq_true rfl) (Nat.le_of_ble_eq_true rfl) (wI.mono (fun r7 mi8 ml9 F => ?_) F)
  exact r_I (pc := 13) dX11_nextSpot_13 rfl F
/-- moved(JI)J -/
theorem w_X11_moved {l : Launch} {d : Nat} {kd : pm_K} {mr : pm_R}  {x0 : Int64} {x2 : Int32} {mi : pm_I} {ml : pm_L} {K : Int64 → pm_I → pm_L → Prop} 
    (F : (((x2).toInt < 0 ∨ 3 < (x2).toInt → K 0 mi ml) ∧ ((x2).toInt = 0 → K (((Int64.toUInt64 x0) >>> (Int64.toUInt64 (Int32.toInt64 8) &&& Int64.toUInt64 63)).toInt64) mi ml) ∧ ((x2).toInt = 1 → K ((x0 &&& 9187201950435737471) <<< ((Int32.toInt64 1) &&& 63)) mi ml) ∧ ((x2).toInt = 2 → K (x0 <<< ((Int32.toInt64 8) &&& 63)) mi ml) ∧ ((x2).toInt = 3 → K (((Int64.toUInt64 (x0 &&& (-72340172838076674))) >>> (Int64.toUInt64 (Int32.toInt64 1) &&& Int64.toUInt64 63)).toInt64) mi ml))) :
    wL l M_X11_moved d [.long x0, .int x2] kd mr mi ml K := by
  show wp l M_X11_moved d 0 0 0 [some (.long x0), none, some (.int x2)] [] 0 0 kd mi ml mr _
  refine wp_iload_n (pc := 0) dX11_moved_0 rfl ?_
  by_cases c1 : (x2).toInt < 0 ∨ 3 < (x2).toInt
  · have F := F.1 c1
    refine wp_tableOut (tgt := 58) (pc := 1) dX11_moved_1 c1 (by decide) ?_
    refine wp_lconst (v := 0) (pc := 58) dX11_moved_58 (by decide) ?_
    exact r_L (pc := 59) dX11_moved_59 rfl F
  have c1 : (x2).toInt = 0 ∨ (x2).toInt = 1 ∨ (x2).toInt = 2 ∨ (x2).toInt = 3 := by omega
  have F := F.2
  rcases c1 with c1 | c1 | c1 | c1
  · have F := F.1 c1
    refine wp_tableIn (tgt := 32) (pc := 1) dX11_moved_1 c1 (by decide) (by decide) rfl (by decide) ?_
    refine wp_lload_n (pc := 32) dX11_moved_32 rfl ?_
    refine wp_bipush (v := 8) (pc := 33) dX11_moved_33 (by decide) ?_
    refine wp_lushr (pc := 35) dX11_moved_35 ?_
    exact r_L (pc := 36) dX11_moved_36 rfl F
  · have F := F.2.1 c1
    refine wp_tableIn (tgt := 37) (pc := 1) dX11_moved_1 c1 (by decide) (by decide) rfl (by decide) ?_
    refine wp_lload_n (pc := 37) dX11_moved_37 rfl ?_
    refine wp_ldc2 (v := 9187201950435737471) (pc := 38) dX11_moved_38 (tb_4 44 rfl rfl) ?_
    refine wp_land (pc := 41) dX11_moved_41 ?_
    refine wp_iconst (v := 1) (pc := 42) dX11_moved_42 (by decide) ?_
    refine wp_lshl (pc := 43) dX11_moved_43 ?_
    exact r_L (pc := 44) dX11_moved_44 rfl F
  · have F := F.2.2.1 c1
    refine wp_tableIn (tgt := 45) (pc := 1) dX11_moved_1 c1 (by decide) (by decide) rfl (by decide) ?_
    refine wp_lload_n (pc := 45) dX11_moved_45 rfl ?_
    refine wp_bipush (v := 8) (pc := 46) dX11_moved_46 (by decide) ?_
    refine wp_lshl (pc := 48) dX11_moved_48 ?_
    exact r_L (pc := 49) dX11_moved_49 rfl F
  · have F := F.2.2.2 c1
    refine wp_tableIn (tgt := 50) (pc := 1) dX11_moved_1 c1 (by decide) (by decide) rfl (by decide) ?_
    refine wp_lload_n (pc := 50) dX11_moved_50 rfl ?_
    refine wp_ldc2 (v := -72340172838076674) (pc := 51) dX11_moved_51 (tb_4 45 rfl rfl) ?_
    refine wp_land (pc := 54) dX11_moved_54 ?_
    refine wp_iconst (v := 1) (pc := 55) dX11_moved_55 (by decide) ?_
    refine wp_lushr (pc := 56) dX11_moved_56 ?_
    exact r_L (pc := 57) dX11_moved_57 rfl F
/-- leastOf(J)I -/
theorem w_X11_leastOf {l : Launch} {d : Nat} {kd : pm_K} {mr : pm_R}  {x0 : Int64} {mi : pm_I} {ml : pm_L} {K : Int32 → pm_I → pm_L → Prop} 
    (F : ((¬ (lg_cmp x0 0) = 0 → wI l M_J13_bitCount_95d88 d [.long ((x0 &&& (-x0)) - 1)] kd mr mi ml (fun r2 mi3 ml4 => K r2 mi3 ml4)) ∧ ((lg_cmp x0 0) = 0 → K (-1) mi ml))) :
    wI l M_X11_leastOf (d + 1) [.long x0] kd mr mi ml K := by
  show wp l M_X11_leastOf (d + 1) 0 0 0 [some (.long x0), none] [] 0 0 kd mi ml mr _
  refine wp_lload_n (pc := 0) dX11_leastOf_0 rfl ?_
  refine wp_lconst (v := 0) (pc := 1) dX11_leastOf_1 (by decide) ?_
  refine wp_lcmp (pc := 2) dX11_leastOf_2 ?_
  refine wp_if_ne (tgt := 10) (pc := 3) dX11_leastOf_3 (by decide) (fun c1 => ?_) (fun c1 => ?_)
  · have F := F.1 c1
    refine wp_lload_n (pc := 10) dX11_leastOf_10 rfl ?_
    refine wp_lload_n (pc := 11) dX11_leastOf_11 rfl ?_
    refine wp_lneg (pc := 12) dX11_leastOf_12 ?_
    refine wp_land (pc := 13) dX11_leastOf_13 ?_
    refine wp_lconst (v := 1) (pc := 14) dX11_leastOf_14 (by decide) ?_
    refine wp_lsub (pc := 15) dX11_leastOf_15 ?_
    refine csI [.long ((x0 &&& (-x0)) - 1)] [] (pc := 16) dX11_leastOf_16 ml_X11_166 st_J13_bitCount_95d88 rfl rfl (Nat.le_of_ble_eq_true rfl) (Nat.le_of_ble_eq_true rfl) (wI.mono (fun r2 mi3 ml4 F => ?_) F)
    exact r_I (pc := 19) dX11_leastOf_19 rfl F
  · have F := F.2 c1
    refine wp_iconst (v := -1) (pc := 6) dX11_leastOf_6 (by decide) ?_
    refine wp_goto (tgt := 19) (pc := 7) dX11_leastOf_7 (by decide) ?_
    exact r_I (pc := 19) dX11_leastOf_19 rfl F
/-- rangeOf(I)I -/
theorem w_X0_rangeOf {l : Launch} {d : Nat} {kd : pm_K} {mr : pm_R} {h : Nat} {x1 : Int32} {mi : pm_I} {ml : pm_L} {K : Int32 → pm_I → pm_L → Prop} (th : TX0s kd mr h)
    (F : vp_in x1 6 ∧ (((mi (h + 1) (Int32.toNatClampNeg x1)) < 0 → K 0 mi ml) ∧ (¬ (mi (h + 1) (Int32.toNatClampNeg x1)) < 0 → ((4 ≤ (mi (h + 1) (Int32.toNatClampNeg x1)) → K 0 mi ml) ∧ (¬ 4 ≤ (mi (h + 1) (Int32.toNatClampNeg x1)) → vp_in (mi (h + 1) (Int32.toNatClampNeg x1)) 4 ∧ ∀ g3 : Int32, pm_rng (Int32.toNatClampNeg (mi (h + 1) (Int32.toNatClampNeg x1))) = .int g3 → K g3 mi ml))))) :
    wI l M_X0_rangeOf d [.ref h, .int x1] kd mr mi ml K := by
  show wp l M_X0_rangeOf d 0 0 0 [some (.ref h), some (.int x1), none] [] 0 0 kd mi ml mr _
  refine wp_aload_n (pc := 0) dX0_rangeOf_0 rfl ?_
  refine wp_getR (pc := 1) dX0_rangeOf_1 fl_X0_9 rfl (TX0s_k th) (TX0s_r6 th) ?_
  refine wp_iload_n (pc := 4) dX0_rangeOf_4 rfl ?_
  refine wp_iald (pc := 5) dX0_rangeOf_5 (TX0s_a6 th) F.1 ?_
  have F := F.2
  refine wp_istore_n (pc := 6) dX0_rangeOf_6 (Nat.le_of_ble_eq_true rfl) rfl ?_
  show wp l M_X0_rangeOf d 0 0 _ [some (.ref h), some (.int x1), some (.int (mi (h + 1) (Int32.toNatClampNeg x1)))] _ 0 0 kd _ _ mr _
  refine wp_iload_n (pc := 7) dX0_rangeOf_7 rfl ?_
  refine wp_if_lt (tgt := 27) (pc := 8) dX0_rangeOf_8 (by decide) (fun c1 => ?_) (fun c1 => ?_)
  · have F := F.1 c1
    refine wp_iconst (v := 0) (pc := 27) dX0_rangeOf_27 (by decide) ?_
    exact r_I (pc := 28) dX0_rangeOf_28 rfl F
  · have F := F.2 c1
    refine wp_iload_n (pc := 11) dX0_rangeOf_11 rfl ?_
    refine wp_rng (pc := 12) dX0_rangeOf_12 (Or.inr (tn_4 64 rfl rfl)) ?_
    refine wp_rlen (v := 0) (pc := 15) dX0_rangeOf_15 ?_
    refine wp_icmp_ge (tgt := 27) (pc := 16) dX0_rangeOf_16 (by decide) (fun c2 => ?_) (fun c2 => ?_)
    · have F := F.1 c2
      refine wp_iconst (v := 0) (pc := 27) dX0_rangeOf_27 (by decide) ?_
      exact r_I (pc := 28) dX0_rangeOf_28 rfl F
    · have F := F.2 c2
      refine wp_rng (pc := 19) dX0_rangeOf_19 (Or.inr (tn_4 64 rfl rfl)) ?_
      refine wp_iload_n (pc := 22) dX0_rangeOf_22 rfl ?_
      obtain ⟨g3, hg3⟩ : ∃ g3, pm_rng (Int32.toNatClampNeg (mi (h + 1) (Int32.toNatClampNeg x1))) = .int g3 := ⟨_, rfl⟩
      refine wp_rald (pc := 23) dX0_rangeOf_23 F.1 hg3 ?_
      have F := F.2 g3 hg3
      refine wp_goto (tgt := 28) (pc := 24) dX0_rangeOf_24 (by decide) ?_
      exact r_I (pc := 28) dX0_rangeOf_28 rfl F
/-- contrary(I)I -/
theorem w_X11_contrary {l : Launch} {d : Nat} {kd : pm_K} {mr : pm_R}  {x0 : Int32} {mi : pm_I} {ml : pm_L} {K : Int32 → pm_I → pm_L → Prop} 
    (F : K (x0 ^^^ 2) mi ml) :
    wI l M_X11_contrary d [.int x0] kd mr mi ml K := by
  show wp l M_X11_contrary d 0 0 0 [some (.int x0)] [] 0 0 kd mi ml mr _
  refine wp_iload_n (pc := 0) dX11_contrary_0 rfl ?_
  refine wp_iconst (v := 2) (pc := 1) dX11_contrary_1 (by decide) ?_
  refine wp_ixor (pc := 2) dX11_contrary_2 ?_
  exact r_I (pc := 3) dX11_contrary_3 rfl F
/-- state(IIII)I -/
theorem w_X11_state {l : Launch} {d : Nat} {kd : pm_K} {mr : pm_R} {h : Nat} {x1 : Int32} {x2 : Int32} {x3 : Int32} {x4 : Int32} {mi : pm_I} {ml : pm_L} {K : Int32 → pm_I → pm_L → Prop} (th : TX11s kd mr h)
    (F : wR l M_X9_cityAt d [.ref (h + 1), .int x1] kd mr mi ml (fun r1 mi2 ml3 => ((r1 = none → wR l M_X9_nightAt d [.ref (h + 1), .int x2] kd mr mi2 ml3 (fun r5 mi6 ml7 => ((r5 = none → K (-2) mi6 ml7) ∧ (∀ b8, r5 = some b8 → TX6s kd mr b8 ∧ K (-2) mi6 ml7)))) ∧ (∀ b4, r1 = some b4 → TX0s kd mr b4 ∧ wR l M_X9_nightAt d [.ref (h + 1), .int x2] kd mr mi2 ml3 (fun r9 mi10 ml11 => ((r9 = none → K (-2) mi10 ml11) ∧ (∀ b12, r9 = some b12 → TX6s kd mr b12 ∧ ((x3 < 0 → K (-2) mi10 ml11) ∧ (¬ x3 < 0 → ((x3 ≤ (mi10 b12 3) → wI l M_X3_playNight d [.ref (h + 208), .ref b4, .ref b12, .int x3] kd mr mi10 ml11 (fun r15 mi16 ml17 => ((x3 ≤ r15 → wI l M_X3_tell d [.ref (h + 208), .ref b4, .int x4] kd mr mi16 ml17 (fun r19 mi20 ml21 => K r19 mi20 ml21)) ∧ (¬ x3 ≤ r15 → K (-2) mi16 ml17)))) ∧ (¬ x3 ≤ (mi10 b12 3) → K (-2) mi10 ml11))))))))))) :
    wI l M_X11_state (d + 1) [.ref h, .int x1, .int x2, .int x3, .int x4] kd mr mi ml K := by
  show wp l M_X11_state (d + 1) 0 0 0 [some (.ref h), some (.int x1), some (.int x2), some (.int x3), some (.int x4), none, none] [] 0 0 kd mi ml mr _
  refine wp_aload_n (pc := 0) dX11_state_0 rfl ?_
  refine wp_getR (pc := 1) dX11_state_1 fl_X11_10 rfl (TX11s_k th) (TX11s_r0 th) ?_
  refine wp_iload_n (pc := 4) dX11_state_4 rfl ?_
  refine cvR [.int x1] [] (pc := 5) dX11_state_5 ml_X11_109 iv_X9_cityAt (TX9s_k (TX11s_a0 th)) (cl_X9 rfl) rfl rfl (Nat.le_of_ble_eq_true rfl) (Nat.le_of_ble_eq_true rfl) (wR.mono (fun r1 mi2 ml3 F => ?_) F)
  cases r1 with
  | none =>
      have F := F.1 rfl
      show wp l M_X11_state (d + 1) 0 0 _ _ (.null :: _) 0 0 kd _ _ mr _
      refine wp_astoreN (pc := 8) dX11_state_8 (Nat.le_of_ble_eq_true rfl) rfl ?_
      show wp l M_X11_state (d + 1) 0 0 _ [some (.ref h), some (.int x1), some (.int x2), some (.int x3), some (.int x4), some (.null), none] _ 0 0 kd _ _ mr _
      refine wp_aload_n (pc := 10) dX11_state_10 rfl ?_
      refine wp_getR (pc := 11) dX11_state_11 fl_X11_10 rfl (TX11s_k th) (TX11s_r0 th) ?_
      refine wp_iload_n (pc := 14) dX11_state_14 rfl ?_
      refine cvR [.int x2] [] (pc := 15) dX11_state_15 ml_X11_118 iv_X9_nightAt (TX9s_k (TX11s_a0 th)) (cl_X9 rfl) rfl rfl (Nat.le_of_ble_eq_true rfl) (Nat.le_of_ble_eq_true rfl) (wR.mono (fun r5 mi6 ml7 F => ?_) F)
      cases r5 with
      | none =>
          have F := F.1 rfl
          show wp l M_X11_state (d + 1) 0 0 _ _ (.null :: _) 0 0 kd _ _ mr _
          refine wp_astoreN (pc := 18) dX11_state_18 (Nat.le_of_ble_eq_true rfl) rfl ?_
          show wp l M_X11_state (d + 1) 0 0 _ [some (.ref h), some (.int x1), some (.int x2), some (.int x3), some (.int x4), some (.null), some (.null)] _ 0 0 kd _ _ mr _
          refine wp_aloadN (pc := 20) dX11_state_20 rfl ?_
          refine wp_ifnullN (tgt := 43) (pc := 22) dX11_state_22 (by decide) ?_
          refine wp_bipush (v := -2) (pc := 43) dX11_state_43 (by decide) ?_
          exact r_I (pc := 45) dX11_state_45 rfl F
      | some b8 =>
          obtain ⟨tb8, F⟩ := F.2 b8 rfl
          show wp l M_X11_state (d + 1) 0 0 _ _ (.ref b8 :: _) 0 0 kd _ _ mr _
          refine wp_astore (pc := 18) dX11_state_18 (Nat.le_of_ble_eq_true rfl) rfl ?_
          show wp l M_X11_state (d + 1) 0 0 _ [some (.ref h), some (.int x1), some (.int x2), some (.int x3), some (.int x4), some (.null), some (.ref b8)] _ 0 0 kd _ _ mr _
          refine wp_aloadN (pc := 20) dX11_state_20 rfl ?_
          refine wp_ifnullN (tgt := 43) (pc := 22) dX11_state_22 (by decide) ?_
          refine wp_bipush (v := -2) (pc := 43) dX11_state_43 (by decide) ?_
          exact r_I (pc := 45) dX11_state_45 rfl F
  | some b4 =>
      obtain ⟨tb4, F⟩ := F.2 b4 rfl
      show wp l M_X11_state (d + 1) 0 0 _ _ (.ref b4 :: _) 0 0 kd _ _ mr _
      refine wp_astore (pc := 8) dX11_state_8 (Nat.le_of_ble_eq_true rfl) rfl ?_
      show wp l M_X11_state (d + 1) 0 0 _ [some (.ref h), some (.int x1), some (.int x2), some (.int x3), some (.int x4), some (.ref b4), none] _ 0 0 kd _ _ mr _
      refine wp_aload_n (pc := 10) dX11_state_10 rfl ?_
      refine wp_getR (pc := 11) dX11_state_11 fl_X11_10 rfl (TX11s_k th) (TX11s_r0 th) ?_
      refine wp_iload_n (pc := 14) dX11_state_14 rfl ?_
      refine cvR [.int x2] [] (pc := 15) dX11_state_15 ml_X11_118 iv_X9_nightAt (TX9s_k (TX11s_a0 th)) (cl_X9 rfl) rfl rfl (Nat.le_of_ble_eq_true rfl) (Nat.le_of_ble_eq_true rfl) (wR.mono (fun r9 mi10 ml11 F => ?_) F)
      cases r9 with
      | none =>
          have F := F.1 rfl
          show wp l M_X11_state (d + 1) 0 0 _ _ (.null :: _) 0 0 kd _ _ mr _
          refine wp_astoreN (pc := 18) dX11_state_18 (Nat.le_of_ble_eq_true rfl) rfl ?_
          show wp l M_X11_state (d + 1) 0 0 _ [some (.ref h), some (.int x1), some (.int x2), some (.int x3), some (.int x4), some (.ref b4), some (.null)] _ 0 0 kd _ _ mr _
          refine wp_aload (pc := 20) dX11_state_20 rfl ?_
          refine wp_ifnull (pc := 22) dX11_state_22 ?_
          refine wp_aloadN (pc := 25) dX11_state_25 rfl ?_
          refine wp_ifnullN (tgt := 43) (pc := 27) dX11_state_27 (by decide) ?_
          refine wp_bipush (v := -2) (pc := 43) dX11_state_43 (by decide) ?_
          exact r_I (pc := 45) dX11_state_45 rfl F
      | some b12 =>
          obtain ⟨tb12, F⟩ := F.2 b12 rfl
          show wp l M_X11_state (d + 1) 0 0 _ _ (.ref b12 :: _) 0 0 kd _ _ mr _
          refine wp_astore (pc := 18) dX11_state_18 (Nat.le_of_ble_eq_true rfl) rfl ?_
          show wp l M_X11_state (d + 1) 0 0 _ [some (.ref h), some (.int x1), some (.int x2), some (.int x3), some (.int x4), some (.ref b4), some (.ref b12)] _ 0 0 kd _ _ mr _
          refine wp_aload (pc := 20) dX11_state_20 rfl ?_
          refine wp_ifnull (pc := 22) dX11_state_22 ?_
          refine wp_aload (pc := 25) dX11_state_25 rfl ?_
          refine wp_ifnull (pc := 27) dX11_state_27 ?_
          refine wp_iload_n (pc := 30) dX11_state_30 rfl ?_
          refine wp_if_lt (tgt := 43) (pc := 31) dX11_state_31 (by decide) (fun c13 => ?_) (fun c13 => ?_)
          · have F := F.1 c13
            refine wp_bipush (v := -2) (pc := 43) dX11_state_43 (by decide) ?_
            exact r_I (pc := 45) dX11_state_45 rfl F
          · have F := F.2 c13
            refine wp_iload_n (pc := 34) dX11_state_34 rfl ?_
            refine wp_aload (pc := 35) dX11_state_35 rfl ?_
            refine wp_getI (pc := 37) dX11_state_37 fl_X11_127 rfl (TX6s_k tb12) ?_
            refine wp_icmp_le (tgt := 46) (pc := 40) dX11_state_40 (by decide) (fun c14 => ?_) (fun c14 => ?_)
            · have F := F.1 c14
              refine wp_aload_n (pc := 46) dX11_state_46 rfl ?_
              refine wp_getR (pc := 47) dX11_state_47 fl_X11_48 rfl (TX11s_k th) (TX11s_r6 th) ?_
              refine wp_aload (pc := 50) dX11_state_50 rfl ?_
              refine wp_aload (pc := 52) dX11_state_52 rfl ?_
              refine wp_iload_n (pc := 54) dX11_state_54 rfl ?_
              refine cvI [.ref b4, .ref b12, .int x3] [] (pc := 55) dX11_state_55 ml_X11_130 iv_X3_playNight (TX3s_k (TX11s_a6 th)) (cl_X3 rfl) rfl rfl (Nat.le_of_ble_eq_true rfl) (Nat.le_of_ble_eq_true rfl) (wI.mono (fun r15 mi16 ml17 F => ?_) F)
              refine wp_iload_n (pc := 58) dX11_state_58 rfl ?_
              refine wp_icmp_ge (tgt := 65) (pc := 59) dX11_state_59 (by decide) (fun c18 => ?_) (fun c18 => ?_)
              · have F := F.1 c18
                refine wp_aload_n (pc := 65) dX11_state_65 rfl ?_
                refine wp_getR (pc := 66) dX11_state_66 fl_X11_48 rfl (TX11s_k th) (TX11s_r6 th) ?_
                refine wp_aload (pc := 69) dX11_state_69 rfl ?_
                refine wp_iload (pc := 71) dX11_state_71 rfl ?_
                refine cvI [.ref b4, .int x4] [] (pc := 73) dX11_state_73 ml_X11_134 iv_X3_tell (TX3s_k (TX11s_a6 th)) (cl_X3 rfl) rfl rfl (Nat.le_of_ble_eq_true rfl) (Nat.le_of_ble_eq_true rfl) (wI.mono (fun r19 mi20 ml21 F => ?_) F)
                exact r_I (pc := 76) dX11_state_76 rfl F
              · have F := F.2 c18
                refine wp_bipush (v := -2) (pc := 62) dX11_state_62 (by decide) ?_
                exact r_I (pc := 64) dX11_state_64 rfl F
            · have F := F.2 c14
              refine wp_bipush (v := -2) (pc := 43) dX11_state_43 (by decide) ?_
              exact r_I (pc := 45) dX11_state_45 rfl F
/-- hears(III)I -/
theorem w_X11_hears {l : Launch} {d : Nat} {kd : pm_K} {mr : pm_R} {h : Nat} {x1 : Int32} {x2 : Int32} {x3 : Int32} {mi : pm_I} {ml : pm_L} {K : Int32 → pm_I → pm_L → Prop} (th : TX11s kd mr h)
    (F : wR l M_X9_cityAt d [.ref (h + 1), .int x1] kd mr mi ml (fun r1 mi2 ml3 => ((r1 = none → K (-1) mi2 ml3) ∧ (∀ b4, r1 = some b4 → TX0s kd mr b4 ∧ wB l M_X0_hasPlayer d [.ref b4, .int x2] kd mr mi2 ml3 (fun r5 mi6 ml7 => ((r5 = true → wI l M_X0_spotOf d [.ref b4, .int x3] kd mr mi6 ml7 (fun r9 mi10 ml11 => ((¬ r9 = (-1) → vp_in x2 6 ∧ wI l M_X7_cost d [.ref (h + 200), .ref b4, .int (mi10 (b4 + 2) (Int32.toNatClampNeg x2)), .int r9] kd mr mi10 ml11 (fun r13 mi14 ml15 => K r13 mi14 ml15)) ∧ (r9 = (-1) → K (-1) mi10 ml11)))) ∧ (r5 = false → K (-1) mi6 ml7))))))) :
    wI l M_X11_hears (d + 1) [.ref h, .int x1, .int x2, .int x3] kd mr mi ml K := by
  show wp l M_X11_hears (d + 1) 0 0 0 [some (.ref h), some (.int x1), some (.int x2), some (.int x3), none, none] [] 0 0 kd mi ml mr _
  refine wp_aload_n (pc := 0) dX11_hears_0 rfl ?_
  refine wp_getR (pc := 1) dX11_hears_1 fl_X11_10 rfl (TX11s_k th) (TX11s_r0 th) ?_
  refine wp_iload_n (pc := 4) dX11_hears_4 rfl ?_
  refine cvR [.int x1] [] (pc := 5) dX11_hears_5 ml_X11_109 iv_X9_cityAt (TX9s_k (TX11s_a0 th)) (cl_X9 rfl) rfl rfl (Nat.le_of_ble_eq_true rfl) (Nat.le_of_ble_eq_true rfl) (wR.mono (fun r1 mi2 ml3 F => ?_) F)
  cases r1 with
  | none =>
      have F := F.1 rfl
      show wp l M_X11_hears (d + 1) 0 0 _ _ (.null :: _) 0 0 kd _ _ mr _
      refine wp_astoreN (pc := 8) dX11_hears_8 (Nat.le_of_ble_eq_true rfl) rfl ?_
      show wp l M_X11_hears (d + 1) 0 0 _ [some (.ref h), some (.int x1), some (.int x2), some (.int x3), some (.null), none] _ 0 0 kd _ _ mr _
      refine wp_aloadN (pc := 10) dX11_hears_10 rfl ?_
      refine wp_ifnullN (tgt := 24) (pc := 12) dX11_hears_12 (by decide) ?_
      refine wp_iconst (v := -1) (pc := 24) dX11_hears_24 (by decide) ?_
      exact r_I (pc := 25) dX11_hears_25 rfl F
  | some b4 =>
      obtain ⟨tb4, F⟩ := F.2 b4 rfl
      show wp l M_X11_hears (d + 1) 0 0 _ _ (.ref b4 :: _) 0 0 kd _ _ mr _
      refine wp_astore (pc := 8) dX11_hears_8 (Nat.le_of_ble_eq_true rfl) rfl ?_
      show wp l M_X11_hears (d + 1) 0 0 _ [some (.ref h), some (.int x1), some (.int x2), some (.int x3), some (.ref b4), none] _ 0 0 kd _ _ mr _
      refine wp_aload (pc := 10) dX11_hears_10 rfl ?_
      refine wp_ifnull (pc := 12) dX11_hears_12 ?_
      refine wp_aload (pc := 15) dX11_hears_15 rfl ?_
      refine wp_iload_n (pc := 17) dX11_hears_17 rfl ?_
      refine cvB [.int x2] [] (pc := 18) dX11_hears_18 ml_X11_137 iv_X0_hasPlayer (TX0s_k tb4) (cl_X0 rfl) rfl rfl (Nat.le_of_ble_eq_true rfl) (Nat.le_of_ble_eq_true rfl) (wB.mono (fun r5 mi6 ml7 F => ?_) F)
      refine b_ne (tgt := 26) (pc := 21) dX11_hears_21 (by decide) (fun c8 => ?_) (fun c8 => ?_)
      · have F := F.1 c8
        refine wp_aload (pc := 26) dX11_hears_26 rfl ?_
        refine wp_iload_n (pc := 28) dX11_hears_28 rfl ?_
        refine cvI [.int x3] [] (pc := 29) dX11_hears_29 ml_X11_141 iv_X0_spotOf (TX0s_k tb4) (cl_X0 rfl) rfl rfl (Nat.le_of_ble_eq_true rfl) (Nat.le_of_ble_eq_true rfl) (wI.mono (fun r9 mi10 ml11 F => ?_) F)
        refine wp_istore (pc := 32) dX11_hears_32 (Nat.le_of_ble_eq_true rfl) rfl ?_
        show wp l M_X11_hears (d + 1) 0 0 _ [some (.ref h), some (.int x1), some (.int x2), some (.int x3), some (.ref b4), some (.int r9)] _ 0 0 kd _ _ mr _
        refine wp_iload (pc := 34) dX11_hears_34 rfl ?_
        refine wp_iconst (v := -1) (pc := 36) dX11_hears_36 (by decide) ?_
        refine wp_icmp_ne (tgt := 44) (pc := 37) dX11_hears_37 (by decide) (fun c12 => ?_) (fun c12 => ?_)
        · have F := F.1 c12
          refine wp_aload_n (pc := 44) dX11_hears_44 rfl ?_
          refine wp_getR (pc := 45) dX11_hears_45 fl_X11_34 rfl (TX11s_k th) (TX11s_r4 th) ?_
          refine wp_aload (pc := 48) dX11_hears_48 rfl ?_
          refine wp_aload (pc := 50) dX11_hears_50 rfl ?_
          refine wp_getR (pc := 52) dX11_hears_52 fl_X11_144 rfl (TX0s_k tb4) (TX0s_r7 tb4) ?_
          refine wp_iload_n (pc := 55) dX11_hears_55 rfl ?_
          refine wp_iald (pc := 56) dX11_hears_56 (TX0s_a7 tb4) F.1 ?_
          have F := F.2
          refine wp_iload (pc := 57) dX11_hears_57 rfl ?_
          refine cvI [.ref b4, .int (mi10 (b4 + 2) (Int32.toNatClampNeg x2)), .int r9] [] (pc := 59) dX11_hears_59 ml_X11_147 iv_X7_cost (TX7s_k (TX11s_a4 th)) (cl_X7 rfl) rfl rfl (Nat.le_of_ble_eq_true rfl) (Nat.le_of_ble_eq_true rfl) (wI.mono (fun r13 mi14 ml15 F => ?_) F)
          exact r_I (pc := 62) dX11_hears_62 rfl F
        · have F := F.2 c12
          refine wp_iconst (v := -1) (pc := 40) dX11_hears_40 (by decide) ?_
          refine wp_goto (tgt := 62) (pc := 41) dX11_hears_41 (by decide) ?_
          exact r_I (pc := 62) dX11_hears_62 rfl F
      · have F := F.2 c8
        refine wp_iconst (v := -1) (pc := 24) dX11_hears_24 (by decide) ?_
        exact r_I (pc := 25) dX11_hears_25 rfl F
/-- enough(I)I -/
theorem w_X11_enough {l : Launch} {d : Nat} {kd : pm_K} {mr : pm_R} {h : Nat} {x1 : Int32} {mi : pm_I} {ml : pm_L} {K : Int32 → pm_I → pm_L → Prop} (th : TX11s kd mr h)
    (F : wR l M_X9_cityAt d [.ref (h + 1), .int x1] kd mr mi ml (fun r1 mi2 ml3 => ((r1 = none → K (-1) mi2 ml3) ∧ (∀ b4, r1 = some b4 → TX0s kd mr b4 ∧ wV l M_X1_listen d [.ref (h + 202), .ref b4] kd mr mi2 ml3 (fun mi6 ml7 => wI l M_X1_fewestPlayers d [.ref (h + 202), .ref b4] kd mr mi6 ml7 (fun r8 mi9 ml10 => K r8 mi9 ml10)))))) :
    wI l M_X11_enough (d + 1) [.ref h, .int x1] kd mr mi ml K := by
  show wp l M_X11_enough (d + 1) 0 0 0 [some (.ref h), some (.int x1), none] [] 0 0 kd mi ml mr _
  refine wp_aload_n (pc := 0) dX11_enough_0 rfl ?_
  refine wp_getR (pc := 1) dX11_enough_1 fl_X11_10 rfl (TX11s_k th) (TX11s_r0 th) ?_
  refine wp_iload_n (pc := 4) dX11_enough_4 rfl ?_
  refine cvR [.int x1] [] (pc := 5) dX11_enough_5 ml_X11_109 iv_X9_cityAt (TX9s_k (TX11s_a0 th)) (cl_X9 rfl) rfl rfl (Nat.le_of_ble_eq_true rfl) (Nat.le_of_ble_eq_true rfl) (wR.mono (fun r1 mi2 ml3 F => ?_) F)
  cases r1 with
  | none =>
      have F := F.1 rfl
      show wp l M_X11_enough (d + 1) 0 0 _ _ (.null :: _) 0 0 kd _ _ mr _
      refine wp_astore_nN (pc := 8) dX11_enough_8 (Nat.le_of_ble_eq_true rfl) rfl ?_
      show wp l M_X11_enough (d + 1) 0 0 _ [some (.ref h), some (.int x1), some (.null)] _ 0 0 kd _ _ mr _
      refine wp_aload_nN (pc := 9) dX11_enough_9 rfl ?_
      refine wp_ifnonnullN (pc := 10) dX11_enough_10 ?_
      refine wp_iconst (v := -1) (pc := 13) dX11_enough_13 (by decide) ?_
      exact r_I (pc := 14) dX11_enough_14 rfl F
  | some b4 =>
      obtain ⟨tb4, F⟩ := F.2 b4 rfl
      show wp l M_X11_enough (d + 1) 0 0 _ _ (.ref b4 :: _) 0 0 kd _ _ mr _
      refine wp_astore_n (pc := 8) dX11_enough_8 (Nat.le_of_ble_eq_true rfl) rfl ?_
      show wp l M_X11_enough (d + 1) 0 0 _ [some (.ref h), some (.int x1), some (.ref b4)] _ 0 0 kd _ _ mr _
      refine wp_aload_n (pc := 9) dX11_enough_9 rfl ?_
      refine wp_ifnonnull (tgt := 15) (pc := 10) dX11_enough_10 (by decide) ?_
      refine wp_aload_n (pc := 15) dX11_enough_15 rfl ?_
      refine wp_getR (pc := 16) dX11_enough_16 fl_X11_41 rfl (TX11s_k th) (TX11s_r5 th) ?_
      refine wp_aload_n (pc := 19) dX11_enough_19 rfl ?_
      refine cvV [.ref b4] [] (pc := 20) dX11_enough_20 ml_X11_151 iv_X1_listen (TX1s_k (TX11s_a5 th)) (cl_X1 rfl) rfl rfl (Nat.le_of_ble_eq_true rfl) (Nat.le_of_ble_eq_true rfl) (wV.mono (fun mi6 ml7 F => ?_) F)
      refine wp_aload_n (pc := 23) dX11_enough_23 rfl ?_
      refine wp_getR (pc := 24) dX11_enough_24 fl_X11_41 rfl (TX11s_k th) (TX11s_r5 th) ?_
      refine wp_aload_n (pc := 27) dX11_enough_27 rfl ?_
      refine cvI [.ref b4] [] (pc := 28) dX11_enough_28 ml_X11_155 iv_X1_fewestPlayers (TX1s_k (TX11s_a5 th)) (cl_X1 rfl) rfl rfl (Nat.le_of_ble_eq_true rfl) (Nat.le_of_ble_eq_true rfl) (wI.mono (fun r8 mi9 ml10 F => ?_) F)
      exact r_I (pc := 31) dX11_enough_31 rfl F
/-- fresh(IIII)I -/
theorem w_X11_fresh {l : Launch} {d : Nat} {kd : pm_K} {mr : pm_R} {h : Nat} {x1 : Int32} {x2 : Int32} {x3 : Int32} {x4 : Int32} {mi : pm_I} {ml : pm_L} {K : Int32 → pm_I → pm_L → Prop} (th : TX11s kd mr h)
    (F : wR l M_X9_cityAt d [.ref (h + 1), .int x1] kd mr mi ml (fun r1 mi2 ml3 => ((r1 = none → K (-1) mi2 ml3) ∧ (∀ b4, r1 = some b4 → TX0s kd mr b4 ∧ (((!decide (x2 < 0) && (!decide (4 ≤ x2))) = false → K (-1) mi2 ml3) ∧ ((!decide (x2 < 0) && (!decide (4 ≤ x2))) = true → ((x3 < 1 → K (-1) mi2 ml3) ∧ (¬ x3 < 1 → ((2 < x3 → K (-1) mi2 ml3) ∧ (¬ 2 < x3 → ((x4 < 0 → K (-1) mi2 ml3) ∧ (¬ x4 < 0 → ((x4 ≤ x3 → wL l M_X0_open d [.ref b4] kd mr mi2 ml3 (fun r18 mi19 ml20 => wI l M_J13_bitCount_95d88 d [.long r18] kd mr mi19 ml20 (fun r21 mi22 ml23 => ((x3 ≤ r21 → wV l M_X1_listen d [.ref (h + 202), .ref b4] kd mr mi22 ml23 (fun mi26 ml27 => vp_in x2 4 ∧ ∀ g28 : Int32, pm_rng (Int32.toNatClampNeg x2) = .int g28 → wI l M_X1_bestPlaces d [.ref (h + 202), .ref b4, .int g28, .int x3, .int x4] kd mr mi26 ml27 (fun r29 mi30 ml31 => K r29 mi30 ml31))) ∧ (¬ x3 ≤ r21 → K (-1) mi22 ml23))))) ∧ (¬ x4 ≤ x3 → K (-1) mi2 ml3)))))))))))))) :
    wI l M_X11_fresh (d + 1) [.ref h, .int x1, .int x2, .int x3, .int x4] kd mr mi ml K := by
  show wp l M_X11_fresh (d + 1) 0 0 0 [some (.ref h), some (.int x1), some (.int x2), some (.int x3), some (.int x4), none, none] [] 0 0 kd mi ml mr _
  refine wp_aload_n (pc := 0) dX11_fresh_0 rfl ?_
  refine wp_getR (pc := 1) dX11_fresh_1 fl_X11_10 rfl (TX11s_k th) (TX11s_r0 th) ?_
  refine wp_iload_n (pc := 4) dX11_fresh_4 rfl ?_
  refine cvR [.int x1] [] (pc := 5) dX11_fresh_5 ml_X11_109 iv_X9_cityAt (TX9s_k (TX11s_a0 th)) (cl_X9 rfl) rfl rfl (Nat.le_of_ble_eq_true rfl) (Nat.le_of_ble_eq_true rfl) (wR.mono (fun r1 mi2 ml3 F => ?_) F)
  cases r1 with
  | none =>
      have F := F.1 rfl
      show wp l M_X11_fresh (d + 1) 0 0 _ _ (.null :: _) 0 0 kd _ _ mr _
      refine wp_astoreN (pc := 8) dX11_fresh_8 (Nat.le_of_ble_eq_true rfl) rfl ?_
      show wp l M_X11_fresh (d + 1) 0 0 _ [some (.ref h), some (.int x1), some (.int x2), some (.int x3), some (.int x4), some (.null), none] _ 0 0 kd _ _ mr _
      refine wp_iload_n (pc := 10) dX11_fresh_10 rfl ?_
      suffices J5 : ∀ v6 : Int32, v6 = (b2i (!decide (x2 < 0) && (!decide (4 ≤ x2)))) → wp l M_X11_fresh (d + 1) 0 0 27 [some (.ref h), some (.int x1), some (.int x2), some (.int x3), some (.int x4), some (.null), none] [.int v6] 0 0 kd mi2 ml3 mr _ by
          refine wp_if_lt (tgt := 26) (pc := 11) dX11_fresh_11 (by decide) (fun c7 => ?_) (fun c7 => ?_)
          · refine wp_iconst (v := 0) (pc := 26) dX11_fresh_26 (by decide) ?_
            exact J5 _ (by simp only [eq_true c7, if_true, if_false, decide_true, decide_false, Bool.not_true, Bool.not_false, Bool.true_and, Bool.false_and, Bool.true_or, Bool.false_or, b2i_t, b2i_f, ite_true, ite_false, not_true_eq_false, not_false_eq_true, reduceCtorEq, decide_eq_true_eq])
          · refine wp_iload_n (pc := 14) dX11_fresh_14 rfl ?_
            refine wp_rng (pc := 15) dX11_fresh_15 (Or.inl (tb_4 137 rfl rfl)) ?_
            refine wp_rlen (v := 0) (pc := 18) dX11_fresh_18 ?_
            refine wp_icmp_ge (tgt := 26) (pc := 19) dX11_fresh_19 (by decide) (fun c8 => ?_) (fun c8 => ?_)
            · refine wp_iconst (v := 0) (pc := 26) dX11_fresh_26 (by decide) ?_
              exact J5 _ (by simp only [c7, eq_true c8, if_true, if_false, decide_true, decide_false, Bool.not_true, Bool.not_false, Bool.true_and, Bool.false_and, Bool.true_or, Bool.false_or, b2i_t, b2i_f, ite_true, ite_false, not_true_eq_false, not_false_eq_true, reduceCtorEq, decide_eq_true_eq])
            · refine wp_iconst (v := 1) (pc := 22) dX11_fresh_22 (by decide) ?_
              refine wp_goto (tgt := 27) (pc := 23) dX11_fresh_23 (by decide) ?_
              exact J5 _ (by simp only [c7, c8, if_true, if_false, decide_true, decide_false, Bool.not_true, Bool.not_false, Bool.true_and, Bool.false_and, Bool.true_or, Bool.false_or, b2i_t, b2i_f, ite_true, ite_false, not_true_eq_false, not_false_eq_true, reduceCtorEq, decide_eq_true_eq])
      intro v6 ev6
      subst ev6
      refine wp_istore (pc := 27) dX11_fresh_27 (Nat.le_of_ble_eq_true rfl) rfl ?_
      show wp l M_X11_fresh (d + 1) 0 0 _ [some (.ref h), some (.int x1), some (.int x2), some (.int x3), some (.int x4), some (.null), some (.int (b2i (!decide (x2 < 0) && (!decide (4 ≤ x2)))))] _ 0 0 kd _ _ mr _
      refine wp_aloadN (pc := 29) dX11_fresh_29 rfl ?_
      refine wp_ifnullN (tgt := 60) (pc := 31) dX11_fresh_31 (by decide) ?_
      refine wp_iconst (v := -1) (pc := 60) dX11_fresh_60 (by decide) ?_
      exact r_I (pc := 61) dX11_fresh_61 rfl F
  | some b4 =>
      obtain ⟨tb4, F⟩ := F.2 b4 rfl
      show wp l M_X11_fresh (d + 1) 0 0 _ _ (.ref b4 :: _) 0 0 kd _ _ mr _
      refine wp_astore (pc := 8) dX11_fresh_8 (Nat.le_of_ble_eq_true rfl) rfl ?_
      show wp l M_X11_fresh (d + 1) 0 0 _ [some (.ref h), some (.int x1), some (.int x2), some (.int x3), some (.int x4), some (.ref b4), none] _ 0 0 kd _ _ mr _
      refine wp_iload_n (pc := 10) dX11_fresh_10 rfl ?_
      suffices J9 : ∀ v10 : Int32, v10 = (b2i (!decide (x2 < 0) && (!decide (4 ≤ x2)))) → wp l M_X11_fresh (d + 1) 0 0 27 [some (.ref h), some (.int x1), some (.int x2), some (.int x3), some (.int x4), some (.ref b4), none] [.int v10] 0 0 kd mi2 ml3 mr _ by
          refine wp_if_lt (tgt := 26) (pc := 11) dX11_fresh_11 (by decide) (fun c11 => ?_) (fun c11 => ?_)
          · refine wp_iconst (v := 0) (pc := 26) dX11_fresh_26 (by decide) ?_
            exact J9 _ (by simp only [eq_true c11, if_true, if_false, decide_true, decide_false, Bool.not_true, Bool.not_false, Bool.true_and, Bool.false_and, Bool.true_or, Bool.false_or, b2i_t, b2i_f, ite_true, ite_false, not_true_eq_false, not_false_eq_true, reduceCtorEq, decide_eq_true_eq])
          · refine wp_iload_n (pc := 14) dX11_fresh_14 rfl ?_
            refine wp_rng (pc := 15) dX11_fresh_15 (Or.inl (tb_4 137 rfl rfl)) ?_
            refine wp_rlen (v := 0) (pc := 18) dX11_fresh_18 ?_
            refine wp_icmp_ge (tgt := 26) (pc := 19) dX11_fresh_19 (by decide) (fun c12 => ?_) (fun c12 => ?_)
            · refine wp_iconst (v := 0) (pc := 26) dX11_fresh_26 (by decide) ?_
              exact J9 _ (by simp only [c11, eq_true c12, if_true, if_false, decide_true, decide_false, Bool.not_true, Bool.not_false, Bool.true_and, Bool.false_and, Bool.true_or, Bool.false_or, b2i_t, b2i_f, ite_true, ite_false, not_true_eq_false, not_false_eq_true, reduceCtorEq, decide_eq_true_eq])
            · refine wp_iconst (v := 1) (pc := 22) dX11_fresh_22 (by decide) ?_
              refine wp_goto (tgt := 27) (pc := 23) dX11_fresh_23 (by decide) ?_
              exact J9 _ (by simp only [c11, c12, if_true, if_false, decide_true, decide_false, Bool.not_true, Bool.not_false, Bool.true_and, Bool.false_and, Bool.true_or, Bool.false_or, b2i_t, b2i_f, ite_true, ite_false, not_true_eq_false, not_false_eq_true, reduceCtorEq, decide_eq_true_eq])
      intro v10 ev10
      subst ev10
      refine wp_istore (pc := 27) dX11_fresh_27 (Nat.le_of_ble_eq_true rfl) rfl ?_
      show wp l M_X11_fresh (d + 1) 0 0 _ [some (.ref h), some (.int x1), some (.int x2), some (.int x3), some (.int x4), some (.ref b4), some (.int (b2i (!decide (x2 < 0) && (!decide (4 ≤ x2)))))] _ 0 0 kd _ _ mr _
      refine wp_aload (pc := 29) dX11_fresh_29 rfl ?_
      refine wp_ifnull (pc := 31) dX11_fresh_31 ?_
      refine wp_iload (pc := 34) dX11_fresh_34 rfl ?_
      refine b_eq (tgt := 60) (pc := 36) dX11_fresh_36 (by decide) (fun c13 => ?_) (fun c13 => ?_)
      · have F := F.1 c13
        refine wp_iconst (v := -1) (pc := 60) dX11_fresh_60 (by decide) ?_
        exact r_I (pc := 61) dX11_fresh_61 rfl F
      · have F := F.2 c13
        refine wp_iload_n (pc := 39) dX11_fresh_39 rfl ?_
        refine wp_iconst (v := 1) (pc := 40) dX11_fresh_40 (by decide) ?_
        refine wp_icmp_lt (tgt := 60) (pc := 41) dX11_fresh_41 (by decide) (fun c14 => ?_) (fun c14 => ?_)
        · have F := F.1 c14
          refine wp_iconst (v := -1) (pc := 60) dX11_fresh_60 (by decide) ?_
          exact r_I (pc := 61) dX11_fresh_61 rfl F
        · have F := F.2 c14
          refine wp_iload_n (pc := 44) dX11_fresh_44 rfl ?_
          refine wp_iconst (v := 2) (pc := 45) dX11_fresh_45 (by decide) ?_
          refine wp_icmp_gt (tgt := 60) (pc := 46) dX11_fresh_46 (by decide) (fun c15 => ?_) (fun c15 => ?_)
          · have F := F.1 c15
            refine wp_iconst (v := -1) (pc := 60) dX11_fresh_60 (by decide) ?_
            exact r_I (pc := 61) dX11_fresh_61 rfl F
          · have F := F.2 c15
            refine wp_iload (pc := 49) dX11_fresh_49 rfl ?_
            refine wp_if_lt (tgt := 60) (pc := 51) dX11_fresh_51 (by decide) (fun c16 => ?_) (fun c16 => ?_)
            · have F := F.1 c16
              refine wp_iconst (v := -1) (pc := 60) dX11_fresh_60 (by decide) ?_
              exact r_I (pc := 61) dX11_fresh_61 rfl F
            · have F := F.2 c16
              refine wp_iload (pc := 54) dX11_fresh_54 rfl ?_
              refine wp_iload_n (pc := 56) dX11_fresh_56 rfl ?_
              refine wp_icmp_le (tgt := 62) (pc := 57) dX11_fresh_57 (by decide) (fun c17 => ?_) (fun c17 => ?_)
              · have F := F.1 c17
                refine wp_aload (pc := 62) dX11_fresh_62 rfl ?_
                refine cvL [] [] (pc := 64) dX11_fresh_64 ml_X11_162 iv_X0_open (TX0s_k tb4) (cl_X0 rfl) rfl rfl (Nat.le_of_ble_eq_true rfl) (Nat.le_of_ble_eq_true rfl) (wL.mono (fun r18 mi19 ml20 F => ?_) F)
                refine csI [.long r18] [] (pc := 67) dX11_fresh_67 ml_X11_166 st_J13_bitCount_95d88 rfl rfl (Nat.le_of_ble_eq_true rfl) (Nat.le_of_ble_eq_true rfl) (wI.mono (fun r21 mi22 ml23 F => ?_) F)
                refine wp_iload_n (pc := 70) dX11_fresh_70 rfl ?_
                refine wp_icmp_ge (tgt := 76) (pc := 71) dX11_fresh_71 (by decide) (fun c24 => ?_) (fun c24 => ?_)
                · have F := F.1 c24
                  refine wp_aload_n (pc := 76) dX11_fresh_76 rfl ?_
                  refine wp_getR (pc := 77) dX11_fresh_77 fl_X11_41 rfl (TX11s_k th) (TX11s_r5 th) ?_
                  refine wp_aload (pc := 80) dX11_fresh_80 rfl ?_
                  refine cvV [.ref b4] [] (pc := 82) dX11_fresh_82 ml_X11_151 iv_X1_listen (TX1s_k (TX11s_a5 th)) (cl_X1 rfl) rfl rfl (Nat.le_of_ble_eq_true rfl) (Nat.le_of_ble_eq_true rfl) (wV.mono (fun mi26 ml27 F => ?_) F)
                  refine wp_aload_n (pc := 85) dX11_fresh_85 rfl ?_
                  refine wp_getR (pc := 86) dX11_fresh_86 fl_X11_41 rfl (TX11s_k th) (TX11s_r5 th) ?_
                  refine wp_aload (pc := 89) dX11_fresh_89 rfl ?_
                  refine wp_rng (pc := 91) dX11_fresh_91 (Or.inl (tb_4 137 rfl rfl)) ?_
                  refine wp_iload_n (pc := 94) dX11_fresh_94 rfl ?_
                  obtain ⟨g28, hg28⟩ : ∃ g28, pm_rng (Int32.toNatClampNeg x2) = .int g28 := ⟨_, rfl⟩
                  refine wp_rald (pc := 95) dX11_fresh_95 F.1 hg28 ?_
                  have F := F.2 g28 hg28
                  refine wp_iload_n (pc := 96) dX11_fresh_96 rfl ?_
                  refine wp_iload (pc := 97) dX11_fresh_97 rfl ?_
                  refine cvI [.ref b4, .int g28, .int x3, .int x4] [] (pc := 99) dX11_fresh_99 ml_X11_172 iv_X1_bestPlaces (TX1s_k (TX11s_a5 th)) (cl_X1 rfl) rfl rfl (Nat.le_of_ble_eq_true rfl) (Nat.le_of_ble_eq_true rfl) (wI.mono (fun r29 mi30 ml31 F => ?_) F)
                  exact r_I (pc := 102) dX11_fresh_102 rfl F
                · have F := F.2 c24
                  refine wp_iconst (v := -1) (pc := 74) dX11_fresh_74 (by decide) ?_
                  exact r_I (pc := 75) dX11_fresh_75 rfl F
              · have F := F.2 c17
                refine wp_iconst (v := -1) (pc := 60) dX11_fresh_60 (by decide) ?_
                exact r_I (pc := 61) dX11_fresh_61 rfl F
/-- gather(IIIIZ)I -/
theorem w_X11_gather {l : Launch} {d : Nat} {kd : pm_K} {mr : pm_R} {h : Nat} {x1 : Int32} {x2 : Int32} {x3 : Int32} {x4 : Int32} {x5 : Bool} {mi : pm_I} {ml : pm_L} {K : Int32 → pm_I → pm_L → Prop} (th : TX11s kd mr h)
    (F : wR l M_X9_cityAt d [.ref (h + 1), .int x1] kd mr mi ml (fun r1 mi2 ml3 => ((r1 = none → K (-1) mi2 ml3) ∧ (∀ b4, r1 = some b4 → TX0s kd mr b4 ∧ wB l M_X0_hasPlayer d [.ref b4, .int x2] kd mr mi2 ml3 (fun r5 mi6 ml7 => ((r5 = false → K (-1) mi6 ml7) ∧ (r5 = true → wB l M_X0_hasPerson d [.ref b4, .int x3] kd mr mi6 ml7 (fun r9 mi10 ml11 => ((r9 = false → K (-1) mi10 ml11) ∧ (r9 = true → wB l M_X0_hasPerson d [.ref b4, .int x4] kd mr mi10 ml11 (fun r13 mi14 ml15 => ((r13 = false → K (-1) mi14 ml15) ∧ (r13 = true → ((¬ x3 = x4 → wL l M_X0_open d [.ref b4] kd mr mi14 ml15 (fun r18 mi19 ml20 => vp_in x2 6 ∧ wI l M_X0_rangeOf d [.ref b4, .int x2] kd mr mi19 ml20 (fun r21 mi22 ml23 => wL l M_X7_heard d [.ref (h + 200), .ref b4, .int (mi19 (b4 + 2) (Int32.toNatClampNeg x2)), .int r21] kd mr mi22 ml23 (fun r24 mi25 ml26 => wV l M_X2_layWays d [.ref (h + 222), .long r18, .long r24] kd mr mi25 ml26 (fun mi28 ml29 => vp_in x3 6 ∧ vp_in x4 6 ∧ wI l M_X2_fewestMarches d [.ref (h + 222), .int (mi28 (b4 + 4) (Int32.toNatClampNeg x3)), .int (mi28 (b4 + 4) (Int32.toNatClampNeg x4)), .int (b2i x5)] kd mr mi28 ml29 (fun r30 mi31 ml32 => K r30 mi31 ml32)))))) ∧ (x3 = x4 → K (-1) mi14 ml15))))))))))))))) :
    wI l M_X11_gather (d + 1) [.ref h, .int x1, .int x2, .int x3, .int x4, .int (b2i x5)] kd mr mi ml K := by
  show wp l M_X11_gather (d + 1) 0 0 0 [some (.ref h), some (.int x1), some (.int x2), some (.int x3), some (.int x4), some (.int (b2i x5)), none] [] 0 0 kd mi ml mr _
  refine wp_aload_n (pc := 0) dX11_gather_0 rfl ?_
  refine wp_getR (pc := 1) dX11_gather_1 fl_X11_10 rfl (TX11s_k th) (TX11s_r0 th) ?_
  refine wp_iload_n (pc := 4) dX11_gather_4 rfl ?_
  refine cvR [.int x1] [] (pc := 5) dX11_gather_5 ml_X11_109 iv_X9_cityAt (TX9s_k (TX11s_a0 th)) (cl_X9 rfl) rfl rfl (Nat.le_of_ble_eq_true rfl) (Nat.le_of_ble_eq_true rfl) (wR.mono (fun r1 mi2 ml3 F => ?_) F)
  cases r1 with
  | none =>
      have F := F.1 rfl
      show wp l M_X11_gather (d + 1) 0 0 _ _ (.null :: _) 0 0 kd _ _ mr _
      refine wp_astoreN (pc := 8) dX11_gather_8 (Nat.le_of_ble_eq_true rfl) rfl ?_
      show wp l M_X11_gather (d + 1) 0 0 _ [some (.ref h), some (.int x1), some (.int x2), some (.int x3), some (.int x4), some (.int (b2i x5)), some (.null)] _ 0 0 kd _ _ mr _
      refine wp_aloadN (pc := 10) dX11_gather_10 rfl ?_
      refine wp_ifnullN (tgt := 49) (pc := 12) dX11_gather_12 (by decide) ?_
      refine wp_iconst (v := -1) (pc := 49) dX11_gather_49 (by decide) ?_
      exact r_I (pc := 50) dX11_gather_50 rfl F
  | some b4 =>
      obtain ⟨tb4, F⟩ := F.2 b4 rfl
      show wp l M_X11_gather (d + 1) 0 0 _ _ (.ref b4 :: _) 0 0 kd _ _ mr _
      refine wp_astore (pc := 8) dX11_gather_8 (Nat.le_of_ble_eq_true rfl) rfl ?_
      show wp l M_X11_gather (d + 1) 0 0 _ [some (.ref h), some (.int x1), some (.int x2), some (.int x3), some (.int x4), some (.int (b2i x5)), some (.ref b4)] _ 0 0 kd _ _ mr _
      refine wp_aload (pc := 10) dX11_gather_10 rfl ?_
      refine wp_ifnull (pc := 12) dX11_gather_12 ?_
      refine wp_aload (pc := 15) dX11_gather_15 rfl ?_
      refine wp_iload_n (pc := 17) dX11_gather_17 rfl ?_
      refine cvB [.int x2] [] (pc := 18) dX11_gather_18 ml_X11_137 iv_X0_hasPlayer (TX0s_k tb4) (cl_X0 rfl) rfl rfl (Nat.le_of_ble_eq_true rfl) (Nat.le_of_ble_eq_true rfl) (wB.mono (fun r5 mi6 ml7 F => ?_) F)
      refine b_eq (tgt := 49) (pc := 21) dX11_gather_21 (by decide) (fun c8 => ?_) (fun c8 => ?_)
      · have F := F.1 c8
        refine wp_iconst (v := -1) (pc := 49) dX11_gather_49 (by decide) ?_
        exact r_I (pc := 50) dX11_gather_50 rfl F
      · have F := F.2 c8
        refine wp_aload (pc := 24) dX11_gather_24 rfl ?_
        refine wp_iload_n (pc := 26) dX11_gather_26 rfl ?_
        refine cvB [.int x3] [] (pc := 27) dX11_gather_27 ml_X11_176 iv_X0_hasPerson (TX0s_k tb4) (cl_X0 rfl) rfl rfl (Nat.le_of_ble_eq_true rfl) (Nat.le_of_ble_eq_true rfl) (wB.mono (fun r9 mi10 ml11 F => ?_) F)
        refine b_eq (tgt := 49) (pc := 30) dX11_gather_30 (by decide) (fun c12 => ?_) (fun c12 => ?_)
        · have F := F.1 c12
          refine wp_iconst (v := -1) (pc := 49) dX11_gather_49 (by decide) ?_
          exact r_I (pc := 50) dX11_gather_50 rfl F
        · have F := F.2 c12
          refine wp_aload (pc := 33) dX11_gather_33 rfl ?_
          refine wp_iload (pc := 35) dX11_gather_35 rfl ?_
          refine cvB [.int x4] [] (pc := 37) dX11_gather_37 ml_X11_176 iv_X0_hasPerson (TX0s_k tb4) (cl_X0 rfl) rfl rfl (Nat.le_of_ble_eq_true rfl) (Nat.le_of_ble_eq_true rfl) (wB.mono (fun r13 mi14 ml15 F => ?_) F)
          refine b_eq (tgt := 49) (pc := 40) dX11_gather_40 (by decide) (fun c16 => ?_) (fun c16 => ?_)
          · have F := F.1 c16
            refine wp_iconst (v := -1) (pc := 49) dX11_gather_49 (by decide) ?_
            exact r_I (pc := 50) dX11_gather_50 rfl F
          · have F := F.2 c16
            refine wp_iload_n (pc := 43) dX11_gather_43 rfl ?_
            refine wp_iload (pc := 44) dX11_gather_44 rfl ?_
            refine wp_icmp_ne (tgt := 51) (pc := 46) dX11_gather_46 (by decide) (fun c17 => ?_) (fun c17 => ?_)
            · have F := F.1 c17
              refine wp_aload_n (pc := 51) dX11_gather_51 rfl ?_
              refine wp_getR (pc := 52) dX11_gather_52 fl_X11_62 rfl (TX11s_k th) (TX11s_r8 th) ?_
              refine wp_aload (pc := 55) dX11_gather_55 rfl ?_
              refine cvL [] [.ref (h + 222)] (pc := 57) dX11_gather_57 ml_X11_162 iv_X0_open (TX0s_k tb4) (cl_X0 rfl) rfl rfl (Nat.le_of_ble_eq_true rfl) (Nat.le_of_ble_eq_true rfl) (wL.mono (fun r18 mi19 ml20 F => ?_) F)
              refine wp_aload_n (pc := 60) dX11_gather_60 rfl ?_
              refine wp_getR (pc := 61) dX11_gather_61 fl_X11_34 rfl (TX11s_k th) (TX11s_r4 th) ?_
              refine wp_aload (pc := 64) dX11_gather_64 rfl ?_
              refine wp_aload (pc := 66) dX11_gather_66 rfl ?_
              refine wp_getR (pc := 68) dX11_gather_68 fl_X11_144 rfl (TX0s_k tb4) (TX0s_r7 tb4) ?_
              refine wp_iload_n (pc := 71) dX11_gather_71 rfl ?_
              refine wp_iald (pc := 72) dX11_gather_72 (TX0s_a7 tb4) F.1 ?_
              have F := F.2
              refine wp_aload (pc := 73) dX11_gather_73 rfl ?_
              refine wp_iload_n (pc := 75) dX11_gather_75 rfl ?_
              refine cvI [.int x2] [.int (mi19 (b4 + 2) (Int32.toNatClampNeg x2)), .ref b4, .ref (h + 200), .long r18, .ref (h + 222)] (pc := 76) dX11_gather_76 ml_X11_179 iv_X0_rangeOf (TX0s_k tb4) (cl_X0 rfl) rfl rfl (Nat.le_of_ble_eq_true rfl) (Nat.le_of_ble_eq_true rfl) (wI.mono (fun r21 mi22 ml23 F => ?_) F)
              refine cvL [.ref b4, .int (mi19 (b4 + 2) (Int32.toNatClampNeg x2)), .int r21] [.long r18, .ref (h + 222)] (pc := 79) dX11_gather_79 ml_X11_182 iv_X7_heard (TX7s_k (TX11s_a4 th)) (cl_X7 rfl) rfl rfl (Nat.le_of_ble_eq_true rfl) (Nat.le_of_ble_eq_true rfl) (wL.mono (fun r24 mi25 ml26 F => ?_) F)
              refine cvV [.long r18, .long r24] [] (pc := 82) dX11_gather_82 ml_X11_186 iv_X2_layWays (TX2s_k (TX11s_a8 th)) (cl_X2 rfl) rfl rfl (Nat.le_of_ble_eq_true rfl) (Nat.le_of_ble_eq_true rfl) (wV.mono (fun mi28 ml29 F => ?_) F)
              refine wp_aload_n (pc := 85) dX11_gather_85 rfl ?_
              refine wp_getR (pc := 86) dX11_gather_86 fl_X11_62 rfl (TX11s_k th) (TX11s_r8 th) ?_
              refine wp_aload (pc := 89) dX11_gather_89 rfl ?_
              refine wp_getR (pc := 91) dX11_gather_91 fl_X11_190 rfl (TX0s_k tb4) (TX0s_r9 tb4) ?_
              refine wp_iload_n (pc := 94) dX11_gather_94 rfl ?_
              refine wp_iald (pc := 95) dX11_gather_95 (TX0s_a9 tb4) F.1 ?_
              have F := F.2
              refine wp_aload (pc := 96) dX11_gather_96 rfl ?_
              refine wp_getR (pc := 98) dX11_gather_98 fl_X11_190 rfl (TX0s_k tb4) (TX0s_r9 tb4) ?_
              refine wp_iload (pc := 101) dX11_gather_101 rfl ?_
              refine wp_iald (pc := 103) dX11_gather_103 (TX0s_a9 tb4) F.1 ?_
              have F := F.2
              refine wp_iload (pc := 104) dX11_gather_104 rfl ?_
              refine cvI [.int (mi28 (b4 + 4) (Int32.toNatClampNeg x3)), .int (mi28 (b4 + 4) (Int32.toNatClampNeg x4)), .int (b2i x5)] [] (pc := 106) dX11_gather_106 ml_X11_193 iv_X2_fewestMarches (TX2s_k (TX11s_a8 th)) (cl_X2 rfl) rfl rfl (Nat.le_of_ble_eq_true rfl) (Nat.le_of_ble_eq_true rfl) (wI.mono (fun r30 mi31 ml32 F => ?_) F)
              exact r_I (pc := 109) dX11_gather_109 rfl F
            · have F := F.2 c17
              refine wp_iconst (v := -1) (pc := 49) dX11_gather_49 (by decide) ?_
              exact r_I (pc := 50) dX11_gather_50 rfl F
/-- chase(III)I -/
theorem w_X11_chase {l : Launch} {d : Nat} {kd : pm_K} {mr : pm_R} {h : Nat} {x1 : Int32} {x2 : Int32} {x3 : Int32} {mi : pm_I} {ml : pm_L} {K : Int32 → pm_I → pm_L → Prop} (th : TX11s kd mr h)
    (F : wR l M_X9_cityAt d [.ref (h + 1), .int x1] kd mr mi ml (fun r1 mi2 ml3 => ((r1 = none → K (-1) mi2 ml3) ∧ (∀ b4, r1 = some b4 → TX0s kd mr b4 ∧ wB l M_X0_hasPlayer d [.ref b4, .int x2] kd mr mi2 ml3 (fun r5 mi6 ml7 => ((r5 = false → K (-1) mi6 ml7) ∧ (r5 = true → wB l M_X0_hasPerson d [.ref b4, .int x3] kd mr mi6 ml7 (fun r9 mi10 ml11 => ((r9 = true → wL l M_X0_open d [.ref b4] kd mr mi10 ml11 (fun r13 mi14 ml15 => vp_in x2 6 ∧ vp_in x3 6 ∧ wI l M_X2_turnsToCatch d [.ref (h + 222), .long r13, .int (mi14 (b4 + 2) (Int32.toNatClampNeg x2)), .int (mi14 (b4 + 4) (Int32.toNatClampNeg x3))] kd mr mi14 ml15 (fun r16 mi17 ml18 => K r16 mi17 ml18))) ∧ (r9 = false → K (-1) mi10 ml11)))))))))) :
    wI l M_X11_chase (d + 1) [.ref h, .int x1, .int x2, .int x3] kd mr mi ml K := by
  show wp l M_X11_chase (d + 1) 0 0 0 [some (.ref h), some (.int x1), some (.int x2), some (.int x3), none] [] 0 0 kd mi ml mr _
  refine wp_aload_n (pc := 0) dX11_chase_0 rfl ?_
  refine wp_getR (pc := 1) dX11_chase_1 fl_X11_10 rfl (TX11s_k th) (TX11s_r0 th) ?_
  refine wp_iload_n (pc := 4) dX11_chase_4 rfl ?_
  refine cvR [.int x1] [] (pc := 5) dX11_chase_5 ml_X11_109 iv_X9_cityAt (TX9s_k (TX11s_a0 th)) (cl_X9 rfl) rfl rfl (Nat.le_of_ble_eq_true rfl) (Nat.le_of_ble_eq_true rfl) (wR.mono (fun r1 mi2 ml3 F => ?_) F)
  cases r1 with
  | none =>
      have F := F.1 rfl
      show wp l M_X11_chase (d + 1) 0 0 _ _ (.null :: _) 0 0 kd _ _ mr _
      refine wp_astoreN (pc := 8) dX11_chase_8 (Nat.le_of_ble_eq_true rfl) rfl ?_
      show wp l M_X11_chase (d + 1) 0 0 _ [some (.ref h), some (.int x1), some (.int x2), some (.int x3), some (.null)] _ 0 0 kd _ _ mr _
      refine wp_aloadN (pc := 10) dX11_chase_10 rfl ?_
      refine wp_ifnullN (tgt := 33) (pc := 12) dX11_chase_12 (by decide) ?_
      refine wp_iconst (v := -1) (pc := 33) dX11_chase_33 (by decide) ?_
      exact r_I (pc := 34) dX11_chase_34 rfl F
  | some b4 =>
      obtain ⟨tb4, F⟩ := F.2 b4 rfl
      show wp l M_X11_chase (d + 1) 0 0 _ _ (.ref b4 :: _) 0 0 kd _ _ mr _
      refine wp_astore (pc := 8) dX11_chase_8 (Nat.le_of_ble_eq_true rfl) rfl ?_
      show wp l M_X11_chase (d + 1) 0 0 _ [some (.ref h), some (.int x1), some (.int x2), some (.int x3), some (.ref b4)] _ 0 0 kd _ _ mr _
      refine wp_aload (pc := 10) dX11_chase_10 rfl ?_
      refine wp_ifnull (pc := 12) dX11_chase_12 ?_
      refine wp_aload (pc := 15) dX11_chase_15 rfl ?_
      refine wp_iload_n (pc := 17) dX11_chase_17 rfl ?_
      refine cvB [.int x2] [] (pc := 18) dX11_chase_18 ml_X11_137 iv_X0_hasPlayer (TX0s_k tb4) (cl_X0 rfl) rfl rfl (Nat.le_of_ble_eq_true rfl) (Nat.le_of_ble_eq_true rfl) (wB.mono (fun r5 mi6 ml7 F => ?_) F)
      refine b_eq (tgt := 33) (pc := 21) dX11_chase_21 (by decide) (fun c8 => ?_) (fun c8 => ?_)
      · have F := F.1 c8
        refine wp_iconst (v := -1) (pc := 33) dX11_chase_33 (by decide) ?_
        exact r_I (pc := 34) dX11_chase_34 rfl F
      · have F := F.2 c8
        refine wp_aload (pc := 24) dX11_chase_24 rfl ?_
        refine wp_iload_n (pc := 26) dX11_chase_26 rfl ?_
        refine cvB [.int x3] [] (pc := 27) dX11_chase_27 ml_X11_176 iv_X0_hasPerson (TX0s_k tb4) (cl_X0 rfl) rfl rfl (Nat.le_of_ble_eq_true rfl) (Nat.le_of_ble_eq_true rfl) (wB.mono (fun r9 mi10 ml11 F => ?_) F)
        refine b_ne (tgt := 35) (pc := 30) dX11_chase_30 (by decide) (fun c12 => ?_) (fun c12 => ?_)
        · have F := F.1 c12
          refine wp_aload_n (pc := 35) dX11_chase_35 rfl ?_
          refine wp_getR (pc := 36) dX11_chase_36 fl_X11_62 rfl (TX11s_k th) (TX11s_r8 th) ?_
          refine wp_aload (pc := 39) dX11_chase_39 rfl ?_
          refine cvL [] [.ref (h + 222)] (pc := 41) dX11_chase_41 ml_X11_162 iv_X0_open (TX0s_k tb4) (cl_X0 rfl) rfl rfl (Nat.le_of_ble_eq_true rfl) (Nat.le_of_ble_eq_true rfl) (wL.mono (fun r13 mi14 ml15 F => ?_) F)
          refine wp_aload (pc := 44) dX11_chase_44 rfl ?_
          refine wp_getR (pc := 46) dX11_chase_46 fl_X11_144 rfl (TX0s_k tb4) (TX0s_r7 tb4) ?_
          refine wp_iload_n (pc := 49) dX11_chase_49 rfl ?_
          refine wp_iald (pc := 50) dX11_chase_50 (TX0s_a7 tb4) F.1 ?_
          have F := F.2
          refine wp_aload (pc := 51) dX11_chase_51 rfl ?_
          refine wp_getR (pc := 53) dX11_chase_53 fl_X11_190 rfl (TX0s_k tb4) (TX0s_r9 tb4) ?_
          refine wp_iload_n (pc := 56) dX11_chase_56 rfl ?_
          refine wp_iald (pc := 57) dX11_chase_57 (TX0s_a9 tb4) F.1 ?_
          have F := F.2
          refine cvI [.long r13, .int (mi14 (b4 + 2) (Int32.toNatClampNeg x2)), .int (mi14 (b4 + 4) (Int32.toNatClampNeg x3))] [] (pc := 58) dX11_chase_58 ml_X11_197 iv_X2_turnsToCatch (TX2s_k (TX11s_a8 th)) (cl_X2 rfl) rfl rfl (Nat.le_of_ble_eq_true rfl) (Nat.le_of_ble_eq_true rfl) (wI.mono (fun r16 mi17 ml18 F => ?_) F)
          exact r_I (pc := 61) dX11_chase_61 rfl F
        · have F := F.2 c12
          refine wp_iconst (v := -1) (pc := 33) dX11_chase_33 (by decide) ?_
          exact r_I (pc := 34) dX11_chase_34 rfl F
def c_X11_grown_6 (l : Launch) (d : Nat) (kd : pm_K) (mr : pm_R)  (x0 : Int64) (x2 : Int64) (x4 : Int64) (x6 : Int32) (mi : pm_I) (ml : pm_L) (K : Int64 → pm_I → pm_L → Prop) : Prop := wp l M_X11_grown d 0 0 6 [some (.long x0), none, some (.long x2), none, some (.long x4), none, some (.int x6)] [] 0 0 kd mi ml mr (qL kd mr K)
theorem w_X11_grown_6 {l : Launch} {d : Nat} {kd : pm_K} {mr : pm_R}  {x0 : Int64} {x2 : Int64} {x4 : Int64} {x6 : Int32} {mi : pm_I} {ml : pm_L} {K : Int64 → pm_I → pm_L → Prop} 
    (F : ((4 ≤ x6 → K x4 mi ml) ∧ (¬ 4 ≤ x6 → wL l M_X11_moved d [.long x0, .int x6] kd mr mi ml (fun r2 mi3 ml4 => c_X11_grown_6 l (d + 1) kd mr  x0 x2 (x4 ||| (r2 &&& x2)) (x6 + 1) mi3 ml4 K)))) :
    c_X11_grown_6 l (d + 1) kd mr x0 x2 x4 x6 mi ml K := by
  show wp l M_X11_grown (d + 1) 0 0 6 [some (.long x0), none, some (.long x2), none, some (.long x4), none, some (.int x6)] [] 0 0 kd mi ml mr _
  refine wp_iload (pc := 6) dX11_grown_6 rfl ?_
  refine wp_iconst (v := 4) (pc := 8) dX11_grown_8 (by decide) ?_
  refine wp_icmp_ge (tgt := 31) (pc := 9) dX11_grown_9 (by decide) (fun c1 => ?_) (fun c1 => ?_)
  · have F := F.1 c1
    refine wp_lload (pc := 31) dX11_grown_31 rfl ?_
    exact r_L (pc := 33) dX11_grown_33 rfl F
  · have F := F.2 c1
    refine wp_lload (pc := 12) dX11_grown_12 rfl ?_
    refine wp_lload_n (pc := 14) dX11_grown_14 rfl ?_
    refine wp_iload (pc := 15) dX11_grown_15 rfl ?_
    refine csL [.long x0, .int x6] [.long x4] (pc := 17) dX11_grown_17 ml_X11_290 st_X11_moved rfl rfl (Nat.le_of_ble_eq_true rfl) (Nat.le_of_ble_eq_true rfl) (wL.mono (fun r2 mi3 ml4 F => ?_) F)
    refine wp_lload_n (pc := 20) dX11_grown_20 rfl ?_
    refine wp_land (pc := 21) dX11_grown_21 ?_
    refine wp_lor (pc := 22) dX11_grown_22 ?_
    refine wp_lstore (pc := 23) dX11_grown_23 (Nat.le_of_ble_eq_true rfl) rfl ?_
    show wp l M_X11_grown (d + 1) 0 0 _ [some (.long x0), none, some (.long x2), none, some (.long (x4 ||| (r2 &&& x2))), none, some (.int x6)] _ 0 0 kd _ _ mr _
    refine wp_iinc (v := (x6 + 1)) (pc := 25) dX11_grown_25 rfl rfl rfl ?_
    show wp l M_X11_grown (d + 1) 0 0 _ [some (.long x0), none, some (.long x2), none, some (.long (x4 ||| (r2 &&& x2))), none, some (.int (x6 + 1))] _ 0 0 kd _ _ mr _
    refine wp_goto (tgt := 6) (pc := 28) dX11_grown_28 (by decide) ?_
    exact wp_less (L' := [some (.long x0), none, some (.long x2), none, some (.long (x4 ||| (r2 &&& x2))), none, some (.int (x6 + 1))]) ⟨rfl, ⟨rfl, ⟨rfl, ⟨rfl, trivial⟩⟩⟩⟩ F
/-- grown(JJ)J -/
theorem w_X11_grown {l : Launch} {d : Nat} {kd : pm_K} {mr : pm_R}  {x0 : Int64} {x2 : Int64} {mi : pm_I} {ml : pm_L} {K : Int64 → pm_I → pm_L → Prop} 
    (F : c_X11_grown_6 l (d + 1) kd mr  x0 x2 x0 0 mi ml K) :
    wL l M_X11_grown (d + 1) [.long x0, .long x2] kd mr mi ml K := by
  show wp l M_X11_grown (d + 1) 0 0 0 [some (.long x0), none, some (.long x2), none, none, none, none] [] 0 0 kd mi ml mr _
  refine wp_lload_n (pc := 0) dX11_grown_0 rfl ?_
  refine wp_lstore (pc := 1) dX11_grown_1 (Nat.le_of_ble_eq_true rfl) rfl ?_
  show wp l M_X11_grown (d + 1) 0 0 _ [some (.long x0), none, some (.long x2), none, some (.long x0), none, none] _ 0 0 kd _ _ mr _
  refine wp_iconst (v := 0) (pc := 3) dX11_grown_3 (by decide) ?_
  refine wp_istore (pc := 4) dX11_grown_4 (Nat.le_of_ble_eq_true rfl) rfl ?_
  show wp l M_X11_grown (d + 1) 0 0 _ [some (.long x0), none, some (.long x2), none, some (.long x0), none, some (.int 0)] _ 0 0 kd _ _ mr _
  exact wp_less (L' := [some (.long x0), none, some (.long x2), none, some (.long x0), none, some (.int 0)]) ⟨rfl, ⟨rfl, ⟨rfl, ⟨rfl, trivial⟩⟩⟩⟩ F
/-- programme(III)I -/
theorem w_X11_programme {l : Launch} {d : Nat} {kd : pm_K} {mr : pm_R} {h : Nat} {x1 : Int32} {x2 : Int32} {x3 : Int32} {mi : pm_I} {ml : pm_L} {K : Int32 → pm_I → pm_L → Prop} (th : TX11s kd mr h)
    (F : wR l M_X9_cityAt d [.ref (h + 1), .int x1] kd mr mi ml (fun r1 mi2 ml3 => ((r1 = none → K (-1) mi2 ml3) ∧ (∀ b4, r1 = some b4 → TX0s kd mr b4 ∧ ((x2 < 0 → K (-1) mi2 ml3) ∧ (¬ x2 < 0 → ((12 < x2 → K (-1) mi2 ml3) ∧ (¬ 12 < x2 → ((x3 < (-2) → K (-1) mi2 ml3) ∧ (¬ x3 < (-2) → ((x3 < x2 → wV l M_X4_plan d [.ref (h + 229), .ref (b4 + 5), .int x2, .int (b2i (decide (x3 = (-2))))] kd mr mi2 ml3 (fun mi13 ml14 => ((0 ≤ x3 → wI l M_X4_commandAt d [.ref (h + 229), .ref (b4 + 5), .int x2, .int x3] kd mr mi13 ml14 (fun r16 mi17 ml18 => K r16 mi17 ml18)) ∧ (¬ 0 ≤ x3 → wI l M_X4_mostOf d [.ref (h + 229), .int x2] kd mr mi13 ml14 (fun r19 mi20 ml21 => K r19 mi20 ml21))))) ∧ (¬ x3 < x2 → K (-1) mi2 ml3)))))))))))) :
    wI l M_X11_programme (d + 1) [.ref h, .int x1, .int x2, .int x3] kd mr mi ml K := by
  show wp l M_X11_programme (d + 1) 0 0 0 [some (.ref h), some (.int x1), some (.int x2), some (.int x3), none, none] [] 0 0 kd mi ml mr _
  refine wp_aload_n (pc := 0) dX11_programme_0 rfl ?_
  refine wp_getR (pc := 1) dX11_programme_1 fl_X11_10 rfl (TX11s_k th) (TX11s_r0 th) ?_
  refine wp_iload_n (pc := 4) dX11_programme_4 rfl ?_
  refine cvR [.int x1] [] (pc := 5) dX11_programme_5 ml_X11_109 iv_X9_cityAt (TX9s_k (TX11s_a0 th)) (cl_X9 rfl) rfl rfl (Nat.le_of_ble_eq_true rfl) (Nat.le_of_ble_eq_true rfl) (wR.mono (fun r1 mi2 ml3 F => ?_) F)
  cases r1 with
  | none =>
      have F := F.1 rfl
      show wp l M_X11_programme (d + 1) 0 0 _ _ (.null :: _) 0 0 kd _ _ mr _
      refine wp_astoreN (pc := 8) dX11_programme_8 (Nat.le_of_ble_eq_true rfl) rfl ?_
      show wp l M_X11_programme (d + 1) 0 0 _ [some (.ref h), some (.int x1), some (.int x2), some (.int x3), some (.null), none] _ 0 0 kd _ _ mr _
      refine wp_aloadN (pc := 10) dX11_programme_10 rfl ?_
      refine wp_ifnullN (tgt := 36) (pc := 12) dX11_programme_12 (by decide) ?_
      refine wp_iconst (v := -1) (pc := 36) dX11_programme_36 (by decide) ?_
      exact r_I (pc := 37) dX11_programme_37 rfl F
  | some b4 =>
      obtain ⟨tb4, F⟩ := F.2 b4 rfl
      show wp l M_X11_programme (d + 1) 0 0 _ _ (.ref b4 :: _) 0 0 kd _ _ mr _
      refine wp_astore (pc := 8) dX11_programme_8 (Nat.le_of_ble_eq_true rfl) rfl ?_
      show wp l M_X11_programme (d + 1) 0 0 _ [some (.ref h), some (.int x1), some (.int x2), some (.int x3), some (.ref b4), none] _ 0 0 kd _ _ mr _
      refine wp_aload (pc := 10) dX11_programme_10 rfl ?_
      refine wp_ifnull (pc := 12) dX11_programme_12 ?_
      refine wp_iload_n (pc := 15) dX11_programme_15 rfl ?_
      refine wp_if_lt (tgt := 36) (pc := 16) dX11_programme_16 (by decide) (fun c5 => ?_) (fun c5 => ?_)
      · have F := F.1 c5
        refine wp_iconst (v := -1) (pc := 36) dX11_programme_36 (by decide) ?_
        exact r_I (pc := 37) dX11_programme_37 rfl F
      · have F := F.2 c5
        refine wp_iload_n (pc := 19) dX11_programme_19 rfl ?_
        refine wp_bipush (v := 12) (pc := 20) dX11_programme_20 (by decide) ?_
        refine wp_icmp_gt (tgt := 36) (pc := 22) dX11_programme_22 (by decide) (fun c6 => ?_) (fun c6 => ?_)
        · have F := F.1 c6
          refine wp_iconst (v := -1) (pc := 36) dX11_programme_36 (by decide) ?_
          exact r_I (pc := 37) dX11_programme_37 rfl F
        · have F := F.2 c6
          refine wp_iload_n (pc := 25) dX11_programme_25 rfl ?_
          refine wp_bipush (v := -2) (pc := 26) dX11_programme_26 (by decide) ?_
          refine wp_icmp_lt (tgt := 36) (pc := 28) dX11_programme_28 (by decide) (fun c7 => ?_) (fun c7 => ?_)
          · have F := F.1 c7
            refine wp_iconst (v := -1) (pc := 36) dX11_programme_36 (by decide) ?_
            exact r_I (pc := 37) dX11_programme_37 rfl F
          · have F := F.2 c7
            refine wp_iload_n (pc := 31) dX11_programme_31 rfl ?_
            refine wp_iload_n (pc := 32) dX11_programme_32 rfl ?_
            refine wp_icmp_lt (tgt := 38) (pc := 33) dX11_programme_33 (by decide) (fun c8 => ?_) (fun c8 => ?_)
            · have F := F.1 c8
              refine wp_iload_n (pc := 38) dX11_programme_38 rfl ?_
              refine wp_bipush (v := -2) (pc := 39) dX11_programme_39 (by decide) ?_
              suffices J9 : ∀ v10 : Int32, v10 = (b2i (decide (x3 = (-2)))) → wp l M_X11_programme (d + 1) 0 0 49 [some (.ref h), some (.int x1), some (.int x2), some (.int x3), some (.ref b4), none] [.int v10] 0 0 kd mi2 ml3 mr _ by
                  refine wp_icmp_ne (tgt := 48) (pc := 41) dX11_programme_41 (by decide) (fun c11 => ?_) (fun c11 => ?_)
                  · refine wp_iconst (v := 0) (pc := 48) dX11_programme_48 (by decide) ?_
                    exact J9 _ (by simp only [c11, if_true, if_false, decide_true, decide_false, Bool.not_true, Bool.not_false, Bool.true_and, Bool.false_and, Bool.true_or, Bool.false_or, b2i_t, b2i_f, ite_true, ite_false, not_true_eq_false, not_false_eq_true, reduceCtorEq, decide_eq_true_eq])
                  · refine wp_iconst (v := 1) (pc := 44) dX11_programme_44 (by decide) ?_
                    refine wp_goto (tgt := 49) (pc := 45) dX11_programme_45 (by decide) ?_
                    exact J9 _ (by simp only [eq_true c11, if_true, if_false, decide_true, decide_false, Bool.not_true, Bool.not_false, Bool.true_and, Bool.false_and, Bool.true_or, Bool.false_or, b2i_t, b2i_f, ite_true, ite_false, not_true_eq_false, not_false_eq_true, reduceCtorEq, decide_eq_true_eq])
              intro v10 ev10
              subst ev10
              refine wp_istore (pc := 49) dX11_programme_49 (Nat.le_of_ble_eq_true rfl) rfl ?_
              show wp l M_X11_programme (d + 1) 0 0 _ [some (.ref h), some (.int x1), some (.int x2), some (.int x3), some (.ref b4), some (.int (b2i (decide (x3 = (-2)))))] _ 0 0 kd _ _ mr _
              refine wp_aload_n (pc := 51) dX11_programme_51 rfl ?_
              refine wp_getR (pc := 52) dX11_programme_52 fl_X11_69 rfl (TX11s_k th) (TX11s_r9 th) ?_
              refine wp_aload (pc := 55) dX11_programme_55 rfl ?_
              refine wp_getR (pc := 57) dX11_programme_57 fl_X11_201 rfl (TX0s_k tb4) (TX0s_r10 tb4) ?_
              refine wp_iload_n (pc := 60) dX11_programme_60 rfl ?_
              refine wp_iload (pc := 61) dX11_programme_61 rfl ?_
              refine cvV [.ref (b4 + 5), .int x2, .int (b2i (decide (x3 = (-2))))] [] (pc := 63) dX11_programme_63 ml_X11_204 iv_X4_plan (TX4s_k (TX11s_a9 th)) (cl_X4 rfl) rfl rfl (Nat.le_of_ble_eq_true rfl) (Nat.le_of_ble_eq_true rfl) (wV.mono (fun mi13 ml14 F => ?_) F)
              refine wp_iload_n (pc := 66) dX11_programme_66 rfl ?_
              refine wp_if_ge (tgt := 81) (pc := 67) dX11_programme_67 (by decide) (fun c15 => ?_) (fun c15 => ?_)
              · have F := F.1 c15
                refine wp_aload_n (pc := 81) dX11_programme_81 rfl ?_
                refine wp_getR (pc := 82) dX11_programme_82 fl_X11_69 rfl (TX11s_k th) (TX11s_r9 th) ?_
                refine wp_aload (pc := 85) dX11_programme_85 rfl ?_
                refine wp_getR (pc := 87) dX11_programme_87 fl_X11_201 rfl (TX0s_k tb4) (TX0s_r10 tb4) ?_
                refine wp_iload_n (pc := 90) dX11_programme_90 rfl ?_
                refine wp_iload_n (pc := 91) dX11_programme_91 rfl ?_
                refine cvI [.ref (b4 + 5), .int x2, .int x3] [] (pc := 92) dX11_programme_92 ml_X11_211 iv_X4_commandAt (TX4s_k (TX11s_a9 th)) (cl_X4 rfl) rfl rfl (Nat.le_of_ble_eq_true rfl) (Nat.le_of_ble_eq_true rfl) (wI.mono (fun r16 mi17 ml18 F => ?_) F)
                exact r_I (pc := 95) dX11_programme_95 rfl F
              · have F := F.2 c15
                refine wp_aload_n (pc := 70) dX11_programme_70 rfl ?_
                refine wp_getR (pc := 71) dX11_programme_71 fl_X11_69 rfl (TX11s_k th) (TX11s_r9 th) ?_
                refine wp_iload_n (pc := 74) dX11_programme_74 rfl ?_
                refine cvI [.int x2] [] (pc := 75) dX11_programme_75 ml_X11_208 iv_X4_mostOf (TX4s_k (TX11s_a9 th)) (cl_X4 rfl) rfl rfl (Nat.le_of_ble_eq_true rfl) (Nat.le_of_ble_eq_true rfl) (wI.mono (fun r19 mi20 ml21 F => ?_) F)
                refine wp_goto (tgt := 95) (pc := 78) dX11_programme_78 (by decide) ?_
                exact r_I (pc := 95) dX11_programme_95 rfl F
            · have F := F.2 c8
              refine wp_iconst (v := -1) (pc := 36) dX11_programme_36 (by decide) ?_
              exact r_I (pc := 37) dX11_programme_37 rfl F
/-- part(IIZ)I -/
theorem w_X11_part {l : Launch} {d : Nat} {kd : pm_K} {mr : pm_R} {h : Nat} {x1 : Int32} {x2 : Int32} {x3 : Bool} {mi : pm_I} {ml : pm_L} {K : Int32 → pm_I → pm_L → Prop} (th : TX11s kd mr h)
    (F : wR l M_X9_cityAt d [.ref (h + 1), .int x1] kd mr mi ml (fun r1 mi2 ml3 => ((r1 = none → K (-1) mi2 ml3) ∧ (∀ b4, r1 = some b4 → TX0s kd mr b4 ∧ ((x2 < (-1) → K (-1) mi2 ml3) ∧ (¬ x2 < (-1) → ((x2 ≤ (mi2 b4 0) → ((¬ x2 = (-1) → wI l M_X0_peopleLeftOf d [.ref b4, .int x2] kd mr mi2 ml3 (fun r8 mi9 ml10 => K (if x3 = true then ((mi9 b4 5) - r8) else r8) mi9 ml10)) ∧ (x2 = (-1) → wI l M_X0_fairestColumn d [.ref b4] kd mr mi2 ml3 (fun r14 mi15 ml16 => K r14 mi15 ml16)))) ∧ (¬ x2 ≤ (mi2 b4 0) → K (-1) mi2 ml3)))))))) :
    wI l M_X11_part (d + 1) [.ref h, .int x1, .int x2, .int (b2i x3)] kd mr mi ml K := by
  show wp l M_X11_part (d + 1) 0 0 0 [some (.ref h), some (.int x1), some (.int x2), some (.int (b2i x3)), none, none] [] 0 0 kd mi ml mr _
  refine wp_aload_n (pc := 0) dX11_part_0 rfl ?_
  refine wp_getR (pc := 1) dX11_part_1 fl_X11_10 rfl (TX11s_k th) (TX11s_r0 th) ?_
  refine wp_iload_n (pc := 4) dX11_part_4 rfl ?_
  refine cvR [.int x1] [] (pc := 5) dX11_part_5 ml_X11_109 iv_X9_cityAt (TX9s_k (TX11s_a0 th)) (cl_X9 rfl) rfl rfl (Nat.le_of_ble_eq_true rfl) (Nat.le_of_ble_eq_true rfl) (wR.mono (fun r1 mi2 ml3 F => ?_) F)
  cases r1 with
  | none =>
      have F := F.1 rfl
      show wp l M_X11_part (d + 1) 0 0 _ _ (.null :: _) 0 0 kd _ _ mr _
      refine wp_astoreN (pc := 8) dX11_part_8 (Nat.le_of_ble_eq_true rfl) rfl ?_
      show wp l M_X11_part (d + 1) 0 0 _ [some (.ref h), some (.int x1), some (.int x2), some (.int (b2i x3)), some (.null), none] _ 0 0 kd _ _ mr _
      refine wp_aloadN (pc := 10) dX11_part_10 rfl ?_
      refine wp_ifnullN (tgt := 29) (pc := 12) dX11_part_12 (by decide) ?_
      refine wp_iconst (v := -1) (pc := 29) dX11_part_29 (by decide) ?_
      exact r_I (pc := 30) dX11_part_30 rfl F
  | some b4 =>
      obtain ⟨tb4, F⟩ := F.2 b4 rfl
      show wp l M_X11_part (d + 1) 0 0 _ _ (.ref b4 :: _) 0 0 kd _ _ mr _
      refine wp_astore (pc := 8) dX11_part_8 (Nat.le_of_ble_eq_true rfl) rfl ?_
      show wp l M_X11_part (d + 1) 0 0 _ [some (.ref h), some (.int x1), some (.int x2), some (.int (b2i x3)), some (.ref b4), none] _ 0 0 kd _ _ mr _
      refine wp_aload (pc := 10) dX11_part_10 rfl ?_
      refine wp_ifnull (pc := 12) dX11_part_12 ?_
      refine wp_iload_n (pc := 15) dX11_part_15 rfl ?_
      refine wp_iconst (v := -1) (pc := 16) dX11_part_16 (by decide) ?_
      refine wp_icmp_lt (tgt := 29) (pc := 17) dX11_part_17 (by decide) (fun c5 => ?_) (fun c5 => ?_)
      · have F := F.1 c5
        refine wp_iconst (v := -1) (pc := 29) dX11_part_29 (by decide) ?_
        exact r_I (pc := 30) dX11_part_30 rfl F
      · have F := F.2 c5
        refine wp_iload_n (pc := 20) dX11_part_20 rfl ?_
        refine wp_aload (pc := 21) dX11_part_21 rfl ?_
        refine wp_getI (pc := 23) dX11_part_23 fl_X11_215 rfl (TX0s_k tb4) ?_
        refine wp_icmp_le (tgt := 31) (pc := 26) dX11_part_26 (by decide) (fun c6 => ?_) (fun c6 => ?_)
        · have F := F.1 c6
          refine wp_iload_n (pc := 31) dX11_part_31 rfl ?_
          refine wp_iconst (v := -1) (pc := 32) dX11_part_32 (by decide) ?_
          refine wp_icmp_ne (tgt := 42) (pc := 33) dX11_part_33 (by decide) (fun c7 => ?_) (fun c7 => ?_)
          · have F := F.1 c7
            refine wp_aload (pc := 42) dX11_part_42 rfl ?_
            refine wp_iload_n (pc := 44) dX11_part_44 rfl ?_
            refine cvI [.int x2] [] (pc := 45) dX11_part_45 ml_X11_222 iv_X0_peopleLeftOf (TX0s_k tb4) (cl_X0 rfl) rfl rfl (Nat.le_of_ble_eq_true rfl) (Nat.le_of_ble_eq_true rfl) (wI.mono (fun r8 mi9 ml10 F => ?_) F)
            refine wp_istore (pc := 48) dX11_part_48 (Nat.le_of_ble_eq_true rfl) rfl ?_
            show wp l M_X11_part (d + 1) 0 0 _ [some (.ref h), some (.int x1), some (.int x2), some (.int (b2i x3)), some (.ref b4), some (.int r8)] _ 0 0 kd _ _ mr _
            refine wp_iload_n (pc := 50) dX11_part_50 rfl ?_
            suffices J11 : ∀ v12 : Int32, v12 = (if x3 = true then ((mi9 b4 5) - r8) else r8) → wp l M_X11_part (d + 1) 0 0 67 [some (.ref h), some (.int x1), some (.int x2), some (.int (b2i x3)), some (.ref b4), some (.int r8)] [.int v12] 0 0 kd mi9 ml10 mr _ by
                refine b_eq (tgt := 65) (pc := 51) dX11_part_51 (by decide) (fun c13 => ?_) (fun c13 => ?_)
                · refine wp_iload (pc := 65) dX11_part_65 rfl ?_
                  exact J11 _ (by simp only [c13, if_true, if_false, decide_true, decide_false, Bool.not_true, Bool.not_false, Bool.true_and, Bool.false_and, Bool.true_or, Bool.false_or, b2i_t, b2i_f, ite_true, ite_false, not_true_eq_false, not_false_eq_true, reduceCtorEq, decide_eq_true_eq])
                · refine wp_aload (pc := 54) dX11_part_54 rfl ?_
                  refine wp_getI (pc := 56) dX11_part_56 fl_X11_225 rfl (TX0s_k tb4) ?_
                  refine wp_iload (pc := 59) dX11_part_59 rfl ?_
                  refine wp_isub (pc := 61) dX11_part_61 ?_
                  refine wp_goto (tgt := 67) (pc := 62) dX11_part_62 (by decide) ?_
                  exact J11 _ (by simp only [c13, if_true, if_false, decide_true, decide_false, Bool.not_true, Bool.not_false, Bool.true_and, Bool.false_and, Bool.true_or, Bool.false_or, b2i_t, b2i_f, ite_true, ite_false, not_true_eq_false, not_false_eq_true, reduceCtorEq, decide_eq_true_eq])
            intro v12 ev12
            subst ev12
            exact r_I (pc := 67) dX11_part_67 rfl F
          · have F := F.2 c7
            refine wp_aload (pc := 36) dX11_part_36 rfl ?_
            refine cvI [] [] (pc := 38) dX11_part_38 ml_X11_218 iv_X0_fairestColumn (TX0s_k tb4) (cl_X0 rfl) rfl rfl (Nat.le_of_ble_eq_true rfl) (Nat.le_of_ble_eq_true rfl) (wI.mono (fun r14 mi15 ml16 F => ?_) F)
            exact r_I (pc := 41) dX11_part_41 rfl F
        · have F := F.2 c6
          refine wp_iconst (v := -1) (pc := 29) dX11_part_29 (by decide) ?_
          exact r_I (pc := 30) dX11_part_30 rfl F
def c_X0_fairestColumn_47 (l : Launch) (d : Nat) (kd : pm_K) (mr : pm_R) (h : Nat) (x1 : Int32) (x2 : Int32) (x3 : Int32) (mi : pm_I) (ml : pm_L) (K : Int32 → pm_I → pm_L → Prop) : Prop := wp l M_X0_fairestColumn d 0 0 47 [some (.ref h), some (.int x1), some (.int x2), some (.int x3), none] [] 0 0 kd mi ml mr (qI kd mr K)
def c_X0_fairestColumn_11 (l : Launch) (d : Nat) (kd : pm_K) (mr : pm_R) (h : Nat) (x1 : Int32) (x2 : Int32) (x3 : Int32) (mi : pm_I) (ml : pm_L) (K : Int32 → pm_I → pm_L → Prop) : Prop := wp l M_X0_fairestColumn d 0 0 11 [some (.ref h), some (.int x1), some (.int x2), some (.int x3), none] [] 0 0 kd mi ml mr (qI kd mr K)
theorem w_X0_fairestColumn_11 {l : Launch} {d : Nat} {kd : pm_K} {mr : pm_R} {h : Nat} {x1 : Int32} {x2 : Int32} {x3 : Int32} {mi : pm_I} {ml : pm_L} {K : Int32 → pm_I → pm_L → Prop} (th : TX0s kd mr h)
    (F : (((mi h 0) < x3 → K x1 mi ml) ∧ (¬ (mi h 0) < x3 → wI l M_X0_peopleLeftOf d [.ref h, .int x3] kd mr mi ml (fun r2 mi3 ml4 => ((x2 ≤ (if 0 ≤ ((mi h 5) - (2 * r2)) then ((mi h 5) - (2 * r2)) else 0 - ((mi h 5) - (2 * r2))) → c_X0_fairestColumn_47 l (d + 1) kd mr h x1 x2 x3 mi3 ml4 K) ∧ (¬ x2 ≤ (if 0 ≤ ((mi h 5) - (2 * r2)) then ((mi h 5) - (2 * r2)) else 0 - ((mi h 5) - (2 * r2))) → c_X0_fairestColumn_47 l (d + 1) kd mr h x3 (if 0 ≤ ((mi h 5) - (2 * r2)) then ((mi h 5) - (2 * r2)) else 0 - ((mi h 5) - (2 * r2))) x3 mi3 ml4 K)))))) :
    c_X0_fairestColumn_11 l (d + 1) kd mr h x1 x2 x3 mi ml K := by
  show wp l M_X0_fairestColumn (d + 1) 0 0 11 [some (.ref h), some (.int x1), some (.int x2), some (.int x3), none] [] 0 0 kd mi ml mr _
  refine wp_iload_n (pc := 11) dX0_fairestColumn_11 rfl ?_
  refine wp_aload_n (pc := 12) dX0_fairestColumn_12 rfl ?_
  refine wp_getI (pc := 13) dX0_fairestColumn_13 fl_X0_27 rfl (TX0s_k th) ?_
  refine wp_icmp_gt (tgt := 53) (pc := 16) dX0_fairestColumn_16 (by decide) (fun c1 => ?_) (fun c1 => ?_)
  · have F := F.1 c1
    refine wp_iload_n (pc := 53) dX0_fairestColumn_53 rfl ?_
    exact r_I (pc := 54) dX0_fairestColumn_54 rfl F
  · have F := F.2 c1
    refine wp_aload_n (pc := 19) dX0_fairestColumn_19 rfl ?_
    refine wp_getI (pc := 20) dX0_fairestColumn_20 fl_X0_44 rfl (TX0s_k th) ?_
    refine wp_iconst (v := 2) (pc := 23) dX0_fairestColumn_23 (by decide) ?_
    refine wp_aload_n (pc := 24) dX0_fairestColumn_24 rfl ?_
    refine wp_iload_n (pc := 25) dX0_fairestColumn_25 rfl ?_
    refine cvI [.int x3] [.int 2, .int (mi h 5)] (pc := 26) dX0_fairestColumn_26 ml_X0_105 iv_X0_peopleLeftOf (TX0s_k th) (cl_X0 rfl) rfl rfl (Nat.le_of_ble_eq_true rfl) (Nat.le_of_ble_eq_true rfl) (wI.mono (fun r2 mi3 ml4 F => ?_) F)
    refine wp_imul (pc := 29) dX0_fairestColumn_29 ?_
    refine wp_isub (pc := 30) dX0_fairestColumn_30 ?_
    refine wp_abs (pc := 31) dX0_fairestColumn_31 ⟨tb_4 236 rfl rfl, tb_4 237 rfl rfl, tb_1 14 rfl rfl, tb_4 238 rfl rfl⟩ (Nat.succ_pos d) (Nat.le_of_ble_eq_true rfl) ⟨Nat.le_refl 0, Nat.le_refl 0⟩ ?_
    refine wp_istore (pc := 34) dX0_fairestColumn_34 (Nat.le_of_ble_eq_true rfl) rfl ?_
    show wp l M_X0_fairestColumn (d + 1) 0 0 _ [some (.ref h), some (.int x1), some (.int x2), some (.int x3), some (.int (if 0 ≤ ((mi h 5) - (2 * r2)) then ((mi h 5) - (2 * r2)) else 0 - ((mi h 5) - (2 * r2))))] _ 0 0 kd _ _ mr _
    refine wp_iload (pc := 36) dX0_fairestColumn_36 rfl ?_
    refine wp_iload_n (pc := 38) dX0_fairestColumn_38 rfl ?_
    refine wp_icmp_ge (tgt := 47) (pc := 39) dX0_fairestColumn_39 (by decide) (fun c5 => ?_) (fun c5 => ?_)
    · have F := F.1 c5
      exact wp_less (L' := [some (.ref h), some (.int x1), some (.int x2), some (.int x3), none]) ⟨rfl, ⟨rfl, ⟨rfl, ⟨rfl, trivial⟩⟩⟩⟩ F
    · have F := F.2 c5
      refine wp_iload (pc := 42) dX0_fairestColumn_42 rfl ?_
      refine wp_istore_n (pc := 44) dX0_fairestColumn_44 (Nat.le_of_ble_eq_true rfl) rfl ?_
      show wp l M_X0_fairestColumn (d + 1) 0 0 _ [some (.ref h), some (.int x1), some (.int (if 0 ≤ ((mi h 5) - (2 * r2)) then ((mi h 5) - (2 * r2)) else 0 - ((mi h 5) - (2 * r2)))), some (.int x3), some (.int (if 0 ≤ ((mi h 5) - (2 * r2)) then ((mi h 5) - (2 * r2)) else 0 - ((mi h 5) - (2 * r2))))] _ 0 0 kd _ _ mr _
      refine wp_iload_n (pc := 45) dX0_fairestColumn_45 rfl ?_
      refine wp_istore_n (pc := 46) dX0_fairestColumn_46 (Nat.le_of_ble_eq_true rfl) rfl ?_
      show wp l M_X0_fairestColumn (d + 1) 0 0 _ [some (.ref h), some (.int x3), some (.int (if 0 ≤ ((mi h 5) - (2 * r2)) then ((mi h 5) - (2 * r2)) else 0 - ((mi h 5) - (2 * r2)))), some (.int x3), some (.int (if 0 ≤ ((mi h 5) - (2 * r2)) then ((mi h 5) - (2 * r2)) else 0 - ((mi h 5) - (2 * r2))))] _ 0 0 kd _ _ mr _
      exact wp_less (L' := [some (.ref h), some (.int x3), some (.int (if 0 ≤ ((mi h 5) - (2 * r2)) then ((mi h 5) - (2 * r2)) else 0 - ((mi h 5) - (2 * r2)))), some (.int x3), none]) ⟨rfl, ⟨rfl, ⟨rfl, ⟨rfl, trivial⟩⟩⟩⟩ F
theorem w_X0_fairestColumn_47 {l : Launch} {d : Nat} {kd : pm_K} {mr : pm_R} {h : Nat} {x1 : Int32} {x2 : Int32} {x3 : Int32} {mi : pm_I} {ml : pm_L} {K : Int32 → pm_I → pm_L → Prop} (th : TX0s kd mr h)
    (F : c_X0_fairestColumn_11 l (d + 1) kd mr h x1 x2 (x3 + 1) mi ml K) :
    c_X0_fairestColumn_47 l (d + 1) kd mr h x1 x2 x3 mi ml K := by
  show wp l M_X0_fairestColumn (d + 1) 0 0 47 [some (.ref h), some (.int x1), some (.int x2), some (.int x3), none] [] 0 0 kd mi ml mr _
  refine wp_iinc (v := (x3 + 1)) (pc := 47) dX0_fairestColumn_47 rfl rfl rfl ?_
  show wp l M_X0_fairestColumn (d + 1) 0 0 _ [some (.ref h), some (.int x1), some (.int x2), some (.int (x3 + 1)), none] _ 0 0 kd _ _ mr _
  refine wp_goto (tgt := 11) (pc := 50) dX0_fairestColumn_50 (by decide) ?_
  exact wp_less (L' := [some (.ref h), some (.int x1), some (.int x2), some (.int (x3 + 1)), none]) ⟨rfl, ⟨rfl, ⟨rfl, ⟨rfl, trivial⟩⟩⟩⟩ F
/-- fairestColumn()I -/
theorem w_X0_fairestColumn {l : Launch} {d : Nat} {kd : pm_K} {mr : pm_R} {h : Nat}  {mi : pm_I} {ml : pm_L} {K : Int32 → pm_I → pm_L → Prop} (th : TX0s kd mr h)
    (F : c_X0_fairestColumn_11 l (d + 1) kd mr h 0 ((mi h 5) + 1) 0 mi ml K) :
    wI l M_X0_fairestColumn (d + 1) [.ref h] kd mr mi ml K := by
  show wp l M_X0_fairestColumn (d + 1) 0 0 0 [some (.ref h), none, none, none, none] [] 0 0 kd mi ml mr _
  refine wp_iconst (v := 0) (pc := 0) dX0_fairestColumn_0 (by decide) ?_
  refine wp_istore_n (pc := 1) dX0_fairestColumn_1 (Nat.le_of_ble_eq_true rfl) rfl ?_
  show wp l M_X0_fairestColumn (d + 1) 0 0 _ [some (.ref h), some (.int 0), none, none, none] _ 0 0 kd _ _ mr _
  refine wp_aload_n (pc := 2) dX0_fairestColumn_2 rfl ?_
  refine wp_getI (pc := 3) dX0_fairestColumn_3 fl_X0_44 rfl (TX0s_k th) ?_
  refine wp_iconst (v := 1) (pc := 6) dX0_fairestColumn_6 (by decide) ?_
  refine wp_iadd (pc := 7) dX0_fairestColumn_7 ?_
  refine wp_istore_n (pc := 8) dX0_fairestColumn_8 (Nat.le_of_ble_eq_true rfl) rfl ?_
  show wp l M_X0_fairestColumn (d + 1) 0 0 _ [some (.ref h), some (.int 0), some (.int ((mi h 5) + 1)), none, none] _ 0 0 kd _ _ mr _
  refine wp_iconst (v := 0) (pc := 9) dX0_fairestColumn_9 (by decide) ?_
  refine wp_istore_n (pc := 10) dX0_fairestColumn_10 (Nat.le_of_ble_eq_true rfl) rfl ?_
  show wp l M_X0_fairestColumn (d + 1) 0 0 _ [some (.ref h), some (.int 0), some (.int ((mi h 5) + 1)), some (.int 0), none] _ 0 0 kd _ _ mr _
  exact wp_less (L' := [some (.ref h), some (.int 0), some (.int ((mi h 5) + 1)), some (.int 0), none]) ⟨rfl, ⟨rfl, ⟨rfl, ⟨rfl, trivial⟩⟩⟩⟩ F
def c_X0_peopleLeftOf_28 (l : Launch) (d : Nat) (kd : pm_K) (mr : pm_R) (h : Nat) (x1 : Int32) (x2 : Int32) (x3 : Int32) (mi : pm_I) (ml : pm_L) (K : Int32 → pm_I → pm_L → Prop) : Prop := wp l M_X0_peopleLeftOf d 0 0 28 [some (.ref h), some (.int x1), some (.int x2), some (.int x3)] [] 0 0 kd mi ml mr (qI kd mr K)
def c_X0_peopleLeftOf_4 (l : Launch) (d : Nat) (kd : pm_K) (mr : pm_R) (h : Nat) (x1 : Int32) (x2 : Int32) (x3 : Int32) (mi : pm_I) (ml : pm_L) (K : Int32 → pm_I → pm_L → Prop) : Prop := wp l M_X0_peopleLeftOf d 0 0 4 [some (.ref h), some (.int x1), some (.int x2), some (.int x3)] [] 0 0 kd mi ml mr (qI kd mr K)
theorem w_X0_peopleLeftOf_4 {l : Launch} {d : Nat} {kd : pm_K} {mr : pm_R} {h : Nat} {x1 : Int32} {x2 : Int32} {x3 : Int32} {mi : pm_I} {ml : pm_L} {K : Int32 → pm_I → pm_L → Prop} (th : TX0s kd mr h)
    (F : (((mi h 5) ≤ x3 → K x2 mi ml) ∧ (¬ (mi h 5) ≤ x3 → vp_in x3 6 ∧ ((x1 ≤ ((mi (h + 4) (Int32.toNatClampNeg x3)) - (mi (h + 4) (Int32.toNatClampNeg x3)) / 8 * 8) → c_X0_peopleLeftOf_28 l d kd mr h x1 x2 x3 mi ml K) ∧ (¬ x1 ≤ ((mi (h + 4) (Int32.toNatClampNeg x3)) - (mi (h + 4) (Int32.toNatClampNeg x3)) / 8 * 8) → c_X0_peopleLeftOf_28 l d kd mr h x1 (x2 + 1) x3 mi ml K))))) :
    c_X0_peopleLeftOf_4 l d kd mr h x1 x2 x3 mi ml K := by
  show wp l M_X0_peopleLeftOf d 0 0 4 [some (.ref h), some (.int x1), some (.int x2), some (.int x3)] [] 0 0 kd mi ml mr _
  refine wp_iload_n (pc := 4) dX0_peopleLeftOf_4 rfl ?_
  refine wp_aload_n (pc := 5) dX0_peopleLeftOf_5 rfl ?_
  refine wp_getI (pc := 6) dX0_peopleLeftOf_6 fl_X0_44 rfl (TX0s_k th) ?_
  refine wp_icmp_ge (tgt := 34) (pc := 9) dX0_peopleLeftOf_9 (by decide) (fun c1 => ?_) (fun c1 => ?_)
  · have F := F.1 c1
    refine wp_iload_n (pc := 34) dX0_peopleLeftOf_34 rfl ?_
    exact r_I (pc := 35) dX0_peopleLeftOf_35 rfl F
  · have F := F.2 c1
    refine wp_aload_n (pc := 12) dX0_peopleLeftOf_12 rfl ?_
    refine wp_getR (pc := 13) dX0_peopleLeftOf_13 fl_X0_21 rfl (TX0s_k th) (TX0s_r9 th) ?_
    refine wp_iload_n (pc := 16) dX0_peopleLeftOf_16 rfl ?_
    refine wp_iald (pc := 17) dX0_peopleLeftOf_17 (TX0s_a9 th) F.1 ?_
    have F := F.2
    refine wp_bipush (v := 8) (pc := 18) dX0_peopleLeftOf_18 (by decide) ?_
    refine wp_irem (pc := 20) dX0_peopleLeftOf_20 (by decide) ?_
    refine wp_iload_n (pc := 21) dX0_peopleLeftOf_21 rfl ?_
    refine wp_icmp_ge (tgt := 28) (pc := 22) dX0_peopleLeftOf_22 (by decide) (fun c2 => ?_) (fun c2 => ?_)
    · have F := F.1 c2
      exact wp_less (L' := [some (.ref h), some (.int x1), some (.int x2), some (.int x3)]) ⟨rfl, ⟨rfl, ⟨rfl, ⟨rfl, trivial⟩⟩⟩⟩ F
    · have F := F.2 c2
      refine wp_iinc (v := (x2 + 1)) (pc := 25) dX0_peopleLeftOf_25 rfl rfl rfl ?_
      show wp l M_X0_peopleLeftOf d 0 0 _ [some (.ref h), some (.int x1), some (.int (x2 + 1)), some (.int x3)] _ 0 0 kd _ _ mr _
      exact wp_less (L' := [some (.ref h), some (.int x1), some (.int (x2 + 1)), some (.int x3)]) ⟨rfl, ⟨rfl, ⟨rfl, ⟨rfl, trivial⟩⟩⟩⟩ F
theorem w_X0_peopleLeftOf_28 {l : Launch} {d : Nat} {kd : pm_K} {mr : pm_R} {h : Nat} {x1 : Int32} {x2 : Int32} {x3 : Int32} {mi : pm_I} {ml : pm_L} {K : Int32 → pm_I → pm_L → Prop} (th : TX0s kd mr h)
    (F : c_X0_peopleLeftOf_4 l d kd mr h x1 x2 (x3 + 1) mi ml K) :
    c_X0_peopleLeftOf_28 l d kd mr h x1 x2 x3 mi ml K := by
  show wp l M_X0_peopleLeftOf d 0 0 28 [some (.ref h), some (.int x1), some (.int x2), some (.int x3)] [] 0 0 kd mi ml mr _
  refine wp_iinc (v := (x3 + 1)) (pc := 28) dX0_peopleLeftOf_28 rfl rfl rfl ?_
  show wp l M_X0_peopleLeftOf d 0 0 _ [some (.ref h), some (.int x1), some (.int x2), some (.int (x3 + 1))] _ 0 0 kd _ _ mr _
  refine wp_goto (tgt := 4) (pc := 31) dX0_peopleLeftOf_31 (by decide) ?_
  exact wp_less (L' := [some (.ref h), some (.int x1), some (.int x2), some (.int (x3 + 1))]) ⟨rfl, ⟨rfl, ⟨rfl, ⟨rfl, trivial⟩⟩⟩⟩ F
/-- peopleLeftOf(I)I -/
theorem w_X0_peopleLeftOf {l : Launch} {d : Nat} {kd : pm_K} {mr : pm_R} {h : Nat} {x1 : Int32} {mi : pm_I} {ml : pm_L} {K : Int32 → pm_I → pm_L → Prop} (th : TX0s kd mr h)
    (F : c_X0_peopleLeftOf_4 l d kd mr h x1 0 0 mi ml K) :
    wI l M_X0_peopleLeftOf d [.ref h, .int x1] kd mr mi ml K := by
  show wp l M_X0_peopleLeftOf d 0 0 0 [some (.ref h), some (.int x1), none, none] [] 0 0 kd mi ml mr _
  refine wp_iconst (v := 0) (pc := 0) dX0_peopleLeftOf_0 (by decide) ?_
  refine wp_istore_n (pc := 1) dX0_peopleLeftOf_1 (Nat.le_of_ble_eq_true rfl) rfl ?_
  show wp l M_X0_peopleLeftOf d 0 0 _ [some (.ref h), some (.int x1), some (.int 0), none] _ 0 0 kd _ _ mr _
  refine wp_iconst (v := 0) (pc := 2) dX0_peopleLeftOf_2 (by decide) ?_
  refine wp_istore_n (pc := 3) dX0_peopleLeftOf_3 (Nat.le_of_ble_eq_true rfl) rfl ?_
  show wp l M_X0_peopleLeftOf d 0 0 _ [some (.ref h), some (.int x1), some (.int 0), some (.int 0)] _ 0 0 kd _ _ mr _
  exact wp_less (L' := [some (.ref h), some (.int x1), some (.int 0), some (.int 0)]) ⟨rfl, ⟨rfl, ⟨rfl, ⟨rfl, trivial⟩⟩⟩⟩ F
/-- line(I)I -/
theorem w_X11_line {l : Launch} {d : Nat} {kd : pm_K} {mr : pm_R} {h : Nat} {x1 : Int32} {mi : pm_I} {ml : pm_L} {K : Int32 → pm_I → pm_L → Prop} (th : TX11s kd mr h)
    (F : wR l M_X9_cityAt d [.ref (h + 1), .int x1] kd mr mi ml (fun r1 mi2 ml3 => ((r1 = none → K (-1) mi2 ml3) ∧ (∀ b4, r1 = some b4 → TX0s kd mr b4 ∧ wI l M_X0_longestLine d [.ref b4] kd mr mi2 ml3 (fun r5 mi6 ml7 => K r5 mi6 ml7))))) :
    wI l M_X11_line (d + 1) [.ref h, .int x1] kd mr mi ml K := by
  show wp l M_X11_line (d + 1) 0 0 0 [some (.ref h), some (.int x1), none] [] 0 0 kd mi ml mr _
  refine wp_aload_n (pc := 0) dX11_line_0 rfl ?_
  refine wp_getR (pc := 1) dX11_line_1 fl_X11_10 rfl (TX11s_k th) (TX11s_r0 th) ?_
  refine wp_iload_n (pc := 4) dX11_line_4 rfl ?_
  refine cvR [.int x1] [] (pc := 5) dX11_line_5 ml_X11_109 iv_X9_cityAt (TX9s_k (TX11s_a0 th)) (cl_X9 rfl) rfl rfl (Nat.le_of_ble_eq_true rfl) (Nat.le_of_ble_eq_true rfl) (wR.mono (fun r1 mi2 ml3 F => ?_) F)
  cases r1 with
  | none =>
      have F := F.1 rfl
      show wp l M_X11_line (d + 1) 0 0 _ _ (.null :: _) 0 0 kd _ _ mr _
      refine wp_astore_nN (pc := 8) dX11_line_8 (Nat.le_of_ble_eq_true rfl) rfl ?_
      show wp l M_X11_line (d + 1) 0 0 _ [some (.ref h), some (.int x1), some (.null)] _ 0 0 kd _ _ mr _
      refine wp_aload_nN (pc := 9) dX11_line_9 rfl ?_
      refine wp_ifnonnullN (pc := 10) dX11_line_10 ?_
      refine wp_iconst (v := -1) (pc := 13) dX11_line_13 (by decide) ?_
      refine wp_goto (tgt := 21) (pc := 14) dX11_line_14 (by decide) ?_
      exact r_I (pc := 21) dX11_line_21 rfl F
  | some b4 =>
      obtain ⟨tb4, F⟩ := F.2 b4 rfl
      show wp l M_X11_line (d + 1) 0 0 _ _ (.ref b4 :: _) 0 0 kd _ _ mr _
      refine wp_astore_n (pc := 8) dX11_line_8 (Nat.le_of_ble_eq_true rfl) rfl ?_
      show wp l M_X11_line (d + 1) 0 0 _ [some (.ref h), some (.int x1), some (.ref b4)] _ 0 0 kd _ _ mr _
      refine wp_aload_n (pc := 9) dX11_line_9 rfl ?_
      refine wp_ifnonnull (tgt := 17) (pc := 10) dX11_line_10 (by decide) ?_
      refine wp_aload_n (pc := 17) dX11_line_17 rfl ?_
      refine cvI [] [] (pc := 18) dX11_line_18 ml_X11_228 iv_X0_longestLine (TX0s_k tb4) (cl_X0 rfl) rfl rfl (Nat.le_of_ble_eq_true rfl) (Nat.le_of_ble_eq_true rfl) (wI.mono (fun r5 mi6 ml7 F => ?_) F)
      exact r_I (pc := 21) dX11_line_21 rfl F
def c_X0_longestLine_18 (l : Launch) (d : Nat) (kd : pm_K) (mr : pm_R) (h : Nat) (x1 : Int32) (x2 : Int32) (x3 : Int32) (x4 : Int32) (x5 : Int32) (mi : pm_I) (ml : pm_L) (K : Int32 → pm_I → pm_L → Prop) : Prop := wp l M_X0_longestLine d 0 0 18 [some (.ref h), some (.int x1), some (.int x2), some (.int x3), some (.int x4), some (.int x5)] [] 0 0 kd mi ml mr (qI kd mr K)
def c_X0_longestLine_4 (l : Launch) (d : Nat) (kd : pm_K) (mr : pm_R) (h : Nat) (x1 : Int32) (x2 : Int32) (mi : pm_I) (ml : pm_L) (K : Int32 → pm_I → pm_L → Prop) : Prop := wp l M_X0_longestLine d 0 0 4 [some (.ref h), some (.int x1), some (.int x2), none, none, none] [] 0 0 kd mi ml mr (qI kd mr K)
theorem w_X0_longestLine_4 {l : Launch} {d : Nat} {kd : pm_K} {mr : pm_R} {h : Nat} {x1 : Int32} {x2 : Int32} {mi : pm_I} {ml : pm_L} {K : Int32 → pm_I → pm_L → Prop} (th : TX0s kd mr h)
    (F : ((8 ≤ x2 → K x1 mi ml) ∧ (¬ 8 ≤ x2 → c_X0_longestLine_18 l (d + 1) kd mr h x1 x2 0 0 0 mi ml K))) :
    c_X0_longestLine_4 l (d + 1) kd mr h x1 x2 mi ml K := by
  show wp l M_X0_longestLine (d + 1) 0 0 4 [some (.ref h), some (.int x1), some (.int x2), none, none, none] [] 0 0 kd mi ml mr _
  refine wp_iload_n (pc := 4) dX0_longestLine_4 rfl ?_
  refine wp_bipush (v := 8) (pc := 5) dX0_longestLine_5 (by decide) ?_
  refine wp_icmp_ge (tgt := 96) (pc := 7) dX0_longestLine_7 (by decide) (fun c1 => ?_) (fun c1 => ?_)
  · have F := F.1 c1
    refine wp_iload_n (pc := 96) dX0_longestLine_96 rfl ?_
    exact r_I (pc := 97) dX0_longestLine_97 rfl F
  · have F := F.2 c1
    refine wp_iconst (v := 0) (pc := 10) dX0_longestLine_10 (by decide) ?_
    refine wp_istore_n (pc := 11) dX0_longestLine_11 (Nat.le_of_ble_eq_true rfl) rfl ?_
    show wp l M_X0_longestLine (d + 1) 0 0 _ [some (.ref h), some (.int x1), some (.int x2), some (.int 0), none, none] _ 0 0 kd _ _ mr _
    refine wp_iconst (v := 0) (pc := 12) dX0_longestLine_12 (by decide) ?_
    refine wp_istore (pc := 13) dX0_longestLine_13 (Nat.le_of_ble_eq_true rfl) rfl ?_
    show wp l M_X0_longestLine (d + 1) 0 0 _ [some (.ref h), some (.int x1), some (.int x2), some (.int 0), some (.int 0), none] _ 0 0 kd _ _ mr _
    refine wp_iconst (v := 0) (pc := 15) dX0_longestLine_15 (by decide) ?_
    refine wp_istore (pc := 16) dX0_longestLine_16 (Nat.le_of_ble_eq_true rfl) rfl ?_
    show wp l M_X0_longestLine (d + 1) 0 0 _ [some (.ref h), some (.int x1), some (.int x2), some (.int 0), some (.int 0), some (.int 0)] _ 0 0 kd _ _ mr _
    exact wp_less (L' := [some (.ref h), some (.int x1), some (.int x2), some (.int 0), some (.int 0), some (.int 0)]) ⟨rfl, ⟨rfl, ⟨rfl, ⟨rfl, ⟨rfl, ⟨rfl, trivial⟩⟩⟩⟩⟩⟩ F
theorem w_X0_longestLine_18 {l : Launch} {d : Nat} {kd : pm_K} {mr : pm_R} {h : Nat} {x1 : Int32} {x2 : Int32} {x3 : Int32} {x4 : Int32} {x5 : Int32} {mi : pm_I} {ml : pm_L} {K : Int32 → pm_I → pm_L → Prop} (th : TX0s kd mr h)
    (F : (((mi h 5) ≤ x5 → c_X0_longestLine_4 l (d + 1) kd mr h (if x1 < (if x3 < x4 then x4 else x3) then (if x3 < x4 then x4 else x3) else x1) (x2 + 1) mi ml K) ∧ (¬ (mi h 5) ≤ x5 → vp_in x5 6 ∧ vp_in x5 6 ∧ c_X0_longestLine_18 l (d + 1) kd mr h x1 x2 (x3 + (b2i (decide (((mi (h + 4) (Int32.toNatClampNeg x5)) / 8) = x2)))) (x4 + (b2i (decide (((mi (h + 4) (Int32.toNatClampNeg x5)) - (mi (h + 4) (Int32.toNatClampNeg x5)) / 8 * 8) = x2)))) (x5 + 1) mi ml K))) :
    c_X0_longestLine_18 l (d + 1) kd mr h x1 x2 x3 x4 x5 mi ml K := by
  show wp l M_X0_longestLine (d + 1) 0 0 18 [some (.ref h), some (.int x1), some (.int x2), some (.int x3), some (.int x4), some (.int x5)] [] 0 0 kd mi ml mr _
  refine wp_iload (pc := 18) dX0_longestLine_18 rfl ?_
  refine wp_aload_n (pc := 20) dX0_longestLine_20 rfl ?_
  refine wp_getI (pc := 21) dX0_longestLine_21 fl_X0_44 rfl (TX0s_k th) ?_
  refine wp_icmp_ge (tgt := 79) (pc := 24) dX0_longestLine_24 (by decide) (fun c2 => ?_) (fun c2 => ?_)
  · have F := F.1 c2
    refine wp_iload_n (pc := 79) dX0_longestLine_79 rfl ?_
    refine wp_iload_n (pc := 80) dX0_longestLine_80 rfl ?_
    refine wp_iload (pc := 81) dX0_longestLine_81 rfl ?_
    refine wp_max (pc := 83) dX0_longestLine_83 ⟨tb_5 8 rfl rfl, tb_2 152 rfl rfl, tb_1 14 rfl rfl, tb_2 153 rfl rfl⟩ (Nat.succ_pos d) (Nat.le_of_ble_eq_true rfl) ⟨Nat.le_refl 0, Nat.le_refl 0⟩ ?_
    refine wp_max (pc := 86) dX0_longestLine_86 ⟨tb_5 8 rfl rfl, tb_2 152 rfl rfl, tb_1 14 rfl rfl, tb_2 153 rfl rfl⟩ (Nat.succ_pos d) (Nat.le_of_ble_eq_true rfl) ⟨Nat.le_refl 0, Nat.le_refl 0⟩ ?_
    refine wp_istore_n (pc := 89) dX0_longestLine_89 (Nat.le_of_ble_eq_true rfl) rfl ?_
    show wp l M_X0_longestLine (d + 1) 0 0 _ [some (.ref h), some (.int (if x1 < (if x3 < x4 then x4 else x3) then (if x3 < x4 then x4 else x3) else x1)), some (.int x2), some (.int x3), some (.int x4), some (.int x5)] _ 0 0 kd _ _ mr _
    refine wp_iinc (v := (x2 + 1)) (pc := 90) dX0_longestLine_90 rfl rfl rfl ?_
    show wp l M_X0_longestLine (d + 1) 0 0 _ [some (.ref h), some (.int (if x1 < (if x3 < x4 then x4 else x3) then (if x3 < x4 then x4 else x3) else x1)), some (.int (x2 + 1)), some (.int x3), some (.int x4), some (.int x5)] _ 0 0 kd _ _ mr _
    refine wp_goto (tgt := 4) (pc := 93) dX0_longestLine_93 (by decide) ?_
    exact wp_less (L' := [some (.ref h), some (.int (if x1 < (if x3 < x4 then x4 else x3) then (if x3 < x4 then x4 else x3) else x1)), some (.int (x2 + 1)), none, none, none]) ⟨rfl, ⟨rfl, ⟨rfl, trivial⟩⟩⟩ F
  · have F := F.2 c2
    refine wp_iload_n (pc := 27) dX0_longestLine_27 rfl ?_
    refine wp_aload_n (pc := 28) dX0_longestLine_28 rfl ?_
    refine wp_getR (pc := 29) dX0_longestLine_29 fl_X0_21 rfl (TX0s_k th) (TX0s_r9 th) ?_
    refine wp_iload (pc := 32) dX0_longestLine_32 rfl ?_
    refine wp_iald (pc := 34) dX0_longestLine_34 (TX0s_a9 th) F.1 ?_
    have F := F.2
    refine wp_bipush (v := 8) (pc := 35) dX0_longestLine_35 (by decide) ?_
    refine wp_idiv (pc := 37) dX0_longestLine_37 (by decide) ?_
    refine wp_iload_n (pc := 38) dX0_longestLine_38 rfl ?_
    suffices J3 : ∀ v4 : Int32, v4 = (b2i (decide (((mi (h + 4) (Int32.toNatClampNeg x5)) / 8) = x2))) → wp l M_X0_longestLine (d + 1) 0 0 47 [some (.ref h), some (.int x1), some (.int x2), some (.int x3), some (.int x4), some (.int x5)] [.int v4, .int x3] 0 0 kd mi ml mr _ by
        refine wp_icmp_ne (tgt := 46) (pc := 39) dX0_longestLine_39 (by decide) (fun c5 => ?_) (fun c5 => ?_)
        · refine wp_iconst (v := 0) (pc := 46) dX0_longestLine_46 (by decide) ?_
          exact J3 _ (by simp only [c5, if_true, if_false, decide_true, decide_false, Bool.not_true, Bool.not_false, Bool.true_and, Bool.false_and, Bool.true_or, Bool.false_or, b2i_t, b2i_f, ite_true, ite_false, not_true_eq_false, not_false_eq_true, reduceCtorEq, decide_eq_true_eq])
        · refine wp_iconst (v := 1) (pc := 42) dX0_longestLine_42 (by decide) ?_
          refine wp_goto (tgt := 47) (pc := 43) dX0_longestLine_43 (by decide) ?_
          exact J3 _ (by simp only [eq_true c5, if_true, if_false, decide_true, decide_false, Bool.not_true, Bool.not_false, Bool.true_and, Bool.false_and, Bool.true_or, Bool.false_or, b2i_t, b2i_f, ite_true, ite_false, not_true_eq_false, not_false_eq_true, reduceCtorEq, decide_eq_true_eq])
    intro v4 ev4
    subst ev4
    refine wp_iadd (pc := 47) dX0_longestLine_47 ?_
    refine wp_istore_n (pc := 48) dX0_longestLine_48 (Nat.le_of_ble_eq_true rfl) rfl ?_
    show wp l M_X0_longestLine (d + 1) 0 0 _ [some (.ref h), some (.int x1), some (.int x2), some (.int (x3 + (b2i (decide (((mi (h + 4) (Int32.toNatClampNeg x5)) / 8) = x2))))), some (.int x4), some (.int x5)] _ 0 0 kd _ _ mr _
    refine wp_iload (pc := 49) dX0_longestLine_49 rfl ?_
    refine wp_aload_n (pc := 51) dX0_longestLine_51 rfl ?_
    refine wp_getR (pc := 52) dX0_longestLine_52 fl_X0_21 rfl (TX0s_k th) (TX0s_r9 th) ?_
    refine wp_iload (pc := 55) dX0_longestLine_55 rfl ?_
    refine wp_iald (pc := 57) dX0_longestLine_57 (TX0s_a9 th) F.1 ?_
    have F := F.2
    refine wp_bipush (v := 8) (pc := 58) dX0_longestLine_58 (by decide) ?_
    refine wp_irem (pc := 60) dX0_longestLine_60 (by decide) ?_
    refine wp_iload_n (pc := 61) dX0_longestLine_61 rfl ?_
    suffices J6 : ∀ v7 : Int32, v7 = (b2i (decide (((mi (h + 4) (Int32.toNatClampNeg x5)) - (mi (h + 4) (Int32.toNatClampNeg x5)) / 8 * 8) = x2))) → wp l M_X0_longestLine (d + 1) 0 0 70 [some (.ref h), some (.int x1), some (.int x2), some (.int (x3 + (b2i (decide (((mi (h + 4) (Int32.toNatClampNeg x5)) / 8) = x2))))), some (.int x4), some (.int x5)] [.int v7, .int x4] 0 0 kd mi ml mr _ by
        refine wp_icmp_ne (tgt := 69) (pc := 62) dX0_longestLine_62 (by decide) (fun c8 => ?_) (fun c8 => ?_)
        · refine wp_iconst (v := 0) (pc := 69) dX0_longestLine_69 (by decide) ?_
          exact J6 _ (by simp only [c8, if_true, if_false, decide_true, decide_false, Bool.not_true, Bool.not_false, Bool.true_and, Bool.false_and, Bool.true_or, Bool.false_or, b2i_t, b2i_f, ite_true, ite_false, not_true_eq_false, not_false_eq_true, reduceCtorEq, decide_eq_true_eq])
        · refine wp_iconst (v := 1) (pc := 65) dX0_longestLine_65 (by decide) ?_
          refine wp_goto (tgt := 70) (pc := 66) dX0_longestLine_66 (by decide) ?_
          exact J6 _ (by simp only [eq_true c8, if_true, if_false, decide_true, decide_false, Bool.not_true, Bool.not_false, Bool.true_and, Bool.false_and, Bool.true_or, Bool.false_or, b2i_t, b2i_f, ite_true, ite_false, not_true_eq_false, not_false_eq_true, reduceCtorEq, decide_eq_true_eq])
    intro v7 ev7
    subst ev7
    refine wp_iadd (pc := 70) dX0_longestLine_70 ?_
    refine wp_istore (pc := 71) dX0_longestLine_71 (Nat.le_of_ble_eq_true rfl) rfl ?_
    show wp l M_X0_longestLine (d + 1) 0 0 _ [some (.ref h), some (.int x1), some (.int x2), some (.int (x3 + (b2i (decide (((mi (h + 4) (Int32.toNatClampNeg x5)) / 8) = x2))))), some (.int (x4 + (b2i (decide (((mi (h + 4) (Int32.toNatClampNeg x5)) - (mi (h + 4) (Int32.toNatClampNeg x5)) / 8 * 8) = x2))))), some (.int x5)] _ 0 0 kd _ _ mr _
    refine wp_iinc (v := (x5 + 1)) (pc := 73) dX0_longestLine_73 rfl rfl rfl ?_
    show wp l M_X0_longestLine (d + 1) 0 0 _ [some (.ref h), some (.int x1), some (.int x2), some (.int (x3 + (b2i (decide (((mi (h + 4) (Int32.toNatClampNeg x5)) / 8) = x2))))), some (.int (x4 + (b2i (decide (((mi (h + 4) (Int32.toNatClampNeg x5)) - (mi (h + 4) (Int32.toNatClampNeg x5)) / 8 * 8) = x2))))), some (.int (x5 + 1))] _ 0 0 kd _ _ mr _
    refine wp_goto (tgt := 18) (pc := 76) dX0_longestLine_76 (by decide) ?_
    exact wp_less (L' := [some (.ref h), some (.int x1), some (.int x2), some (.int (x3 + (b2i (decide (((mi (h + 4) (Int32.toNatClampNeg x5)) / 8) = x2))))), some (.int (x4 + (b2i (decide (((mi (h + 4) (Int32.toNatClampNeg x5)) - (mi (h + 4) (Int32.toNatClampNeg x5)) / 8 * 8) = x2))))), some (.int (x5 + 1))]) ⟨rfl, ⟨rfl, ⟨rfl, ⟨rfl, ⟨rfl, ⟨rfl, trivial⟩⟩⟩⟩⟩⟩ F
/-- longestLine()I -/
theorem w_X0_longestLine {l : Launch} {d : Nat} {kd : pm_K} {mr : pm_R} {h : Nat}  {mi : pm_I} {ml : pm_L} {K : Int32 → pm_I → pm_L → Prop} (th : TX0s kd mr h)
    (F : c_X0_longestLine_4 l (d + 1) kd mr h 0 0 mi ml K) :
    wI l M_X0_longestLine (d + 1) [.ref h] kd mr mi ml K := by
  show wp l M_X0_longestLine (d + 1) 0 0 0 [some (.ref h), none, none, none, none, none] [] 0 0 kd mi ml mr _
  refine wp_iconst (v := 0) (pc := 0) dX0_longestLine_0 (by decide) ?_
  refine wp_istore_n (pc := 1) dX0_longestLine_1 (Nat.le_of_ble_eq_true rfl) rfl ?_
  show wp l M_X0_longestLine (d + 1) 0 0 _ [some (.ref h), some (.int 0), none, none, none, none] _ 0 0 kd _ _ mr _
  refine wp_iconst (v := 0) (pc := 2) dX0_longestLine_2 (by decide) ?_
  refine wp_istore_n (pc := 3) dX0_longestLine_3 (Nat.le_of_ble_eq_true rfl) rfl ?_
  show wp l M_X0_longestLine (d + 1) 0 0 _ [some (.ref h), some (.int 0), some (.int 0), none, none, none] _ 0 0 kd _ _ mr _
  exact wp_less (L' := [some (.ref h), some (.int 0), some (.int 0), none, none, none]) ⟨rfl, ⟨rfl, ⟨rfl, trivial⟩⟩⟩ F
/-- trial(II)I -/
theorem w_X11_trial {l : Launch} {d : Nat} {kd : pm_K} {mr : pm_R} {h : Nat} {x1 : Int32} {x2 : Int32} {mi : pm_I} {ml : pm_L} {K : Int32 → pm_I → pm_L → Prop} (th : TX11s kd mr h)
    (F : wR l M_X9_trialAt d [.ref (h + 1), .int x1] kd mr mi ml (fun r1 mi2 ml3 => ((r1 = none → K (-2) mi2 ml3) ∧ (∀ b4, r1 = some b4 → TX10s kd mr b4 ∧ wI l M_X10_tell d [.ref b4, .int x2] kd mr mi2 ml3 (fun r5 mi6 ml7 => K r5 mi6 ml7))))) :
    wI l M_X11_trial (d + 1) [.ref h, .int x1, .int x2] kd mr mi ml K := by
  show wp l M_X11_trial (d + 1) 0 0 0 [some (.ref h), some (.int x1), some (.int x2), none] [] 0 0 kd mi ml mr _
  refine wp_aload_n (pc := 0) dX11_trial_0 rfl ?_
  refine wp_getR (pc := 1) dX11_trial_1 fl_X11_10 rfl (TX11s_k th) (TX11s_r0 th) ?_
  refine wp_iload_n (pc := 4) dX11_trial_4 rfl ?_
  refine cvR [.int x1] [] (pc := 5) dX11_trial_5 ml_X11_231 iv_X9_trialAt (TX9s_k (TX11s_a0 th)) (cl_X9 rfl) rfl rfl (Nat.le_of_ble_eq_true rfl) (Nat.le_of_ble_eq_true rfl) (wR.mono (fun r1 mi2 ml3 F => ?_) F)
  cases r1 with
  | none =>
      have F := F.1 rfl
      show wp l M_X11_trial (d + 1) 0 0 _ _ (.null :: _) 0 0 kd _ _ mr _
      refine wp_astore_nN (pc := 8) dX11_trial_8 (Nat.le_of_ble_eq_true rfl) rfl ?_
      show wp l M_X11_trial (d + 1) 0 0 _ [some (.ref h), some (.int x1), some (.int x2), some (.null)] _ 0 0 kd _ _ mr _
      refine wp_aload_nN (pc := 9) dX11_trial_9 rfl ?_
      refine wp_ifnonnullN (pc := 10) dX11_trial_10 ?_
      refine wp_bipush (v := -2) (pc := 13) dX11_trial_13 (by decide) ?_
      refine wp_goto (tgt := 23) (pc := 15) dX11_trial_15 (by decide) ?_
      exact r_I (pc := 23) dX11_trial_23 rfl F
  | some b4 =>
      obtain ⟨tb4, F⟩ := F.2 b4 rfl
      show wp l M_X11_trial (d + 1) 0 0 _ _ (.ref b4 :: _) 0 0 kd _ _ mr _
      refine wp_astore_n (pc := 8) dX11_trial_8 (Nat.le_of_ble_eq_true rfl) rfl ?_
      show wp l M_X11_trial (d + 1) 0 0 _ [some (.ref h), some (.int x1), some (.int x2), some (.ref b4)] _ 0 0 kd _ _ mr _
      refine wp_aload_n (pc := 9) dX11_trial_9 rfl ?_
      refine wp_ifnonnull (tgt := 18) (pc := 10) dX11_trial_10 (by decide) ?_
      refine wp_aload_n (pc := 18) dX11_trial_18 rfl ?_
      refine wp_iload_n (pc := 19) dX11_trial_19 rfl ?_
      refine cvI [.int x2] [] (pc := 20) dX11_trial_20 ml_X11_235 iv_X10_tell (TX10s_k tb4) (cl_X10 rfl) rfl rfl (Nat.le_of_ble_eq_true rfl) (Nat.le_of_ble_eq_true rfl) (wI.mono (fun r5 mi6 ml7 F => ?_) F)
      exact r_I (pc := 23) dX11_trial_23 rfl F
/-- trialAt(I)LCityChords$Trial; -/
theorem w_X9_trialAt {l : Launch} {d : Nat} {kd : pm_K} {mr : pm_R} {h : Nat} {x1 : Int32} {mi : pm_I} {ml : pm_L} {K : Option Nat → pm_I → pm_L → Prop} (th : TX9s kd mr h)
    (F : wB l M_X9_hasOne d [.ref h, .int 2, .int x1] kd mr mi ml (fun r1 mi2 ml3 => ((r1 = false → K none mi2 ml3) ∧ (r1 = true → vp_in x1 2 ∧ ∃ b5, mr (h + 5) (Int32.toNatClampNeg x1) = some b5 ∧ TX10s kd mr b5 ∧ K (some b5) mi2 ml3)))) :
    wR l M_X9_trialAt (d + 1) [.ref h, .int x1] kd mr mi ml K := by
  show wp l M_X9_trialAt (d + 1) 0 0 0 [some (.ref h), some (.int x1)] [] 0 0 kd mi ml mr _
  refine wp_aload_n (pc := 0) dX9_trialAt_0 rfl ?_
  refine wp_iconst (v := 2) (pc := 1) dX9_trialAt_1 (by decide) ?_
  refine wp_iload_n (pc := 2) dX9_trialAt_2 rfl ?_
  refine cvB [.int 2, .int x1] [] (pc := 3) dX9_trialAt_3 ml_X9_69 iv_X9_hasOne (TX9s_k th) (cl_X9 rfl) rfl rfl (Nat.le_of_ble_eq_true rfl) (Nat.le_of_ble_eq_true rfl) (wB.mono (fun r1 mi2 ml3 F => ?_) F)
  refine b_eq (tgt := 18) (pc := 6) dX9_trialAt_6 (by decide) (fun c4 => ?_) (fun c4 => ?_)
  · have F := F.1 c4
    refine wp_null (pc := 18) dX9_trialAt_18 ?_
    exact r_N (pc := 19) dX9_trialAt_19 rfl (Or.inl ⟨_, rfl⟩) F
  · have F := F.2 c4
    refine wp_aload_n (pc := 9) dX9_trialAt_9 rfl ?_
    refine wp_getR (pc := 10) dX9_trialAt_10 fl_X9_37 rfl (TX9s_k th) (TX9s_r7 th) ?_
    refine wp_iload_n (pc := 13) dX9_trialAt_13 rfl ?_
    obtain ⟨F1, b5, hb5, tb5, F⟩ := F
    refine wp_aald (t := 2) (pc := 14) dX9_trialAt_14 (by decide) (TX9s_a7 th) F1 hb5 ?_
    refine wp_goto (tgt := 19) (pc := 15) dX9_trialAt_15 (by decide) ?_
    exact r_R (pc := 19) dX9_trialAt_19 rfl (Or.inl ⟨_, rfl⟩) F
/-- tell(I)I -/
theorem w_X10_tell {l : Launch} {d : Nat} {kd : pm_K} {mr : pm_R} {h : Nat} {x1 : Int32} {mi : pm_I} {ml : pm_L} {K : Int32 → pm_I → pm_L → Prop} (th : TX10s kd mr h)
    (F : (((x1).toInt < 0 ∨ 2 < (x1).toInt → ((x1 < 10 → K (-2) mi ml) ∧ (¬ x1 < 10 → ((x1 < 70 → wI l M_X6_tell d [.ref (h + 1), .int ((x1 - 10) - (x1 - 10) / 20 * 20), .int ((x1 - 10) / 20)] kd mr mi ml (fun r4 mi5 ml6 => K r4 mi5 ml6)) ∧ (¬ x1 < 70 → K (-2) mi ml))))) ∧ ((x1).toInt = 0 → K (mi h 0) mi ml) ∧ ((x1).toInt = 1 → K (mi h 1) mi ml) ∧ ((x1).toInt = 2 → K (mi (h + 1) 3) mi ml))) :
    wI l M_X10_tell (d + 1) [.ref h, .int x1] kd mr mi ml K := by
  show wp l M_X10_tell (d + 1) 0 0 0 [some (.ref h), some (.int x1), none] [] 0 0 kd mi ml mr _
  refine wp_iload_n (pc := 0) dX10_tell_0 rfl ?_
  by_cases c1 : (x1).toInt < 0 ∨ 2 < (x1).toInt
  · have F := F.1 c1
    refine wp_tableOut (tgt := 46) (pc := 1) dX10_tell_1 c1 (by decide) ?_
    refine wp_iload_n (pc := 46) dX10_tell_46 rfl ?_
    refine wp_bipush (v := 10) (pc := 47) dX10_tell_47 (by decide) ?_
    refine wp_icmp_lt (tgt := 58) (pc := 49) dX10_tell_49 (by decide) (fun c2 => ?_) (fun c2 => ?_)
    · have F := F.1 c2
      refine wp_bipush (v := -2) (pc := 58) dX10_tell_58 (by decide) ?_
      exact r_I (pc := 60) dX10_tell_60 rfl F
    · have F := F.2 c2
      refine wp_iload_n (pc := 52) dX10_tell_52 rfl ?_
      refine wp_bipush (v := 70) (pc := 53) dX10_tell_53 (by decide) ?_
      refine wp_icmp_lt (tgt := 61) (pc := 55) dX10_tell_55 (by decide) (fun c3 => ?_) (fun c3 => ?_)
      · have F := F.1 c3
        refine wp_iload_n (pc := 61) dX10_tell_61 rfl ?_
        refine wp_bipush (v := 10) (pc := 62) dX10_tell_62 (by decide) ?_
        refine wp_isub (pc := 64) dX10_tell_64 ?_
        refine wp_bipush (v := 20) (pc := 65) dX10_tell_65 (by decide) ?_
        refine wp_idiv (pc := 67) dX10_tell_67 (by decide) ?_
        refine wp_istore_n (pc := 68) dX10_tell_68 (Nat.le_of_ble_eq_true rfl) rfl ?_
        show wp l M_X10_tell (d + 1) 0 0 _ [some (.ref h), some (.int x1), some (.int ((x1 - 10) / 20))] _ 0 0 kd _ _ mr _
        refine wp_aload_n (pc := 69) dX10_tell_69 rfl ?_
        refine wp_getR (pc := 70) dX10_tell_70 fl_X10_12 rfl (TX10s_k th) (TX10s_r2 th) ?_
        refine wp_iload_n (pc := 73) dX10_tell_73 rfl ?_
        refine wp_bipush (v := 10) (pc := 74) dX10_tell_74 (by decide) ?_
        refine wp_isub (pc := 76) dX10_tell_76 ?_
        refine wp_bipush (v := 20) (pc := 77) dX10_tell_77 (by decide) ?_
        refine wp_irem (pc := 79) dX10_tell_79 (by decide) ?_
        refine wp_iload_n (pc := 80) dX10_tell_80 rfl ?_
        refine cvI [.int ((x1 - 10) - (x1 - 10) / 20 * 20), .int ((x1 - 10) / 20)] [] (pc := 81) dX10_tell_81 ml_X10_32 iv_X6_tell (TX6s_k (TX10s_a2 th)) (cl_X6 rfl) rfl rfl (Nat.le_of_ble_eq_true rfl) (Nat.le_of_ble_eq_true rfl) (wI.mono (fun r4 mi5 ml6 F => ?_) F)
        exact r_I (pc := 84) dX10_tell_84 rfl F
      · have F := F.2 c3
        refine wp_bipush (v := -2) (pc := 58) dX10_tell_58 (by decide) ?_
        exact r_I (pc := 60) dX10_tell_60 rfl F
  have c1 : (x1).toInt = 0 ∨ (x1).toInt = 1 ∨ (x1).toInt = 2 := by omega
  have F := F.2
  rcases c1 with c1 | c1 | c1
  · have F := F.1 c1
    refine wp_tableIn (tgt := 28) (pc := 1) dX10_tell_1 c1 (by decide) (by decide) rfl (by decide) ?_
    refine wp_aload_n (pc := 28) dX10_tell_28 rfl ?_
    refine wp_getI (pc := 29) dX10_tell_29 fl_X10_18 rfl (TX10s_k th) ?_
    exact r_I (pc := 32) dX10_tell_32 rfl F
  · have F := F.2.1 c1
    refine wp_tableIn (tgt := 33) (pc := 1) dX10_tell_1 c1 (by decide) (by decide) rfl (by decide) ?_
    refine wp_aload_n (pc := 33) dX10_tell_33 rfl ?_
    refine wp_getI (pc := 34) dX10_tell_34 fl_X10_22 rfl (TX10s_k th) ?_
    exact r_I (pc := 37) dX10_tell_37 rfl F
  · have F := F.2.2 c1
    refine wp_tableIn (tgt := 38) (pc := 1) dX10_tell_1 c1 (by decide) (by decide) rfl (by decide) ?_
    refine wp_aload_n (pc := 38) dX10_tell_38 rfl ?_
    refine wp_getR (pc := 39) dX10_tell_39 fl_X10_12 rfl (TX10s_k th) (TX10s_r2 th) ?_
    refine wp_getI (pc := 42) dX10_tell_42 fl_X10_25 rfl (TX6s_k (TX10s_a2 th)) ?_
    exact r_I (pc := 45) dX10_tell_45 rfl F
/-- thieves(II)I -/
theorem w_X11_thieves {l : Launch} {d : Nat} {kd : pm_K} {mr : pm_R} {h : Nat} {x1 : Int32} {x2 : Int32} {mi : pm_I} {ml : pm_L} {K : Int32 → pm_I → pm_L → Prop} (th : TX11s kd mr h)
    (F : wR l M_X9_trialAt d [.ref (h + 1), .int x1] kd mr mi ml (fun r1 mi2 ml3 => ((r1 = none → K (-2) mi2 ml3) ∧ (∀ b4, r1 = some b4 → TX10s kd mr b4 ∧ wI l M_X10_judge d [.ref b4, .int x2, .ref (h + 234)] kd mr mi2 ml3 (fun r5 mi6 ml7 => K r5 mi6 ml7))))) :
    wI l M_X11_thieves (d + 1) [.ref h, .int x1, .int x2] kd mr mi ml K := by
  show wp l M_X11_thieves (d + 1) 0 0 0 [some (.ref h), some (.int x1), some (.int x2), none] [] 0 0 kd mi ml mr _
  refine wp_aload_n (pc := 0) dX11_thieves_0 rfl ?_
  refine wp_getR (pc := 1) dX11_thieves_1 fl_X11_10 rfl (TX11s_k th) (TX11s_r0 th) ?_
  refine wp_iload_n (pc := 4) dX11_thieves_4 rfl ?_
  refine cvR [.int x1] [] (pc := 5) dX11_thieves_5 ml_X11_231 iv_X9_trialAt (TX9s_k (TX11s_a0 th)) (cl_X9 rfl) rfl rfl (Nat.le_of_ble_eq_true rfl) (Nat.le_of_ble_eq_true rfl) (wR.mono (fun r1 mi2 ml3 F => ?_) F)
  cases r1 with
  | none =>
      have F := F.1 rfl
      show wp l M_X11_thieves (d + 1) 0 0 _ _ (.null :: _) 0 0 kd _ _ mr _
      refine wp_astore_nN (pc := 8) dX11_thieves_8 (Nat.le_of_ble_eq_true rfl) rfl ?_
      show wp l M_X11_thieves (d + 1) 0 0 _ [some (.ref h), some (.int x1), some (.int x2), some (.null)] _ 0 0 kd _ _ mr _
      refine wp_aload_nN (pc := 9) dX11_thieves_9 rfl ?_
      refine wp_ifnonnullN (pc := 10) dX11_thieves_10 ?_
      refine wp_bipush (v := -2) (pc := 13) dX11_thieves_13 (by decide) ?_
      refine wp_goto (tgt := 27) (pc := 15) dX11_thieves_15 (by decide) ?_
      exact r_I (pc := 27) dX11_thieves_27 rfl F
  | some b4 =>
      obtain ⟨tb4, F⟩ := F.2 b4 rfl
      show wp l M_X11_thieves (d + 1) 0 0 _ _ (.ref b4 :: _) 0 0 kd _ _ mr _
      refine wp_astore_n (pc := 8) dX11_thieves_8 (Nat.le_of_ble_eq_true rfl) rfl ?_
      show wp l M_X11_thieves (d + 1) 0 0 _ [some (.ref h), some (.int x1), some (.int x2), some (.ref b4)] _ 0 0 kd _ _ mr _
      refine wp_aload_n (pc := 9) dX11_thieves_9 rfl ?_
      refine wp_ifnonnull (tgt := 18) (pc := 10) dX11_thieves_10 (by decide) ?_
      refine wp_aload_n (pc := 18) dX11_thieves_18 rfl ?_
      refine wp_iload_n (pc := 19) dX11_thieves_19 rfl ?_
      refine wp_aload_n (pc := 20) dX11_thieves_20 rfl ?_
      refine wp_getR (pc := 21) dX11_thieves_21 fl_X11_73 rfl (TX11s_k th) (TX11s_r10 th) ?_
      refine cvI [.int x2, .ref (h + 234)] [] (pc := 24) dX11_thieves_24 ml_X11_238 iv_X10_judge (TX10s_k tb4) (cl_X10 rfl) rfl rfl (Nat.le_of_ble_eq_true rfl) (Nat.le_of_ble_eq_true rfl) (wI.mono (fun r5 mi6 ml7 F => ?_) F)
      exact r_I (pc := 27) dX11_thieves_27 rfl F
def c_X10_judge_10 (l : Launch) (d : Nat) (kd : pm_K) (mr : pm_R) (h : Nat) (a2 na2 : Nat) (x1 : Int32) (mi : pm_I) (ml : pm_L) (K : Int32 → pm_I → pm_L → Prop) : Prop := wp l M_X10_judge d 0 0 10 [some (.ref h), some (.int x1), none, none] [] 0 0 kd mi ml mr (qI kd mr K)
theorem w_X10_judge_10 {l : Launch} {d : Nat} {kd : pm_K} {mr : pm_R} {h : Nat} {a2 na2 : Nat} {x1 : Int32} {mi : pm_I} {ml : pm_L} {K : Int32 → pm_I → pm_L → Prop} (th : TX10s kd mr h) (ka2 : kd[a2]? = some (1, na2))
    (F : wI l M_X10_leastBroken d [.ref h, .int (b2i (decide (x1 = 5)))] kd mr mi ml (fun r24 mi25 ml26 => K r24 mi25 ml26)) :
    c_X10_judge_10 l (d + 1) kd mr h a2 na2 x1 mi ml K := by
  show wp l M_X10_judge (d + 1) 0 0 10 [some (.ref h), some (.int x1), none, none] [] 0 0 kd mi ml mr _
  refine wp_aload_n (pc := 10) dX10_judge_10 rfl ?_
  refine wp_iload_n (pc := 11) dX10_judge_11 rfl ?_
  refine wp_iconst (v := 5) (pc := 12) dX10_judge_12 (by decide) ?_
  suffices J21 : ∀ v22 : Int32, v22 = (b2i (decide (x1 = 5))) → wp l M_X10_judge (d + 1) 0 0 21 [some (.ref h), some (.int x1), none, none] [.int v22, .ref h] 0 0 kd mi ml mr _ by
      refine wp_icmp_ne (tgt := 20) (pc := 13) dX10_judge_13 (by decide) (fun c23 => ?_) (fun c23 => ?_)
      · refine wp_iconst (v := 0) (pc := 20) dX10_judge_20 (by decide) ?_
        exact J21 _ (by simp only [c23, if_true, if_false, decide_true, decide_false, Bool.not_true, Bool.not_false, Bool.true_and, Bool.false_and, Bool.true_or, Bool.false_or, b2i_t, b2i_f, ite_true, ite_false, not_true_eq_false, not_false_eq_true, reduceCtorEq, decide_eq_true_eq])
      · refine wp_iconst (v := 1) (pc := 16) dX10_judge_16 (by decide) ?_
        refine wp_goto (tgt := 21) (pc := 17) dX10_judge_17 (by decide) ?_
        exact J21 _ (by simp only [eq_true c23, if_true, if_false, decide_true, decide_false, Bool.not_true, Bool.not_false, Bool.true_and, Bool.false_and, Bool.true_or, Bool.false_or, b2i_t, b2i_f, ite_true, ite_false, not_true_eq_false, not_false_eq_true, reduceCtorEq, decide_eq_true_eq])
  intro v22 ev22
  subst ev22
  refine cvI [.int (b2i (decide (x1 = 5)))] [] (pc := 21) dX10_judge_21 ml_X10_59 iv_X10_leastBroken (TX10s_k th) (cl_X10 rfl) rfl rfl (Nat.le_of_ble_eq_true rfl) (Nat.le_of_ble_eq_true rfl) (wI.mono (fun r24 mi25 ml26 F => ?_) F)
  exact r_I (pc := 24) dX10_judge_24 rfl F
/-- judge(I[I)I -/
theorem w_X10_judge {l : Launch} {d : Nat} {kd : pm_K} {mr : pm_R} {h : Nat} {a2 na2 : Nat} {x1 : Int32} {mi : pm_I} {ml : pm_L} {K : Int32 → pm_I → pm_L → Prop} (th : TX10s kd mr h) (ka2 : kd[a2]? = some (1, na2))
    (F : ((x1 = 4 → c_X10_judge_10 l (d + 1) kd mr h a2 na2 x1 mi ml K) ∧ (¬ x1 = 4 → ((¬ x1 = 5 → wI l M_X10_findFitting d [.ref h, .ref a2] kd mr mi ml (fun r3 mi4 ml5 => (((x1).toInt < 0 ∨ 3 < (x1).toInt → ((x1 < 10 → K (-2) mi4 ml5) ∧ (¬ x1 < 10 → ((r3 ≤ (x1 - 10) → K (-2) mi4 ml5) ∧ (¬ r3 ≤ (x1 - 10) → vp_in (x1 - 10) na2 ∧ K (mi4 a2 (Int32.toNatClampNeg (x1 - 10))) mi4 ml5))))) ∧ ((x1).toInt = 0 → K r3 mi4 ml5) ∧ ((x1).toInt = 1 → ((¬ r3 = 0 → wI l M_X10_inAll d [.ref h, .ref a2, .int r3] kd mr mi4 ml5 (fun r10 mi11 ml12 => K r10 mi11 ml12)) ∧ (r3 = 0 → K (-1) mi4 ml5))) ∧ ((x1).toInt = 2 → ((¬ r3 = 0 → wI l M_X10_inNone d [.ref h, .ref a2, .int r3] kd mr mi4 ml5 (fun r14 mi15 ml16 => K r14 mi15 ml16)) ∧ (r3 = 0 → K (-1) mi4 ml5))) ∧ ((x1).toInt = 3 → ((¬ r3 = 0 → wI l M_X10_bestQuestion d [.ref h, .ref a2, .int r3] kd mr mi4 ml5 (fun r18 mi19 ml20 => K r18 mi19 ml20)) ∧ (r3 = 0 → K (-1) mi4 ml5)))))) ∧ (x1 = 5 → c_X10_judge_10 l (d + 1) kd mr h a2 na2 x1 mi ml K))))) :
    wI l M_X10_judge (d + 1) [.ref h, .int x1, .ref a2] kd mr mi ml K := by
  show wp l M_X10_judge (d + 1) 0 0 0 [some (.ref h), some (.int x1), some (.ref a2), none] [] 0 0 kd mi ml mr _
  refine wp_iload_n (pc := 0) dX10_judge_0 rfl ?_
  refine wp_iconst (v := 4) (pc := 1) dX10_judge_1 (by decide) ?_
  refine wp_icmp_eq (tgt := 10) (pc := 2) dX10_judge_2 (by decide) (fun c1 => ?_) (fun c1 => ?_)
  · have F := F.1 c1
    exact wp_less (L' := [some (.ref h), some (.int x1), none, none]) ⟨rfl, ⟨rfl, trivial⟩⟩ F
  · have F := F.2 c1
    refine wp_iload_n (pc := 5) dX10_judge_5 rfl ?_
    refine wp_iconst (v := 5) (pc := 6) dX10_judge_6 (by decide) ?_
    refine wp_icmp_ne (tgt := 25) (pc := 7) dX10_judge_7 (by decide) (fun c2 => ?_) (fun c2 => ?_)
    · have F := F.1 c2
      refine wp_aload_n (pc := 25) dX10_judge_25 rfl ?_
      refine wp_aload_n (pc := 26) dX10_judge_26 rfl ?_
      refine cvI [.ref a2] [] (pc := 27) dX10_judge_27 ml_X10_63 iv_X10_findFitting (TX10s_k th) (cl_X10 rfl) rfl rfl (Nat.le_of_ble_eq_true rfl) (Nat.le_of_ble_eq_true rfl) (wI.mono (fun r3 mi4 ml5 F => ?_) F)
      refine wp_istore_n (pc := 30) dX10_judge_30 (Nat.le_of_ble_eq_true rfl) rfl ?_
      show wp l M_X10_judge (d + 1) 0 0 _ [some (.ref h), some (.int x1), some (.ref a2), some (.int r3)] _ 0 0 kd _ _ mr _
      refine wp_iload_n (pc := 31) dX10_judge_31 rfl ?_
      by_cases c6 : (x1).toInt < 0 ∨ 3 < (x1).toInt
      · have F := F.1 c6
        refine wp_tableOut (tgt := 111) (pc := 32) dX10_judge_32 c6 (by decide) ?_
        refine wp_iload_n (pc := 111) dX10_judge_111 rfl ?_
        refine wp_bipush (v := 10) (pc := 112) dX10_judge_112 (by decide) ?_
        refine wp_icmp_lt (tgt := 134) (pc := 114) dX10_judge_114 (by decide) (fun c7 => ?_) (fun c7 => ?_)
        · have F := F.1 c7
          refine wp_bipush (v := -2) (pc := 134) dX10_judge_134 (by decide) ?_
          exact r_I (pc := 136) dX10_judge_136 rfl F
        · have F := F.2 c7
          refine wp_iload_n (pc := 117) dX10_judge_117 rfl ?_
          refine wp_bipush (v := 10) (pc := 118) dX10_judge_118 (by decide) ?_
          refine wp_isub (pc := 120) dX10_judge_120 ?_
          refine wp_iload_n (pc := 121) dX10_judge_121 rfl ?_
          refine wp_icmp_ge (tgt := 134) (pc := 122) dX10_judge_122 (by decide) (fun c8 => ?_) (fun c8 => ?_)
          · have F := F.1 c8
            refine wp_bipush (v := -2) (pc := 134) dX10_judge_134 (by decide) ?_
            exact r_I (pc := 136) dX10_judge_136 rfl F
          · have F := F.2 c8
            refine wp_aload_n (pc := 125) dX10_judge_125 rfl ?_
            refine wp_iload_n (pc := 126) dX10_judge_126 rfl ?_
            refine wp_bipush (v := 10) (pc := 127) dX10_judge_127 (by decide) ?_
            refine wp_isub (pc := 129) dX10_judge_129 ?_
            refine wp_iald (pc := 130) dX10_judge_130 ka2 F.1 ?_
            have F := F.2
            refine wp_goto (tgt := 136) (pc := 131) dX10_judge_131 (by decide) ?_
            exact r_I (pc := 136) dX10_judge_136 rfl F
      have c6 : (x1).toInt = 0 ∨ (x1).toInt = 1 ∨ (x1).toInt = 2 ∨ (x1).toInt = 3 := by omega
      have F := F.2
      rcases c6 with c6 | c6 | c6 | c6
      · have F := F.1 c6
        refine wp_tableIn (tgt := 64) (pc := 32) dX10_judge_32 c6 (by decide) (by decide) rfl (by decide) ?_
        refine wp_iload_n (pc := 64) dX10_judge_64 rfl ?_
        exact r_I (pc := 65) dX10_judge_65 rfl F
      · have F := F.2.1 c6
        refine wp_tableIn (tgt := 66) (pc := 32) dX10_judge_32 c6 (by decide) (by decide) rfl (by decide) ?_
        refine wp_iload_n (pc := 66) dX10_judge_66 rfl ?_
        refine wp_if_ne (tgt := 74) (pc := 67) dX10_judge_67 (by decide) (fun c9 => ?_) (fun c9 => ?_)
        · have F := F.1 c9
          refine wp_aload_n (pc := 74) dX10_judge_74 rfl ?_
          refine wp_aload_n (pc := 75) dX10_judge_75 rfl ?_
          refine wp_iload_n (pc := 76) dX10_judge_76 rfl ?_
          refine cvI [.ref a2, .int r3] [] (pc := 77) dX10_judge_77 ml_X10_67 iv_X10_inAll (TX10s_k th) (cl_X10 rfl) rfl rfl (Nat.le_of_ble_eq_true rfl) (Nat.le_of_ble_eq_true rfl) (wI.mono (fun r10 mi11 ml12 F => ?_) F)
          exact r_I (pc := 80) dX10_judge_80 rfl F
        · have F := F.2 c9
          refine wp_iconst (v := -1) (pc := 70) dX10_judge_70 (by decide) ?_
          refine wp_goto (tgt := 80) (pc := 71) dX10_judge_71 (by decide) ?_
          exact r_I (pc := 80) dX10_judge_80 rfl F
      · have F := F.2.2.1 c6
        refine wp_tableIn (tgt := 81) (pc := 32) dX10_judge_32 c6 (by decide) (by decide) rfl (by decide) ?_
        refine wp_iload_n (pc := 81) dX10_judge_81 rfl ?_
        refine wp_if_ne (tgt := 89) (pc := 82) dX10_judge_82 (by decide) (fun c13 => ?_) (fun c13 => ?_)
        · have F := F.1 c13
          refine wp_aload_n (pc := 89) dX10_judge_89 rfl ?_
          refine wp_aload_n (pc := 90) dX10_judge_90 rfl ?_
          refine wp_iload_n (pc := 91) dX10_judge_91 rfl ?_
          refine cvI [.ref a2, .int r3] [] (pc := 92) dX10_judge_92 ml_X10_71 iv_X10_inNone (TX10s_k th) (cl_X10 rfl) rfl rfl (Nat.le_of_ble_eq_true rfl) (Nat.le_of_ble_eq_true rfl) (wI.mono (fun r14 mi15 ml16 F => ?_) F)
          exact r_I (pc := 95) dX10_judge_95 rfl F
        · have F := F.2 c13
          refine wp_iconst (v := -1) (pc := 85) dX10_judge_85 (by decide) ?_
          refine wp_goto (tgt := 95) (pc := 86) dX10_judge_86 (by decide) ?_
          exact r_I (pc := 95) dX10_judge_95 rfl F
      · have F := F.2.2.2 c6
        refine wp_tableIn (tgt := 96) (pc := 32) dX10_judge_32 c6 (by decide) (by decide) rfl (by decide) ?_
        refine wp_iload_n (pc := 96) dX10_judge_96 rfl ?_
        refine wp_if_ne (tgt := 104) (pc := 97) dX10_judge_97 (by decide) (fun c17 => ?_) (fun c17 => ?_)
        · have F := F.1 c17
          refine wp_aload_n (pc := 104) dX10_judge_104 rfl ?_
          refine wp_aload_n (pc := 105) dX10_judge_105 rfl ?_
          refine wp_iload_n (pc := 106) dX10_judge_106 rfl ?_
          refine cvI [.ref a2, .int r3] [] (pc := 107) dX10_judge_107 ml_X10_74 iv_X10_bestQuestion (TX10s_k th) (cl_X10 rfl) rfl rfl (Nat.le_of_ble_eq_true rfl) (Nat.le_of_ble_eq_true rfl) (wI.mono (fun r18 mi19 ml20 F => ?_) F)
          exact r_I (pc := 110) dX10_judge_110 rfl F
        · have F := F.2 c17
          refine wp_iconst (v := -1) (pc := 100) dX10_judge_100 (by decide) ?_
          refine wp_goto (tgt := 110) (pc := 101) dX10_judge_101 (by decide) ?_
          exact r_I (pc := 110) dX10_judge_110 rfl F
    · have F := F.2 c2
      exact wp_less (L' := [some (.ref h), some (.int x1), none, none]) ⟨rfl, ⟨rfl, trivial⟩⟩ F
def c_X10_leastBroken_52 (l : Launch) (d : Nat) (kd : pm_K) (mr : pm_R) (h : Nat) (x1 : Int32) (x2 : Int32) (x3 : Int32) (x4 : Int32) (mi : pm_I) (ml : pm_L) (K : Int32 → pm_I → pm_L → Prop) : Prop := wp l M_X10_leastBroken d 0 0 52 [some (.ref h), some (.int x1), some (.int x2), some (.int x3), some (.int x4), none] [] 0 0 kd mi ml mr (qI kd mr K)
def c_X10_leastBroken_46 (l : Launch) (d : Nat) (kd : pm_K) (mr : pm_R) (h : Nat) (x1 : Int32) (x4 : Int32) (x5 : Int32) (mi : pm_I) (ml : pm_L) (K : Int32 → pm_I → pm_L → Prop) : Prop := wp l M_X10_leastBroken d 0 0 46 [some (.ref h), some (.int x1), none, none, some (.int x4), some (.int x5)] [] 0 0 kd mi ml mr (qI kd mr K)
def c_X10_leastBroken_7 (l : Launch) (d : Nat) (kd : pm_K) (mr : pm_R) (h : Nat) (x1 : Int32) (x2 : Int32) (x3 : Int32) (x4 : Int32) (mi : pm_I) (ml : pm_L) (K : Int32 → pm_I → pm_L → Prop) : Prop := wp l M_X10_leastBroken d 0 0 7 [some (.ref h), some (.int x1), some (.int x2), some (.int x3), some (.int x4), none] [] 0 0 kd mi ml mr (qI kd mr K)
theorem w_X10_leastBroken_7 {l : Launch} {d : Nat} {kd : pm_K} {mr : pm_R} {h : Nat} {x1 : Int32} {x2 : Int32} {x3 : Int32} {x4 : Int32} {mi : pm_I} {ml : pm_L} {K : Int32 → pm_I → pm_L → Prop} (th : TX10s kd mr h)
    (F : ((((1 : Int32) <<< ((mi h 0) &&& 31)) ≤ x4 → K (if x1 = 0 then x3 else x2) mi ml) ∧ (¬ ((1 : Int32) <<< ((mi h 0) &&& 31)) ≤ x4 → wB l M_X10_isAsMany d [.ref h, .int x4] kd mr mi ml (fun r5 mi6 ml7 => ((r5 = false → c_X10_leastBroken_52 l (d + 1) kd mr h x1 x2 x3 x4 mi6 ml7 K) ∧ (r5 = true → wI l M_X10_wrongSayings d [.ref h, .int x4] kd mr mi6 ml7 (fun r9 mi10 ml11 => ((x3 = (-1) → c_X10_leastBroken_46 l (d + 1) kd mr h x1 x4 r9 mi10 ml11 K) ∧ (¬ x3 = (-1) → ((x3 ≤ r9 → c_X10_leastBroken_52 l (d + 1) kd mr h x1 x2 x3 x4 mi10 ml11 K) ∧ (¬ x3 ≤ r9 → c_X10_leastBroken_46 l (d + 1) kd mr h x1 x4 r9 mi10 ml11 K))))))))))) :
    c_X10_leastBroken_7 l (d + 1) kd mr h x1 x2 x3 x4 mi ml K := by
  show wp l M_X10_leastBroken (d + 1) 0 0 7 [some (.ref h), some (.int x1), some (.int x2), some (.int x3), some (.int x4), none] [] 0 0 kd mi ml mr _
  refine wp_iload (pc := 7) dX10_leastBroken_7 rfl ?_
  refine wp_iconst (v := 1) (pc := 9) dX10_leastBroken_9 (by decide) ?_
  refine wp_aload_n (pc := 10) dX10_leastBroken_10 rfl ?_
  refine wp_getI (pc := 11) dX10_leastBroken_11 fl_X10_18 rfl (TX10s_k th) ?_
  refine wp_ishl (pc := 14) dX10_leastBroken_14 ?_
  refine wp_icmp_ge (tgt := 58) (pc := 15) dX10_leastBroken_15 (by decide) (fun c1 => ?_) (fun c1 => ?_)
  · have F := F.1 c1
    refine wp_iload_n (pc := 58) dX10_leastBroken_58 rfl ?_
    suffices J2 : ∀ v3 : Int32, v3 = (if x1 = 0 then x3 else x2) → wp l M_X10_leastBroken (d + 1) 0 0 67 [some (.ref h), some (.int x1), some (.int x2), some (.int x3), some (.int x4), none] [.int v3] 0 0 kd mi ml mr _ by
        refine wp_if_eq (tgt := 66) (pc := 59) dX10_leastBroken_59 (by decide) (fun c4 => ?_) (fun c4 => ?_)
        · refine wp_iload_n (pc := 66) dX10_leastBroken_66 rfl ?_
          exact J2 _ (by simp only [eq_true c4, if_true, if_false, decide_true, decide_false, Bool.not_true, Bool.not_false, Bool.true_and, Bool.false_and, Bool.true_or, Bool.false_or, b2i_t, b2i_f, ite_true, ite_false, not_true_eq_false, not_false_eq_true, reduceCtorEq, decide_eq_true_eq])
        · refine wp_iload_n (pc := 62) dX10_leastBroken_62 rfl ?_
          refine wp_goto (tgt := 67) (pc := 63) dX10_leastBroken_63 (by decide) ?_
          exact J2 _ (by simp only [c4, if_true, if_false, decide_true, decide_false, Bool.not_true, Bool.not_false, Bool.true_and, Bool.false_and, Bool.true_or, Bool.false_or, b2i_t, b2i_f, ite_true, ite_false, not_true_eq_false, not_false_eq_true, reduceCtorEq, decide_eq_true_eq])
    intro v3 ev3
    subst ev3
    exact r_I (pc := 67) dX10_leastBroken_67 rfl F
  · have F := F.2 c1
    refine wp_aload_n (pc := 18) dX10_leastBroken_18 rfl ?_
    refine wp_iload (pc := 19) dX10_leastBroken_19 rfl ?_
    refine cvB [.int x4] [] (pc := 21) dX10_leastBroken_21 ml_X10_52 iv_X10_isAsMany (TX10s_k th) (cl_X10 rfl) rfl rfl (Nat.le_of_ble_eq_true rfl) (Nat.le_of_ble_eq_true rfl) (wB.mono (fun r5 mi6 ml7 F => ?_) F)
    refine b_eq (tgt := 52) (pc := 24) dX10_leastBroken_24 (by decide) (fun c8 => ?_) (fun c8 => ?_)
    · have F := F.1 c8
      exact wp_less (L' := [some (.ref h), some (.int x1), some (.int x2), some (.int x3), some (.int x4), none]) ⟨rfl, ⟨rfl, ⟨rfl, ⟨rfl, ⟨rfl, trivial⟩⟩⟩⟩⟩ F
    · have F := F.2 c8
      refine wp_aload_n (pc := 27) dX10_leastBroken_27 rfl ?_
      refine wp_iload (pc := 28) dX10_leastBroken_28 rfl ?_
      refine cvI [.int x4] [] (pc := 30) dX10_leastBroken_30 ml_X10_56 iv_X10_wrongSayings (TX10s_k th) (cl_X10 rfl) rfl rfl (Nat.le_of_ble_eq_true rfl) (Nat.le_of_ble_eq_true rfl) (wI.mono (fun r9 mi10 ml11 F => ?_) F)
      refine wp_istore (pc := 33) dX10_leastBroken_33 (Nat.le_of_ble_eq_true rfl) rfl ?_
      show wp l M_X10_leastBroken (d + 1) 0 0 _ [some (.ref h), some (.int x1), some (.int x2), some (.int x3), some (.int x4), some (.int r9)] _ 0 0 kd _ _ mr _
      refine wp_iload_n (pc := 35) dX10_leastBroken_35 rfl ?_
      refine wp_iconst (v := -1) (pc := 36) dX10_leastBroken_36 (by decide) ?_
      refine wp_icmp_eq (tgt := 46) (pc := 37) dX10_leastBroken_37 (by decide) (fun c12 => ?_) (fun c12 => ?_)
      · have F := F.1 c12
        exact wp_less (L' := [some (.ref h), some (.int x1), none, none, some (.int x4), some (.int r9)]) ⟨rfl, ⟨rfl, ⟨rfl, ⟨rfl, trivial⟩⟩⟩⟩ F
      · have F := F.2 c12
        refine wp_iload (pc := 40) dX10_leastBroken_40 rfl ?_
        refine wp_iload_n (pc := 42) dX10_leastBroken_42 rfl ?_
        refine wp_icmp_ge (tgt := 52) (pc := 43) dX10_leastBroken_43 (by decide) (fun c13 => ?_) (fun c13 => ?_)
        · have F := F.1 c13
          exact wp_less (L' := [some (.ref h), some (.int x1), some (.int x2), some (.int x3), some (.int x4), none]) ⟨rfl, ⟨rfl, ⟨rfl, ⟨rfl, ⟨rfl, trivial⟩⟩⟩⟩⟩ F
        · have F := F.2 c13
          exact wp_less (L' := [some (.ref h), some (.int x1), none, none, some (.int x4), some (.int r9)]) ⟨rfl, ⟨rfl, ⟨rfl, ⟨rfl, trivial⟩⟩⟩⟩ F
theorem w_X10_leastBroken_46 {l : Launch} {d : Nat} {kd : pm_K} {mr : pm_R} {h : Nat} {x1 : Int32} {x4 : Int32} {x5 : Int32} {mi : pm_I} {ml : pm_L} {K : Int32 → pm_I → pm_L → Prop} (th : TX10s kd mr h)
    (F : c_X10_leastBroken_52 l (d + 1) kd mr h x1 x4 x5 x4 mi ml K) :
    c_X10_leastBroken_46 l (d + 1) kd mr h x1 x4 x5 mi ml K := by
  show wp l M_X10_leastBroken (d + 1) 0 0 46 [some (.ref h), some (.int x1), none, none, some (.int x4), some (.int x5)] [] 0 0 kd mi ml mr _
  refine wp_iload (pc := 46) dX10_leastBroken_46 rfl ?_
  refine wp_istore_n (pc := 48) dX10_leastBroken_48 (Nat.le_of_ble_eq_true rfl) rfl ?_
  show wp l M_X10_leastBroken (d + 1) 0 0 _ [some (.ref h), some (.int x1), none, some (.int x5), some (.int x4), some (.int x5)] _ 0 0 kd _ _ mr _
  refine wp_iload (pc := 49) dX10_leastBroken_49 rfl ?_
  refine wp_istore_n (pc := 51) dX10_leastBroken_51 (Nat.le_of_ble_eq_true rfl) rfl ?_
  show wp l M_X10_leastBroken (d + 1) 0 0 _ [some (.ref h), some (.int x1), some (.int x4), some (.int x5), some (.int x4), some (.int x5)] _ 0 0 kd _ _ mr _
  exact wp_less (L' := [some (.ref h), some (.int x1), some (.int x4), some (.int x5), some (.int x4), none]) ⟨rfl, ⟨rfl, ⟨rfl, ⟨rfl, ⟨rfl, trivial⟩⟩⟩⟩⟩ F
theorem w_X10_leastBroken_52 {l : Launch} {d : Nat} {kd : pm_K} {mr : pm_R} {h : Nat} {x1 : Int32} {x2 : Int32} {x3 : Int32} {x4 : Int32} {mi : pm_I} {ml : pm_L} {K : Int32 → pm_I → pm_L → Prop} (th : TX10s kd mr h)
    (F : c_X10_leastBroken_7 l (d + 1) kd mr h x1 x2 x3 (x4 + 1) mi ml K) :
    c_X10_leastBroken_52 l (d + 1) kd mr h x1 x2 x3 x4 mi ml K := by
  show wp l M_X10_leastBroken (d + 1) 0 0 52 [some (.ref h), some (.int x1), some (.int x2), some (.int x3), some (.int x4), none] [] 0 0 kd mi ml mr _
  refine wp_iinc (v := (x4 + 1)) (pc := 52) dX10_leastBroken_52 rfl rfl rfl ?_
  show wp l M_X10_leastBroken (d + 1) 0 0 _ [some (.ref h), some (.int x1), some (.int x2), some (.int x3), some (.int (x4 + 1)), none] _ 0 0 kd _ _ mr _
  refine wp_goto (tgt := 7) (pc := 55) dX10_leastBroken_55 (by decide) ?_
  exact wp_less (L' := [some (.ref h), some (.int x1), some (.int x2), some (.int x3), some (.int (x4 + 1)), none]) ⟨rfl, ⟨rfl, ⟨rfl, ⟨rfl, ⟨rfl, trivial⟩⟩⟩⟩⟩ F
/-- leastBroken(Z)I -/
theorem w_X10_leastBroken {l : Launch} {d : Nat} {kd : pm_K} {mr : pm_R} {h : Nat} {x1 : Bool} {mi : pm_I} {ml : pm_L} {K : Int32 → pm_I → pm_L → Prop} (th : TX10s kd mr h)
    (F : c_X10_leastBroken_7 l (d + 1) kd mr h (b2i x1) (-1) (-1) 0 mi ml K) :
    wI l M_X10_leastBroken (d + 1) [.ref h, .int (b2i x1)] kd mr mi ml K := by
  show wp l M_X10_leastBroken (d + 1) 0 0 0 [some (.ref h), some (.int (b2i x1)), none, none, none, none] [] 0 0 kd mi ml mr _
  refine wp_iconst (v := -1) (pc := 0) dX10_leastBroken_0 (by decide) ?_
  refine wp_istore_n (pc := 1) dX10_leastBroken_1 (Nat.le_of_ble_eq_true rfl) rfl ?_
  show wp l M_X10_leastBroken (d + 1) 0 0 _ [some (.ref h), some (.int (b2i x1)), some (.int (-1)), none, none, none] _ 0 0 kd _ _ mr _
  refine wp_iconst (v := -1) (pc := 2) dX10_leastBroken_2 (by decide) ?_
  refine wp_istore_n (pc := 3) dX10_leastBroken_3 (Nat.le_of_ble_eq_true rfl) rfl ?_
  show wp l M_X10_leastBroken (d + 1) 0 0 _ [some (.ref h), some (.int (b2i x1)), some (.int (-1)), some (.int (-1)), none, none] _ 0 0 kd _ _ mr _
  refine wp_iconst (v := 0) (pc := 4) dX10_leastBroken_4 (by decide) ?_
  refine wp_istore (pc := 5) dX10_leastBroken_5 (Nat.le_of_ble_eq_true rfl) rfl ?_
  show wp l M_X10_leastBroken (d + 1) 0 0 _ [some (.ref h), some (.int (b2i x1)), some (.int (-1)), some (.int (-1)), some (.int 0), none] _ 0 0 kd _ _ mr _
  exact wp_less (L' := [some (.ref h), some (.int (b2i x1)), some (.int (-1)), some (.int (-1)), some (.int 0), none]) ⟨rfl, ⟨rfl, ⟨rfl, ⟨rfl, ⟨rfl, trivial⟩⟩⟩⟩⟩ F
/-- isAsMany(I)Z -/
theorem w_X10_isAsMany {l : Launch} {d : Nat} {kd : pm_K} {mr : pm_R} {h : Nat} {x1 : Int32} {mi : pm_I} {ml : pm_L} {K : Bool → pm_I → pm_L → Prop} (th : TX10s kd mr h)
    (F : (((mi h 1) = (-1) → K true mi ml) ∧ (¬ (mi h 1) = (-1) → wI l M_J6_bitCount_0f7a4 d [.int x1] kd mr mi ml (fun r2 mi3 ml4 => K (decide (r2 = (mi3 h 1))) mi3 ml4)))) :
    wB l M_X10_isAsMany (d + 1) [.ref h, .int x1] kd mr mi ml K := by
  show wp l M_X10_isAsMany (d + 1) 0 0 0 [some (.ref h), some (.int x1)] [] 0 0 kd mi ml mr _
  refine wp_aload_n (pc := 0) dX10_isAsMany_0 rfl ?_
  refine wp_getI (pc := 1) dX10_isAsMany_1 fl_X10_22 rfl (TX10s_k th) ?_
  refine wp_iconst (v := -1) (pc := 4) dX10_isAsMany_4 (by decide) ?_
  refine wp_icmp_eq (tgt := 19) (pc := 5) dX10_isAsMany_5 (by decide) (fun c1 => ?_) (fun c1 => ?_)
  · have F := F.1 c1
    refine wp_iconst (v := 1) (pc := 19) dX10_isAsMany_19 (by decide) ?_
    refine wp_goto (tgt := 24) (pc := 20) dX10_isAsMany_20 (by decide) ?_
    exact r_Bx (pc := 24) dX10_isAsMany_24 rfl rfl F
  · have F := F.2 c1
    refine wp_iload_n (pc := 8) dX10_isAsMany_8 rfl ?_
    refine csI [.int x1] [] (pc := 9) dX10_isAsMany_9 ml_X10_43 st_J6_bitCount_0f7a4 rfl rfl (Nat.le_of_ble_eq_true rfl) (Nat.le_of_ble_eq_true rfl) (wI.mono (fun r2 mi3 ml4 F => ?_) F)
    refine wp_aload_n (pc := 12) dX10_isAsMany_12 rfl ?_
    refine wp_getI (pc := 13) dX10_isAsMany_13 fl_X10_22 rfl (TX10s_k th) ?_
    suffices J5 : ∀ v6 : Int32, v6 = (b2i (decide (r2 = (mi3 h 1)))) → wp l M_X10_isAsMany (d + 1) 0 0 24 [some (.ref h), some (.int x1)] [.int v6] 0 0 kd mi3 ml4 mr _ by
        refine wp_icmp_ne (tgt := 23) (pc := 16) dX10_isAsMany_16 (by decide) (fun c7 => ?_) (fun c7 => ?_)
        · refine wp_iconst (v := 0) (pc := 23) dX10_isAsMany_23 (by decide) ?_
          exact J5 _ (by simp only [c7, if_true, if_false, decide_true, decide_false, Bool.not_true, Bool.not_false, Bool.true_and, Bool.false_and, Bool.true_or, Bool.false_or, b2i_t, b2i_f, ite_true, ite_false, not_true_eq_false, not_false_eq_true, reduceCtorEq, decide_eq_true_eq])
        · refine wp_iconst (v := 1) (pc := 19) dX10_isAsMany_19 (by decide) ?_
          refine wp_goto (tgt := 24) (pc := 20) dX10_isAsMany_20 (by decide) ?_
          exact J5 _ (by simp only [eq_true c7, if_true, if_false, decide_true, decide_false, Bool.not_true, Bool.not_false, Bool.true_and, Bool.false_and, Bool.true_or, Bool.false_or, b2i_t, b2i_f, ite_true, ite_false, not_true_eq_false, not_false_eq_true, reduceCtorEq, decide_eq_true_eq])
    intro v6 ev6
    subst ev6
    exact r_B (pc := 24) dX10_isAsMany_24 rfl F
def c_X10_wrongSayings_79 (l : Launch) (d : Nat) (kd : pm_K) (mr : pm_R) (h : Nat) (x1 : Int32) (x3 : Int32) (s0 : Int32) (s1 : Int32) (mi : pm_I) (ml : pm_L) (K : Int32 → pm_I → pm_L → Prop) : Prop := wp l M_X10_wrongSayings d 0 0 79 [some (.ref h), some (.int x1), none, some (.int x3), none, none, none] [.int s0, .int s1] 0 0 kd mi ml mr (qI kd mr K)
def c_X10_wrongSayings_4 (l : Launch) (d : Nat) (kd : pm_K) (mr : pm_R) (h : Nat) (x1 : Int32) (x2 : Int32) (x3 : Int32) (mi : pm_I) (ml : pm_L) (K : Int32 → pm_I → pm_L → Prop) : Prop := wp l M_X10_wrongSayings d 0 0 4 [some (.ref h), some (.int x1), some (.int x2), some (.int x3), none, none, none] [] 0 0 kd mi ml mr (qI kd mr K)
theorem w_X10_wrongSayings_4 {l : Launch} {d : Nat} {kd : pm_K} {mr : pm_R} {h : Nat} {x1 : Int32} {x2 : Int32} {x3 : Int32} {mi : pm_I} {ml : pm_L} {K : Int32 → pm_I → pm_L → Prop} (th : TX10s kd mr h)
    (F : (((mi (h + 1) 3) ≤ x3 → K x2 mi ml) ∧ (¬ (mi (h + 1) 3) ≤ x3 → vp_in x3 40 ∧ vp_in x3 40 ∧ vp_in x3 40 ∧ ((¬ (b2i (decide (((x1 >>> ((mi ((h + 1) + 3) (Int32.toNatClampNeg x3)) &&& 31)) &&& 1) = (mi ((h + 1) + 1) (Int32.toNatClampNeg x3))))) = ((x1 >>> ((mi ((h + 1) + 2) (Int32.toNatClampNeg x3)) &&& 31)) &&& 1) → c_X10_wrongSayings_79 l d kd mr h x1 x3 0 x2 mi ml K) ∧ ((b2i (decide (((x1 >>> ((mi ((h + 1) + 3) (Int32.toNatClampNeg x3)) &&& 31)) &&& 1) = (mi ((h + 1) + 1) (Int32.toNatClampNeg x3))))) = ((x1 >>> ((mi ((h + 1) + 2) (Int32.toNatClampNeg x3)) &&& 31)) &&& 1) → c_X10_wrongSayings_79 l d kd mr h x1 x3 1 x2 mi ml K))))) :
    c_X10_wrongSayings_4 l d kd mr h x1 x2 x3 mi ml K := by
  show wp l M_X10_wrongSayings d 0 0 4 [some (.ref h), some (.int x1), some (.int x2), some (.int x3), none, none, none] [] 0 0 kd mi ml mr _
  refine wp_iload_n (pc := 4) dX10_wrongSayings_4 rfl ?_
  refine wp_aload_n (pc := 5) dX10_wrongSayings_5 rfl ?_
  refine wp_getR (pc := 6) dX10_wrongSayings_6 fl_X10_12 rfl (TX10s_k th) (TX10s_r2 th) ?_
  refine wp_getI (pc := 9) dX10_wrongSayings_9 fl_X10_25 rfl (TX6s_k (TX10s_a2 th)) ?_
  refine wp_icmp_ge (tgt := 87) (pc := 12) dX10_wrongSayings_12 (by decide) (fun c1 => ?_) (fun c1 => ?_)
  · have F := F.1 c1
    refine wp_iload_n (pc := 87) dX10_wrongSayings_87 rfl ?_
    exact r_I (pc := 88) dX10_wrongSayings_88 rfl F
  · have F := F.2 c1
    refine wp_iload_n (pc := 15) dX10_wrongSayings_15 rfl ?_
    refine wp_aload_n (pc := 16) dX10_wrongSayings_16 rfl ?_
    refine wp_getR (pc := 17) dX10_wrongSayings_17 fl_X10_12 rfl (TX10s_k th) (TX10s_r2 th) ?_
    refine wp_getR (pc := 20) dX10_wrongSayings_20 fl_X10_36 rfl (TX6s_k (TX10s_a2 th)) (TX6s_r1 (TX10s_a2 th)) ?_
    refine wp_iload_n (pc := 23) dX10_wrongSayings_23 rfl ?_
    refine wp_iald (pc := 24) dX10_wrongSayings_24 (TX6s_a1 (TX10s_a2 th)) F.1 ?_
    have F := F.2
    refine wp_ishr (pc := 25) dX10_wrongSayings_25 ?_
    refine wp_iconst (v := 1) (pc := 26) dX10_wrongSayings_26 (by decide) ?_
    refine wp_iand (pc := 27) dX10_wrongSayings_27 ?_
    refine wp_istore (pc := 28) dX10_wrongSayings_28 (Nat.le_of_ble_eq_true rfl) rfl ?_
    show wp l M_X10_wrongSayings d 0 0 _ [some (.ref h), some (.int x1), some (.int x2), some (.int x3), some (.int ((x1 >>> ((mi ((h + 1) + 2) (Int32.toNatClampNeg x3)) &&& 31)) &&& 1)), none, none] _ 0 0 kd _ _ mr _
    refine wp_iload_n (pc := 30) dX10_wrongSayings_30 rfl ?_
    refine wp_aload_n (pc := 31) dX10_wrongSayings_31 rfl ?_
    refine wp_getR (pc := 32) dX10_wrongSayings_32 fl_X10_12 rfl (TX10s_k th) (TX10s_r2 th) ?_
    refine wp_getR (pc := 35) dX10_wrongSayings_35 fl_X10_40 rfl (TX6s_k (TX10s_a2 th)) (TX6s_r2 (TX10s_a2 th)) ?_
    refine wp_iload_n (pc := 38) dX10_wrongSayings_38 rfl ?_
    refine wp_iald (pc := 39) dX10_wrongSayings_39 (TX6s_a2 (TX10s_a2 th)) F.1 ?_
    have F := F.2
    refine wp_ishr (pc := 40) dX10_wrongSayings_40 ?_
    refine wp_iconst (v := 1) (pc := 41) dX10_wrongSayings_41 (by decide) ?_
    refine wp_iand (pc := 42) dX10_wrongSayings_42 ?_
    refine wp_istore (pc := 43) dX10_wrongSayings_43 (Nat.le_of_ble_eq_true rfl) rfl ?_
    show wp l M_X10_wrongSayings d 0 0 _ [some (.ref h), some (.int x1), some (.int x2), some (.int x3), some (.int ((x1 >>> ((mi ((h + 1) + 2) (Int32.toNatClampNeg x3)) &&& 31)) &&& 1)), some (.int ((x1 >>> ((mi ((h + 1) + 3) (Int32.toNatClampNeg x3)) &&& 31)) &&& 1)), none] _ 0 0 kd _ _ mr _
    refine wp_iload (pc := 45) dX10_wrongSayings_45 rfl ?_
    refine wp_aload_n (pc := 47) dX10_wrongSayings_47 rfl ?_
    refine wp_getR (pc := 48) dX10_wrongSayings_48 fl_X10_12 rfl (TX10s_k th) (TX10s_r2 th) ?_
    refine wp_getR (pc := 51) dX10_wrongSayings_51 fl_X10_49 rfl (TX6s_k (TX10s_a2 th)) (TX6s_r0 (TX10s_a2 th)) ?_
    refine wp_iload_n (pc := 54) dX10_wrongSayings_54 rfl ?_
    refine wp_iald (pc := 55) dX10_wrongSayings_55 (TX6s_a0 (TX10s_a2 th)) F.1 ?_
    have F := F.2
    suffices J2 : ∀ v3 : Int32, v3 = (b2i (decide (((x1 >>> ((mi ((h + 1) + 3) (Int32.toNatClampNeg x3)) &&& 31)) &&& 1) = (mi ((h + 1) + 1) (Int32.toNatClampNeg x3))))) → wp l M_X10_wrongSayings d 0 0 64 [some (.ref h), some (.int x1), some (.int x2), some (.int x3), some (.int ((x1 >>> ((mi ((h + 1) + 2) (Int32.toNatClampNeg x3)) &&& 31)) &&& 1)), some (.int ((x1 >>> ((mi ((h + 1) + 3) (Int32.toNatClampNeg x3)) &&& 31)) &&& 1)), none] [.int v3] 0 0 kd mi ml mr _ by
        refine wp_icmp_ne (tgt := 63) (pc := 56) dX10_wrongSayings_56 (by decide) (fun c4 => ?_) (fun c4 => ?_)
        · refine wp_iconst (v := 0) (pc := 63) dX10_wrongSayings_63 (by decide) ?_
          exact J2 _ (by simp only [c4, if_true, if_false, decide_true, decide_false, Bool.not_true, Bool.not_false, Bool.true_and, Bool.false_and, Bool.true_or, Bool.false_or, b2i_t, b2i_f, ite_true, ite_false, not_true_eq_false, not_false_eq_true, reduceCtorEq, decide_eq_true_eq])
        · refine wp_iconst (v := 1) (pc := 59) dX10_wrongSayings_59 (by decide) ?_
          refine wp_goto (tgt := 64) (pc := 60) dX10_wrongSayings_60 (by decide) ?_
          exact J2 _ (by simp only [eq_true c4, if_true, if_false, decide_true, decide_false, Bool.not_true, Bool.not_false, Bool.true_and, Bool.false_and, Bool.true_or, Bool.false_or, b2i_t, b2i_f, ite_true, ite_false, not_true_eq_false, not_false_eq_true, reduceCtorEq, decide_eq_true_eq])
    intro v3 ev3
    subst ev3
    refine wp_istore (pc := 64) dX10_wrongSayings_64 (Nat.le_of_ble_eq_true rfl) rfl ?_
    show wp l M_X10_wrongSayings d 0 0 _ [some (.ref h), some (.int x1), some (.int x2), some (.int x3), some (.int ((x1 >>> ((mi ((h + 1) + 2) (Int32.toNatClampNeg x3)) &&& 31)) &&& 1)), some (.int ((x1 >>> ((mi ((h + 1) + 3) (Int32.toNatClampNeg x3)) &&& 31)) &&& 1)), some (.int (b2i (decide (((x1 >>> ((mi ((h + 1) + 3) (Int32.toNatClampNeg x3)) &&& 31)) &&& 1) = (mi ((h + 1) + 1) (Int32.toNatClampNeg x3))))))] _ 0 0 kd _ _ mr _
    refine wp_iload_n (pc := 66) dX10_wrongSayings_66 rfl ?_
    refine wp_iload (pc := 67) dX10_wrongSayings_67 rfl ?_
    refine wp_iload (pc := 69) dX10_wrongSayings_69 rfl ?_
    refine wp_icmp_ne (tgt := 78) (pc := 71) dX10_wrongSayings_71 (by decide) (fun c5 => ?_) (fun c5 => ?_)
    · have F := F.1 c5
      refine wp_iconst (v := 0) (pc := 78) dX10_wrongSayings_78 (by decide) ?_
      exact wp_less (L' := [some (.ref h), some (.int x1), none, some (.int x3), none, none, none]) ⟨rfl, ⟨rfl, ⟨rfl, trivial⟩⟩⟩ F
    · have F := F.2 c5
      refine wp_iconst (v := 1) (pc := 74) dX10_wrongSayings_74 (by decide) ?_
      refine wp_goto (tgt := 79) (pc := 75) dX10_wrongSayings_75 (by decide) ?_
      exact wp_less (L' := [some (.ref h), some (.int x1), none, some (.int x3), none, none, none]) ⟨rfl, ⟨rfl, ⟨rfl, trivial⟩⟩⟩ F
theorem w_X10_wrongSayings_79 {l : Launch} {d : Nat} {kd : pm_K} {mr : pm_R} {h : Nat} {x1 : Int32} {x3 : Int32} {s0 : Int32} {s1 : Int32} {mi : pm_I} {ml : pm_L} {K : Int32 → pm_I → pm_L → Prop} (th : TX10s kd mr h)
    (F : c_X10_wrongSayings_4 l d kd mr h x1 (s1 + s0) (x3 + 1) mi ml K) :
    c_X10_wrongSayings_79 l d kd mr h x1 x3 s0 s1 mi ml K := by
  show wp l M_X10_wrongSayings d 0 0 79 [some (.ref h), some (.int x1), none, some (.int x3), none, none, none] [.int s0, .int s1] 0 0 kd mi ml mr _
  refine wp_iadd (pc := 79) dX10_wrongSayings_79 ?_
  refine wp_istore_n (pc := 80) dX10_wrongSayings_80 (Nat.le_of_ble_eq_true rfl) rfl ?_
  show wp l M_X10_wrongSayings d 0 0 _ [some (.ref h), some (.int x1), some (.int (s1 + s0)), some (.int x3), none, none, none] _ 0 0 kd _ _ mr _
  refine wp_iinc (v := (x3 + 1)) (pc := 81) dX10_wrongSayings_81 rfl rfl rfl ?_
  show wp l M_X10_wrongSayings d 0 0 _ [some (.ref h), some (.int x1), some (.int (s1 + s0)), some (.int (x3 + 1)), none, none, none] _ 0 0 kd _ _ mr _
  refine wp_goto (tgt := 4) (pc := 84) dX10_wrongSayings_84 (by decide) ?_
  exact wp_less (L' := [some (.ref h), some (.int x1), some (.int (s1 + s0)), some (.int (x3 + 1)), none, none, none]) ⟨rfl, ⟨rfl, ⟨rfl, ⟨rfl, trivial⟩⟩⟩⟩ F
/-- wrongSayings(I)I -/
theorem w_X10_wrongSayings {l : Launch} {d : Nat} {kd : pm_K} {mr : pm_R} {h : Nat} {x1 : Int32} {mi : pm_I} {ml : pm_L} {K : Int32 → pm_I → pm_L → Prop} (th : TX10s kd mr h)
    (F : c_X10_wrongSayings_4 l d kd mr h x1 0 0 mi ml K) :
    wI l M_X10_wrongSayings d [.ref h, .int x1] kd mr mi ml K := by
  show wp l M_X10_wrongSayings d 0 0 0 [some (.ref h), some (.int x1), none, none, none, none, none] [] 0 0 kd mi ml mr _
  refine wp_iconst (v := 0) (pc := 0) dX10_wrongSayings_0 (by decide) ?_
  refine wp_istore_n (pc := 1) dX10_wrongSayings_1 (Nat.le_of_ble_eq_true rfl) rfl ?_
  show wp l M_X10_wrongSayings d 0 0 _ [some (.ref h), some (.int x1), some (.int 0), none, none, none, none] _ 0 0 kd _ _ mr _
  refine wp_iconst (v := 0) (pc := 2) dX10_wrongSayings_2 (by decide) ?_
  refine wp_istore_n (pc := 3) dX10_wrongSayings_3 (Nat.le_of_ble_eq_true rfl) rfl ?_
  show wp l M_X10_wrongSayings d 0 0 _ [some (.ref h), some (.int x1), some (.int 0), some (.int 0), none, none, none] _ 0 0 kd _ _ mr _
  exact wp_less (L' := [some (.ref h), some (.int x1), some (.int 0), some (.int 0), none, none, none]) ⟨rfl, ⟨rfl, ⟨rfl, ⟨rfl, trivial⟩⟩⟩⟩ F
def c_X10_findFitting_43 (l : Launch) (d : Nat) (kd : pm_K) (mr : pm_R) (h : Nat) (a1 na1 : Nat) (x2 : Int32) (x3 : Int32) (mi : pm_I) (ml : pm_L) (K : Int32 → pm_I → pm_L → Prop) : Prop := wp l M_X10_findFitting d 0 0 43 [some (.ref h), some (.ref a1), some (.int x2), some (.int x3)] [] 0 0 kd mi ml mr (qI kd mr K)
def c_X10_findFitting_4 (l : Launch) (d : Nat) (kd : pm_K) (mr : pm_R) (h : Nat) (a1 na1 : Nat) (x2 : Int32) (x3 : Int32) (mi : pm_I) (ml : pm_L) (K : Int32 → pm_I → pm_L → Prop) : Prop := wp l M_X10_findFitting d 0 0 4 [some (.ref h), some (.ref a1), some (.int x2), some (.int x3)] [] 0 0 kd mi ml mr (qI kd mr K)
theorem w_X10_findFitting_4 {l : Launch} {d : Nat} {kd : pm_K} {mr : pm_R} {h : Nat} {a1 na1 : Nat} {x2 : Int32} {x3 : Int32} {mi : pm_I} {ml : pm_L} {K : Int32 → pm_I → pm_L → Prop} (th : TX10s kd mr h) (ka1 : kd[a1]? = some (1, na1))
    (F : ((((1 : Int32) <<< ((mi h 0) &&& 31)) ≤ x3 → K x2 mi ml) ∧ (¬ ((1 : Int32) <<< ((mi h 0) &&& 31)) ≤ x3 → wB l M_X10_isAsMany d [.ref h, .int x3] kd mr mi ml (fun r2 mi3 ml4 => ((r2 = false → c_X10_findFitting_43 l (d + 1) kd mr h a1 na1 x2 x3 mi3 ml4 K) ∧ (r2 = true → wI l M_X10_wrongSayings d [.ref h, .int x3] kd mr mi3 ml4 (fun r6 mi7 ml8 => ((¬ r6 = 0 → c_X10_findFitting_43 l (d + 1) kd mr h a1 na1 x2 x3 mi7 ml8 K) ∧ (r6 = 0 → (((Int32.ofNat na1) ≤ x2 → c_X10_findFitting_43 l (d + 1) kd mr h a1 na1 x2 x3 mi7 ml8 K) ∧ (¬ (Int32.ofNat na1) ≤ x2 → vp_in x2 na1 ∧ c_X10_findFitting_43 l (d + 1) kd mr h a1 na1 (x2 + 1) x3 (pm_up mi7 a1 (Int32.toNatClampNeg x2) x3) ml8 K))))))))))) :
    c_X10_findFitting_4 l (d + 1) kd mr h a1 na1 x2 x3 mi ml K := by
  show wp l M_X10_findFitting (d + 1) 0 0 4 [some (.ref h), some (.ref a1), some (.int x2), some (.int x3)] [] 0 0 kd mi ml mr _
  refine wp_iload_n (pc := 4) dX10_findFitting_4 rfl ?_
  refine wp_iconst (v := 1) (pc := 5) dX10_findFitting_5 (by decide) ?_
  refine wp_aload_n (pc := 6) dX10_findFitting_6 rfl ?_
  refine wp_getI (pc := 7) dX10_findFitting_7 fl_X10_18 rfl (TX10s_k th) ?_
  refine wp_ishl (pc := 10) dX10_findFitting_10 ?_
  refine wp_icmp_ge (tgt := 49) (pc := 11) dX10_findFitting_11 (by decide) (fun c1 => ?_) (fun c1 => ?_)
  · have F := F.1 c1
    refine wp_iload_n (pc := 49) dX10_findFitting_49 rfl ?_
    exact r_I (pc := 50) dX10_findFitting_50 rfl F
  · have F := F.2 c1
    refine wp_aload_n (pc := 14) dX10_findFitting_14 rfl ?_
    refine wp_iload_n (pc := 15) dX10_findFitting_15 rfl ?_
    refine cvB [.int x3] [] (pc := 16) dX10_findFitting_16 ml_X10_52 iv_X10_isAsMany (TX10s_k th) (cl_X10 rfl) rfl rfl (Nat.le_of_ble_eq_true rfl) (Nat.le_of_ble_eq_true rfl) (wB.mono (fun r2 mi3 ml4 F => ?_) F)
    refine b_eq (tgt := 43) (pc := 19) dX10_findFitting_19 (by decide) (fun c5 => ?_) (fun c5 => ?_)
    · have F := F.1 c5
      exact wp_less (L' := [some (.ref h), some (.ref a1), some (.int x2), some (.int x3)]) ⟨rfl, ⟨rfl, ⟨rfl, ⟨rfl, trivial⟩⟩⟩⟩ F
    · have F := F.2 c5
      refine wp_aload_n (pc := 22) dX10_findFitting_22 rfl ?_
      refine wp_iload_n (pc := 23) dX10_findFitting_23 rfl ?_
      refine cvI [.int x3] [] (pc := 24) dX10_findFitting_24 ml_X10_56 iv_X10_wrongSayings (TX10s_k th) (cl_X10 rfl) rfl rfl (Nat.le_of_ble_eq_true rfl) (Nat.le_of_ble_eq_true rfl) (wI.mono (fun r6 mi7 ml8 F => ?_) F)
      refine wp_if_ne (tgt := 43) (pc := 27) dX10_findFitting_27 (by decide) (fun c9 => ?_) (fun c9 => ?_)
      · have F := F.1 c9
        exact wp_less (L' := [some (.ref h), some (.ref a1), some (.int x2), some (.int x3)]) ⟨rfl, ⟨rfl, ⟨rfl, ⟨rfl, trivial⟩⟩⟩⟩ F
      · have F := F.2 c9
        refine wp_iload_n (pc := 30) dX10_findFitting_30 rfl ?_
        refine wp_aload_n (pc := 31) dX10_findFitting_31 rfl ?_
        refine wp_alen (pc := 32) dX10_findFitting_32 (by decide) ka1 rfl ?_
        refine wp_icmp_ge (tgt := 43) (pc := 33) dX10_findFitting_33 (by decide) (fun c10 => ?_) (fun c10 => ?_)
        · have F := F.1 c10
          exact wp_less (L' := [some (.ref h), some (.ref a1), some (.int x2), some (.int x3)]) ⟨rfl, ⟨rfl, ⟨rfl, ⟨rfl, trivial⟩⟩⟩⟩ F
        · have F := F.2 c10
          refine wp_aload_n (pc := 36) dX10_findFitting_36 rfl ?_
          refine wp_iload_n (pc := 37) dX10_findFitting_37 rfl ?_
          refine wp_iload_n (pc := 38) dX10_findFitting_38 rfl ?_
          refine wp_iast (pc := 39) dX10_findFitting_39 ka1 F.1 ?_
          have F := F.2
          refine wp_iinc (v := (x2 + 1)) (pc := 40) dX10_findFitting_40 rfl rfl rfl ?_
          show wp l M_X10_findFitting (d + 1) 0 0 _ [some (.ref h), some (.ref a1), some (.int (x2 + 1)), some (.int x3)] _ 0 0 kd _ _ mr _
          exact wp_less (L' := [some (.ref h), some (.ref a1), some (.int (x2 + 1)), some (.int x3)]) ⟨rfl, ⟨rfl, ⟨rfl, ⟨rfl, trivial⟩⟩⟩⟩ F
theorem w_X10_findFitting_43 {l : Launch} {d : Nat} {kd : pm_K} {mr : pm_R} {h : Nat} {a1 na1 : Nat} {x2 : Int32} {x3 : Int32} {mi : pm_I} {ml : pm_L} {K : Int32 → pm_I → pm_L → Prop} (th : TX10s kd mr h) (ka1 : kd[a1]? = some (1, na1))
    (F : c_X10_findFitting_4 l (d + 1) kd mr h a1 na1 x2 (x3 + 1) mi ml K) :
    c_X10_findFitting_43 l (d + 1) kd mr h a1 na1 x2 x3 mi ml K := by
  show wp l M_X10_findFitting (d + 1) 0 0 43 [some (.ref h), some (.ref a1), some (.int x2), some (.int x3)] [] 0 0 kd mi ml mr _
  refine wp_iinc (v := (x3 + 1)) (pc := 43) dX10_findFitting_43 rfl rfl rfl ?_
  show wp l M_X10_findFitting (d + 1) 0 0 _ [some (.ref h), some (.ref a1), some (.int x2), some (.int (x3 + 1))] _ 0 0 kd _ _ mr _
  refine wp_goto (tgt := 4) (pc := 46) dX10_findFitting_46 (by decide) ?_
  exact wp_less (L' := [some (.ref h), some (.ref a1), some (.int x2), some (.int (x3 + 1))]) ⟨rfl, ⟨rfl, ⟨rfl, ⟨rfl, trivial⟩⟩⟩⟩ F
/-- findFitting([I)I -/
theorem w_X10_findFitting {l : Launch} {d : Nat} {kd : pm_K} {mr : pm_R} {h : Nat} {a1 na1 : Nat}  {mi : pm_I} {ml : pm_L} {K : Int32 → pm_I → pm_L → Prop} (th : TX10s kd mr h) (ka1 : kd[a1]? = some (1, na1))
    (F : c_X10_findFitting_4 l (d + 1) kd mr h a1 na1 0 0 mi ml K) :
    wI l M_X10_findFitting (d + 1) [.ref h, .ref a1] kd mr mi ml K := by
  show wp l M_X10_findFitting (d + 1) 0 0 0 [some (.ref h), some (.ref a1), none, none] [] 0 0 kd mi ml mr _
  refine wp_iconst (v := 0) (pc := 0) dX10_findFitting_0 (by decide) ?_
  refine wp_istore_n (pc := 1) dX10_findFitting_1 (Nat.le_of_ble_eq_true rfl) rfl ?_
  show wp l M_X10_findFitting (d + 1) 0 0 _ [some (.ref h), some (.ref a1), some (.int 0), none] _ 0 0 kd _ _ mr _
  refine wp_iconst (v := 0) (pc := 2) dX10_findFitting_2 (by decide) ?_
  refine wp_istore_n (pc := 3) dX10_findFitting_3 (Nat.le_of_ble_eq_true rfl) rfl ?_
  show wp l M_X10_findFitting (d + 1) 0 0 _ [some (.ref h), some (.ref a1), some (.int 0), some (.int 0)] _ 0 0 kd _ _ mr _
  exact wp_less (L' := [some (.ref h), some (.ref a1), some (.int 0), some (.int 0)]) ⟨rfl, ⟨rfl, ⟨rfl, ⟨rfl, trivial⟩⟩⟩⟩ F
def c_X10_inAll_12 (l : Launch) (d : Nat) (kd : pm_K) (mr : pm_R) (h : Nat) (a1 na1 : Nat) (x2 : Int32) (x3 : Int32) (x4 : Int32) (mi : pm_I) (ml : pm_L) (K : Int32 → pm_I → pm_L → Prop) : Prop := wp l M_X10_inAll d 0 0 12 [none, some (.ref a1), some (.int x2), some (.int x3), some (.int x4)] [] 0 0 kd mi ml mr (qI kd mr K)
theorem w_X10_inAll_12 {l : Launch} {d : Nat} {kd : pm_K} {mr : pm_R} {h : Nat} {a1 na1 : Nat} {x2 : Int32} {x3 : Int32} {x4 : Int32} {mi : pm_I} {ml : pm_L} {K : Int32 → pm_I → pm_L → Prop} (th : TX10s kd mr h) (ka1 : kd[a1]? = some (1, na1))
    (F : ((x2 ≤ x4 → K x3 mi ml) ∧ (¬ x2 ≤ x4 → vp_in x4 na1 ∧ c_X10_inAll_12 l d kd mr h a1 na1 x2 (x3 &&& (mi a1 (Int32.toNatClampNeg x4))) (x4 + 1) mi ml K))) :
    c_X10_inAll_12 l d kd mr h a1 na1 x2 x3 x4 mi ml K := by
  show wp l M_X10_inAll d 0 0 12 [none, some (.ref a1), some (.int x2), some (.int x3), some (.int x4)] [] 0 0 kd mi ml mr _
  refine wp_iload (pc := 12) dX10_inAll_12 rfl ?_
  refine wp_iload_n (pc := 14) dX10_inAll_14 rfl ?_
  refine wp_icmp_ge (tgt := 31) (pc := 15) dX10_inAll_15 (by decide) (fun c1 => ?_) (fun c1 => ?_)
  · have F := F.1 c1
    refine wp_iload_n (pc := 31) dX10_inAll_31 rfl ?_
    exact r_I (pc := 32) dX10_inAll_32 rfl F
  · have F := F.2 c1
    refine wp_iload_n (pc := 18) dX10_inAll_18 rfl ?_
    refine wp_aload_n (pc := 19) dX10_inAll_19 rfl ?_
    refine wp_iload (pc := 20) dX10_inAll_20 rfl ?_
    refine wp_iald (pc := 22) dX10_inAll_22 ka1 F.1 ?_
    have F := F.2
    refine wp_iand (pc := 23) dX10_inAll_23 ?_
    refine wp_istore_n (pc := 24) dX10_inAll_24 (Nat.le_of_ble_eq_true rfl) rfl ?_
    show wp l M_X10_inAll d 0 0 _ [none, some (.ref a1), some (.int x2), some (.int (x3 &&& (mi a1 (Int32.toNatClampNeg x4)))), some (.int x4)] _ 0 0 kd _ _ mr _
    refine wp_iinc (v := (x4 + 1)) (pc := 25) dX10_inAll_25 rfl rfl rfl ?_
    show wp l M_X10_inAll d 0 0 _ [none, some (.ref a1), some (.int x2), some (.int (x3 &&& (mi a1 (Int32.toNatClampNeg x4)))), some (.int (x4 + 1))] _ 0 0 kd _ _ mr _
    refine wp_goto (tgt := 12) (pc := 28) dX10_inAll_28 (by decide) ?_
    exact wp_less (L' := [none, some (.ref a1), some (.int x2), some (.int (x3 &&& (mi a1 (Int32.toNatClampNeg x4)))), some (.int (x4 + 1))]) ⟨rfl, ⟨rfl, ⟨rfl, ⟨rfl, trivial⟩⟩⟩⟩ F
/-- inAll([II)I -/
theorem w_X10_inAll {l : Launch} {d : Nat} {kd : pm_K} {mr : pm_R} {h : Nat} {a1 na1 : Nat} {x2 : Int32} {mi : pm_I} {ml : pm_L} {K : Int32 → pm_I → pm_L → Prop} (th : TX10s kd mr h) (ka1 : kd[a1]? = some (1, na1))
    (F : c_X10_inAll_12 l d kd mr h a1 na1 x2 (((1 : Int32) <<< ((mi h 0) &&& 31)) - 1) 0 mi ml K) :
    wI l M_X10_inAll d [.ref h, .ref a1, .int x2] kd mr mi ml K := by
  show wp l M_X10_inAll d 0 0 0 [some (.ref h), some (.ref a1), some (.int x2), none, none] [] 0 0 kd mi ml mr _
  refine wp_iconst (v := 1) (pc := 0) dX10_inAll_0 (by decide) ?_
  refine wp_aload_n (pc := 1) dX10_inAll_1 rfl ?_
  refine wp_getI (pc := 2) dX10_inAll_2 fl_X10_18 rfl (TX10s_k th) ?_
  refine wp_ishl (pc := 5) dX10_inAll_5 ?_
  refine wp_iconst (v := 1) (pc := 6) dX10_inAll_6 (by decide) ?_
  refine wp_isub (pc := 7) dX10_inAll_7 ?_
  refine wp_istore_n (pc := 8) dX10_inAll_8 (Nat.le_of_ble_eq_true rfl) rfl ?_
  show wp l M_X10_inAll d 0 0 _ [some (.ref h), some (.ref a1), some (.int x2), some (.int (((1 : Int32) <<< ((mi h 0) &&& 31)) - 1)), none] _ 0 0 kd _ _ mr _
  refine wp_iconst (v := 0) (pc := 9) dX10_inAll_9 (by decide) ?_
  refine wp_istore (pc := 10) dX10_inAll_10 (Nat.le_of_ble_eq_true rfl) rfl ?_
  show wp l M_X10_inAll d 0 0 _ [some (.ref h), some (.ref a1), some (.int x2), some (.int (((1 : Int32) <<< ((mi h 0) &&& 31)) - 1)), some (.int 0)] _ 0 0 kd _ _ mr _
  exact wp_less (L' := [none, some (.ref a1), some (.int x2), some (.int (((1 : Int32) <<< ((mi h 0) &&& 31)) - 1)), some (.int 0)]) ⟨rfl, ⟨rfl, ⟨rfl, ⟨rfl, trivial⟩⟩⟩⟩ F
def c_X10_inNone_12 (l : Launch) (d : Nat) (kd : pm_K) (mr : pm_R) (h : Nat) (a1 na1 : Nat) (x2 : Int32) (x3 : Int32) (x4 : Int32) (mi : pm_I) (ml : pm_L) (K : Int32 → pm_I → pm_L → Prop) : Prop := wp l M_X10_inNone d 0 0 12 [none, some (.ref a1), some (.int x2), some (.int x3), some (.int x4)] [] 0 0 kd mi ml mr (qI kd mr K)
theorem w_X10_inNone_12 {l : Launch} {d : Nat} {kd : pm_K} {mr : pm_R} {h : Nat} {a1 na1 : Nat} {x2 : Int32} {x3 : Int32} {x4 : Int32} {mi : pm_I} {ml : pm_L} {K : Int32 → pm_I → pm_L → Prop} (th : TX10s kd mr h) (ka1 : kd[a1]? = some (1, na1))
    (F : ((x2 ≤ x4 → K x3 mi ml) ∧ (¬ x2 ≤ x4 → vp_in x4 na1 ∧ c_X10_inNone_12 l d kd mr h a1 na1 x2 (x3 &&& ((mi a1 (Int32.toNatClampNeg x4)) ^^^ (-1))) (x4 + 1) mi ml K))) :
    c_X10_inNone_12 l d kd mr h a1 na1 x2 x3 x4 mi ml K := by
  show wp l M_X10_inNone d 0 0 12 [none, some (.ref a1), some (.int x2), some (.int x3), some (.int x4)] [] 0 0 kd mi ml mr _
  refine wp_iload (pc := 12) dX10_inNone_12 rfl ?_
  refine wp_iload_n (pc := 14) dX10_inNone_14 rfl ?_
  refine wp_icmp_ge (tgt := 33) (pc := 15) dX10_inNone_15 (by decide) (fun c1 => ?_) (fun c1 => ?_)
  · have F := F.1 c1
    refine wp_iload_n (pc := 33) dX10_inNone_33 rfl ?_
    exact r_I (pc := 34) dX10_inNone_34 rfl F
  · have F := F.2 c1
    refine wp_iload_n (pc := 18) dX10_inNone_18 rfl ?_
    refine wp_aload_n (pc := 19) dX10_inNone_19 rfl ?_
    refine wp_iload (pc := 20) dX10_inNone_20 rfl ?_
    refine wp_iald (pc := 22) dX10_inNone_22 ka1 F.1 ?_
    have F := F.2
    refine wp_iconst (v := -1) (pc := 23) dX10_inNone_23 (by decide) ?_
    refine wp_ixor (pc := 24) dX10_inNone_24 ?_
    refine wp_iand (pc := 25) dX10_inNone_25 ?_
    refine wp_istore_n (pc := 26) dX10_inNone_26 (Nat.le_of_ble_eq_true rfl) rfl ?_
    show wp l M_X10_inNone d 0 0 _ [none, some (.ref a1), some (.int x2), some (.int (x3 &&& ((mi a1 (Int32.toNatClampNeg x4)) ^^^ (-1)))), some (.int x4)] _ 0 0 kd _ _ mr _
    refine wp_iinc (v := (x4 + 1)) (pc := 27) dX10_inNone_27 rfl rfl rfl ?_
    show wp l M_X10_inNone d 0 0 _ [none, some (.ref a1), some (.int x2), some (.int (x3 &&& ((mi a1 (Int32.toNatClampNeg x4)) ^^^ (-1)))), some (.int (x4 + 1))] _ 0 0 kd _ _ mr _
    refine wp_goto (tgt := 12) (pc := 30) dX10_inNone_30 (by decide) ?_
    exact wp_less (L' := [none, some (.ref a1), some (.int x2), some (.int (x3 &&& ((mi a1 (Int32.toNatClampNeg x4)) ^^^ (-1)))), some (.int (x4 + 1))]) ⟨rfl, ⟨rfl, ⟨rfl, ⟨rfl, trivial⟩⟩⟩⟩ F
/-- inNone([II)I -/
theorem w_X10_inNone {l : Launch} {d : Nat} {kd : pm_K} {mr : pm_R} {h : Nat} {a1 na1 : Nat} {x2 : Int32} {mi : pm_I} {ml : pm_L} {K : Int32 → pm_I → pm_L → Prop} (th : TX10s kd mr h) (ka1 : kd[a1]? = some (1, na1))
    (F : c_X10_inNone_12 l d kd mr h a1 na1 x2 (((1 : Int32) <<< ((mi h 0) &&& 31)) - 1) 0 mi ml K) :
    wI l M_X10_inNone d [.ref h, .ref a1, .int x2] kd mr mi ml K := by
  show wp l M_X10_inNone d 0 0 0 [some (.ref h), some (.ref a1), some (.int x2), none, none] [] 0 0 kd mi ml mr _
  refine wp_iconst (v := 1) (pc := 0) dX10_inNone_0 (by decide) ?_
  refine wp_aload_n (pc := 1) dX10_inNone_1 rfl ?_
  refine wp_getI (pc := 2) dX10_inNone_2 fl_X10_18 rfl (TX10s_k th) ?_
  refine wp_ishl (pc := 5) dX10_inNone_5 ?_
  refine wp_iconst (v := 1) (pc := 6) dX10_inNone_6 (by decide) ?_
  refine wp_isub (pc := 7) dX10_inNone_7 ?_
  refine wp_istore_n (pc := 8) dX10_inNone_8 (Nat.le_of_ble_eq_true rfl) rfl ?_
  show wp l M_X10_inNone d 0 0 _ [some (.ref h), some (.ref a1), some (.int x2), some (.int (((1 : Int32) <<< ((mi h 0) &&& 31)) - 1)), none] _ 0 0 kd _ _ mr _
  refine wp_iconst (v := 0) (pc := 9) dX10_inNone_9 (by decide) ?_
  refine wp_istore (pc := 10) dX10_inNone_10 (Nat.le_of_ble_eq_true rfl) rfl ?_
  show wp l M_X10_inNone d 0 0 _ [some (.ref h), some (.ref a1), some (.int x2), some (.int (((1 : Int32) <<< ((mi h 0) &&& 31)) - 1)), some (.int 0)] _ 0 0 kd _ _ mr _
  exact wp_less (L' := [none, some (.ref a1), some (.int x2), some (.int (((1 : Int32) <<< ((mi h 0) &&& 31)) - 1)), some (.int 0)]) ⟨rfl, ⟨rfl, ⟨rfl, ⟨rfl, trivial⟩⟩⟩⟩ F
def c_X10_bestQuestion_73 (l : Launch) (d : Nat) (kd : pm_K) (mr : pm_R) (h : Nat) (a1 na1 : Nat) (x2 : Int32) (x3 : Int32) (x4 : Int32) (x5 : Int32) (x6 : Int32) (mi : pm_I) (ml : pm_L) (K : Int32 → pm_I → pm_L → Prop) : Prop := wp l M_X10_bestQuestion d 0 0 73 [some (.ref h), some (.ref a1), some (.int x2), some (.int x3), some (.int x4), some (.int x5), some (.int x6), none, none] [] 0 0 kd mi ml mr (qI kd mr K)
def c_X10_bestQuestion_22 (l : Launch) (d : Nat) (kd : pm_K) (mr : pm_R) (h : Nat) (a1 na1 : Nat) (x2 : Int32) (x3 : Int32) (x4 : Int32) (x5 : Int32) (x6 : Int32) (mi : pm_I) (ml : pm_L) (K : Int32 → pm_I → pm_L → Prop) : Prop := wp l M_X10_bestQuestion d 0 0 22 [some (.ref h), some (.ref a1), some (.int x2), some (.int x3), some (.int x4), some (.int x5), some (.int x6), none, none] [] 0 0 kd mi ml mr (qI kd mr K)
def c_X10_bestQuestion_10 (l : Launch) (d : Nat) (kd : pm_K) (mr : pm_R) (h : Nat) (a1 na1 : Nat) (x2 : Int32) (x3 : Int32) (x4 : Int32) (x5 : Int32) (mi : pm_I) (ml : pm_L) (K : Int32 → pm_I → pm_L → Prop) : Prop := wp l M_X10_bestQuestion d 0 0 10 [some (.ref h), some (.ref a1), some (.int x2), some (.int x3), some (.int x4), some (.int x5), none, none, none] [] 0 0 kd mi ml mr (qI kd mr K)
theorem w_X10_bestQuestion_10 {l : Launch} {d : Nat} {kd : pm_K} {mr : pm_R} {h : Nat} {a1 na1 : Nat} {x2 : Int32} {x3 : Int32} {x4 : Int32} {x5 : Int32} {mi : pm_I} {ml : pm_L} {K : Int32 → pm_I → pm_L → Prop} (th : TX10s kd mr h) (ka1 : kd[a1]? = some (1, na1))
    (F : (((mi h 0) ≤ x5 → K x3 mi ml) ∧ (¬ (mi h 0) ≤ x5 → c_X10_bestQuestion_22 l (d + 1) kd mr h a1 na1 x2 x3 x4 x5 0 mi ml K))) :
    c_X10_bestQuestion_10 l (d + 1) kd mr h a1 na1 x2 x3 x4 x5 mi ml K := by
  show wp l M_X10_bestQuestion (d + 1) 0 0 10 [some (.ref h), some (.ref a1), some (.int x2), some (.int x3), some (.int x4), some (.int x5), none, none, none] [] 0 0 kd mi ml mr _
  refine wp_iload (pc := 10) dX10_bestQuestion_10 rfl ?_
  refine wp_aload_n (pc := 12) dX10_bestQuestion_12 rfl ?_
  refine wp_getI (pc := 13) dX10_bestQuestion_13 fl_X10_18 rfl (TX10s_k th) ?_
  refine wp_icmp_ge (tgt := 85) (pc := 16) dX10_bestQuestion_16 (by decide) (fun c1 => ?_) (fun c1 => ?_)
  · have F := F.1 c1
    refine wp_iload_n (pc := 85) dX10_bestQuestion_85 rfl ?_
    exact r_I (pc := 86) dX10_bestQuestion_86 rfl F
  · have F := F.2 c1
    refine wp_iconst (v := 0) (pc := 19) dX10_bestQuestion_19 (by decide) ?_
    refine wp_istore (pc := 20) dX10_bestQuestion_20 (Nat.le_of_ble_eq_true rfl) rfl ?_
    show wp l M_X10_bestQuestion (d + 1) 0 0 _ [some (.ref h), some (.ref a1), some (.int x2), some (.int x3), some (.int x4), some (.int x5), some (.int 0), none, none] _ 0 0 kd _ _ mr _
    exact wp_less (L' := [some (.ref h), some (.ref a1), some (.int x2), some (.int x3), some (.int x4), some (.int x5), some (.int 0), none, none]) ⟨rfl, ⟨rfl, ⟨rfl, ⟨rfl, ⟨rfl, ⟨rfl, ⟨rfl, trivial⟩⟩⟩⟩⟩⟩⟩ F
theorem w_X10_bestQuestion_22 {l : Launch} {d : Nat} {kd : pm_K} {mr : pm_R} {h : Nat} {a1 na1 : Nat} {x2 : Int32} {x3 : Int32} {x4 : Int32} {x5 : Int32} {x6 : Int32} {mi : pm_I} {ml : pm_L} {K : Int32 → pm_I → pm_L → Prop} (th : TX10s kd mr h) (ka1 : kd[a1]? = some (1, na1))
    (F : (((mi h 0) ≤ x6 → c_X10_bestQuestion_10 l (d + 1) kd mr h a1 na1 x2 x3 x4 (x5 + 1) mi ml K) ∧ (¬ (mi h 0) ≤ x6 → wI l M_X10_saidBy d [.ref a1, .int x2, .int x5, .int x6] kd mr mi ml (fun r3 mi4 ml5 => ((x4 ≤ (if r3 < (x2 - r3) then (x2 - r3) else r3) → c_X10_bestQuestion_73 l (d + 1) kd mr h a1 na1 x2 x3 x4 x5 x6 mi4 ml5 K) ∧ (¬ x4 ≤ (if r3 < (x2 - r3) then (x2 - r3) else r3) → c_X10_bestQuestion_73 l (d + 1) kd mr h a1 na1 x2 ((8 * x5) + x6) (if r3 < (x2 - r3) then (x2 - r3) else r3) x5 x6 mi4 ml5 K)))))) :
    c_X10_bestQuestion_22 l (d + 1) kd mr h a1 na1 x2 x3 x4 x5 x6 mi ml K := by
  show wp l M_X10_bestQuestion (d + 1) 0 0 22 [some (.ref h), some (.ref a1), some (.int x2), some (.int x3), some (.int x4), some (.int x5), some (.int x6), none, none] [] 0 0 kd mi ml mr _
  refine wp_iload (pc := 22) dX10_bestQuestion_22 rfl ?_
  refine wp_aload_n (pc := 24) dX10_bestQuestion_24 rfl ?_
  refine wp_getI (pc := 25) dX10_bestQuestion_25 fl_X10_18 rfl (TX10s_k th) ?_
  refine wp_icmp_ge (tgt := 79) (pc := 28) dX10_bestQuestion_28 (by decide) (fun c2 => ?_) (fun c2 => ?_)
  · have F := F.1 c2
    refine wp_iinc (v := (x5 + 1)) (pc := 79) dX10_bestQuestion_79 rfl rfl rfl ?_
    show wp l M_X10_bestQuestion (d + 1) 0 0 _ [some (.ref h), some (.ref a1), some (.int x2), some (.int x3), some (.int x4), some (.int (x5 + 1)), some (.int x6), none, none] _ 0 0 kd _ _ mr _
    refine wp_goto (tgt := 10) (pc := 82) dX10_bestQuestion_82 (by decide) ?_
    exact wp_less (L' := [some (.ref h), some (.ref a1), some (.int x2), some (.int x3), some (.int x4), some (.int (x5 + 1)), none, none, none]) ⟨rfl, ⟨rfl, ⟨rfl, ⟨rfl, ⟨rfl, ⟨rfl, trivial⟩⟩⟩⟩⟩⟩ F
  · have F := F.2 c2
    refine wp_aload_n (pc := 31) dX10_bestQuestion_31 rfl ?_
    refine wp_iload_n (pc := 32) dX10_bestQuestion_32 rfl ?_
    refine wp_iload (pc := 33) dX10_bestQuestion_33 rfl ?_
    refine wp_iload (pc := 35) dX10_bestQuestion_35 rfl ?_
    refine csI [.ref a1, .int x2, .int x5, .int x6] [] (pc := 37) dX10_bestQuestion_37 ml_X10_77 st_X10_saidBy rfl rfl (Nat.le_of_ble_eq_true rfl) (Nat.le_of_ble_eq_true rfl) (wI.mono (fun r3 mi4 ml5 F => ?_) F)
    refine wp_istore (pc := 40) dX10_bestQuestion_40 (Nat.le_of_ble_eq_true rfl) rfl ?_
    show wp l M_X10_bestQuestion (d + 1) 0 0 _ [some (.ref h), some (.ref a1), some (.int x2), some (.int x3), some (.int x4), some (.int x5), some (.int x6), some (.int r3), none] _ 0 0 kd _ _ mr _
    refine wp_iload (pc := 42) dX10_bestQuestion_42 rfl ?_
    refine wp_iload_n (pc := 44) dX10_bestQuestion_44 rfl ?_
    refine wp_iload (pc := 45) dX10_bestQuestion_45 rfl ?_
    refine wp_isub (pc := 47) dX10_bestQuestion_47 ?_
    refine wp_max (pc := 48) dX10_bestQuestion_48 ⟨tb_5 62 rfl rfl, tb_2 152 rfl rfl, tb_1 14 rfl rfl, tb_2 153 rfl rfl⟩ (Nat.succ_pos d) (Nat.le_of_ble_eq_true rfl) ⟨Nat.le_refl 0, Nat.le_refl 0⟩ ?_
    refine wp_istore (pc := 51) dX10_bestQuestion_51 (Nat.le_of_ble_eq_true rfl) rfl ?_
    show wp l M_X10_bestQuestion (d + 1) 0 0 _ [some (.ref h), some (.ref a1), some (.int x2), some (.int x3), some (.int x4), some (.int x5), some (.int x6), some (.int r3), some (.int (if r3 < (x2 - r3) then (x2 - r3) else r3))] _ 0 0 kd _ _ mr _
    refine wp_iload (pc := 53) dX10_bestQuestion_53 rfl ?_
    refine wp_iload (pc := 55) dX10_bestQuestion_55 rfl ?_
    refine wp_icmp_ge (tgt := 73) (pc := 57) dX10_bestQuestion_57 (by decide) (fun c6 => ?_) (fun c6 => ?_)
    · have F := F.1 c6
      exact wp_less (L' := [some (.ref h), some (.ref a1), some (.int x2), some (.int x3), some (.int x4), some (.int x5), some (.int x6), none, none]) ⟨rfl, ⟨rfl, ⟨rfl, ⟨rfl, ⟨rfl, ⟨rfl, ⟨rfl, trivial⟩⟩⟩⟩⟩⟩⟩ F
    · have F := F.2 c6
      refine wp_iload (pc := 60) dX10_bestQuestion_60 rfl ?_
      refine wp_istore (pc := 62) dX10_bestQuestion_62 (Nat.le_of_ble_eq_true rfl) rfl ?_
      show wp l M_X10_bestQuestion (d + 1) 0 0 _ [some (.ref h), some (.ref a1), some (.int x2), some (.int x3), some (.int (if r3 < (x2 - r3) then (x2 - r3) else r3)), some (.int x5), some (.int x6), some (.int r3), some (.int (if r3 < (x2 - r3) then (x2 - r3) else r3))] _ 0 0 kd _ _ mr _
      refine wp_bipush (v := 8) (pc := 64) dX10_bestQuestion_64 (by decide) ?_
      refine wp_iload (pc := 66) dX10_bestQuestion_66 rfl ?_
      refine wp_imul (pc := 68) dX10_bestQuestion_68 ?_
      refine wp_iload (pc := 69) dX10_bestQuestion_69 rfl ?_
      refine wp_iadd (pc := 71) dX10_bestQuestion_71 ?_
      refine wp_istore_n (pc := 72) dX10_bestQuestion_72 (Nat.le_of_ble_eq_true rfl) rfl ?_
      show wp l M_X10_bestQuestion (d + 1) 0 0 _ [some (.ref h), some (.ref a1), some (.int x2), some (.int ((8 * x5) + x6)), some (.int (if r3 < (x2 - r3) then (x2 - r3) else r3)), some (.int x5), some (.int x6), some (.int r3), some (.int (if r3 < (x2 - r3) then (x2 - r3) else r3))] _ 0 0 kd _ _ mr _
      exact wp_less (L' := [some (.ref h), some (.ref a1), some (.int x2), some (.int ((8 * x5) + x6)), some (.int (if r3 < (x2 - r3) then (x2 - r3) else r3)), some (.int x5), some (.int x6), none, none]) ⟨rfl, ⟨rfl, ⟨rfl, ⟨rfl, ⟨rfl, ⟨rfl, ⟨rfl, trivial⟩⟩⟩⟩⟩⟩⟩ F
theorem w_X10_bestQuestion_73 {l : Launch} {d : Nat} {kd : pm_K} {mr : pm_R} {h : Nat} {a1 na1 : Nat} {x2 : Int32} {x3 : Int32} {x4 : Int32} {x5 : Int32} {x6 : Int32} {mi : pm_I} {ml : pm_L} {K : Int32 → pm_I → pm_L → Prop} (th : TX10s kd mr h) (ka1 : kd[a1]? = some (1, na1))
    (F : c_X10_bestQuestion_22 l (d + 1) kd mr h a1 na1 x2 x3 x4 x5 (x6 + 1) mi ml K) :
    c_X10_bestQuestion_73 l (d + 1) kd mr h a1 na1 x2 x3 x4 x5 x6 mi ml K := by
  show wp l M_X10_bestQuestion (d + 1) 0 0 73 [some (.ref h), some (.ref a1), some (.int x2), some (.int x3), some (.int x4), some (.int x5), some (.int x6), none, none] [] 0 0 kd mi ml mr _
  refine wp_iinc (v := (x6 + 1)) (pc := 73) dX10_bestQuestion_73 rfl rfl rfl ?_
  show wp l M_X10_bestQuestion (d + 1) 0 0 _ [some (.ref h), some (.ref a1), some (.int x2), some (.int x3), some (.int x4), some (.int x5), some (.int (x6 + 1)), none, none] _ 0 0 kd _ _ mr _
  refine wp_goto (tgt := 22) (pc := 76) dX10_bestQuestion_76 (by decide) ?_
  exact wp_less (L' := [some (.ref h), some (.ref a1), some (.int x2), some (.int x3), some (.int x4), some (.int x5), some (.int (x6 + 1)), none, none]) ⟨rfl, ⟨rfl, ⟨rfl, ⟨rfl, ⟨rfl, ⟨rfl, ⟨rfl, trivial⟩⟩⟩⟩⟩⟩⟩ F
/-- bestQuestion([II)I -/
theorem w_X10_bestQuestion {l : Launch} {d : Nat} {kd : pm_K} {mr : pm_R} {h : Nat} {a1 na1 : Nat} {x2 : Int32} {mi : pm_I} {ml : pm_L} {K : Int32 → pm_I → pm_L → Prop} (th : TX10s kd mr h) (ka1 : kd[a1]? = some (1, na1))
    (F : c_X10_bestQuestion_10 l (d + 1) kd mr h a1 na1 x2 (-1) (x2 + 1) 0 mi ml K) :
    wI l M_X10_bestQuestion (d + 1) [.ref h, .ref a1, .int x2] kd mr mi ml K := by
  show wp l M_X10_bestQuestion (d + 1) 0 0 0 [some (.ref h), some (.ref a1), some (.int x2), none, none, none, none, none, none] [] 0 0 kd mi ml mr _
  refine wp_iconst (v := -1) (pc := 0) dX10_bestQuestion_0 (by decide) ?_
  refine wp_istore_n (pc := 1) dX10_bestQuestion_1 (Nat.le_of_ble_eq_true rfl) rfl ?_
  show wp l M_X10_bestQuestion (d + 1) 0 0 _ [some (.ref h), some (.ref a1), some (.int x2), some (.int (-1)), none, none, none, none, none] _ 0 0 kd _ _ mr _
  refine wp_iload_n (pc := 2) dX10_bestQuestion_2 rfl ?_
  refine wp_iconst (v := 1) (pc := 3) dX10_bestQuestion_3 (by decide) ?_
  refine wp_iadd (pc := 4) dX10_bestQuestion_4 ?_
  refine wp_istore (pc := 5) dX10_bestQuestion_5 (Nat.le_of_ble_eq_true rfl) rfl ?_
  show wp l M_X10_bestQuestion (d + 1) 0 0 _ [some (.ref h), some (.ref a1), some (.int x2), some (.int (-1)), some (.int (x2 + 1)), none, none, none, none] _ 0 0 kd _ _ mr _
  refine wp_iconst (v := 0) (pc := 7) dX10_bestQuestion_7 (by decide) ?_
  refine wp_istore (pc := 8) dX10_bestQuestion_8 (Nat.le_of_ble_eq_true rfl) rfl ?_
  show wp l M_X10_bestQuestion (d + 1) 0 0 _ [some (.ref h), some (.ref a1), some (.int x2), some (.int (-1)), some (.int (x2 + 1)), some (.int 0), none, none, none] _ 0 0 kd _ _ mr _
  exact wp_less (L' := [some (.ref h), some (.ref a1), some (.int x2), some (.int (-1)), some (.int (x2 + 1)), some (.int 0), none, none, none]) ⟨rfl, ⟨rfl, ⟨rfl, ⟨rfl, ⟨rfl, ⟨rfl, trivial⟩⟩⟩⟩⟩⟩ F
def c_X10_saidBy_6 (l : Launch) (d : Nat) (kd : pm_K) (mr : pm_R) (a0 na0 : Nat) (x1 : Int32) (x2 : Int32) (x3 : Int32) (x4 : Int32) (x5 : Int32) (mi : pm_I) (ml : pm_L) (K : Int32 → pm_I → pm_L → Prop) : Prop := wp l M_X10_saidBy d 0 0 6 [some (.ref a0), some (.int x1), some (.int x2), some (.int x3), some (.int x4), some (.int x5)] [] 0 0 kd mi ml mr (qI kd mr K)
theorem w_X10_saidBy_6 {l : Launch} {d : Nat} {kd : pm_K} {mr : pm_R} {a0 na0 : Nat} {x1 : Int32} {x2 : Int32} {x3 : Int32} {x4 : Int32} {x5 : Int32} {mi : pm_I} {ml : pm_L} {K : Int32 → pm_I → pm_L → Prop} (ka0 : kd[a0]? = some (1, na0))
    (F : ((x1 ≤ x5 → K x4 mi ml) ∧ (¬ x1 ≤ x5 → vp_in x5 na0 ∧ vp_in x5 na0 ∧ c_X10_saidBy_6 l d kd mr a0 na0 x1 x2 x3 (x4 + ((((mi a0 (Int32.toNatClampNeg x5)) >>> (x2 &&& 31)) ^^^ ((mi a0 (Int32.toNatClampNeg x5)) >>> (x3 &&& 31))) &&& 1)) (x5 + 1) mi ml K))) :
    c_X10_saidBy_6 l d kd mr a0 na0 x1 x2 x3 x4 x5 mi ml K := by
  show wp l M_X10_saidBy d 0 0 6 [some (.ref a0), some (.int x1), some (.int x2), some (.int x3), some (.int x4), some (.int x5)] [] 0 0 kd mi ml mr _
  refine wp_iload (pc := 6) dX10_saidBy_6 rfl ?_
  refine wp_iload_n (pc := 8) dX10_saidBy_8 rfl ?_
  refine wp_icmp_ge (tgt := 38) (pc := 9) dX10_saidBy_9 (by decide) (fun c1 => ?_) (fun c1 => ?_)
  · have F := F.1 c1
    refine wp_iload (pc := 38) dX10_saidBy_38 rfl ?_
    exact r_I (pc := 40) dX10_saidBy_40 rfl F
  · have F := F.2 c1
    refine wp_iload (pc := 12) dX10_saidBy_12 rfl ?_
    refine wp_aload_n (pc := 14) dX10_saidBy_14 rfl ?_
    refine wp_iload (pc := 15) dX10_saidBy_15 rfl ?_
    refine wp_iald (pc := 17) dX10_saidBy_17 ka0 F.1 ?_
    have F := F.2
    refine wp_iload_n (pc := 18) dX10_saidBy_18 rfl ?_
    refine wp_ishr (pc := 19) dX10_saidBy_19 ?_
    refine wp_aload_n (pc := 20) dX10_saidBy_20 rfl ?_
    refine wp_iload (pc := 21) dX10_saidBy_21 rfl ?_
    refine wp_iald (pc := 23) dX10_saidBy_23 ka0 F.1 ?_
    have F := F.2
    refine wp_iload_n (pc := 24) dX10_saidBy_24 rfl ?_
    refine wp_ishr (pc := 25) dX10_saidBy_25 ?_
    refine wp_ixor (pc := 26) dX10_saidBy_26 ?_
    refine wp_iconst (v := 1) (pc := 27) dX10_saidBy_27 (by decide) ?_
    refine wp_iand (pc := 28) dX10_saidBy_28 ?_
    refine wp_iadd (pc := 29) dX10_saidBy_29 ?_
    refine wp_istore (pc := 30) dX10_saidBy_30 (Nat.le_of_ble_eq_true rfl) rfl ?_
    show wp l M_X10_saidBy d 0 0 _ [some (.ref a0), some (.int x1), some (.int x2), some (.int x3), some (.int (x4 + ((((mi a0 (Int32.toNatClampNeg x5)) >>> (x2 &&& 31)) ^^^ ((mi a0 (Int32.toNatClampNeg x5)) >>> (x3 &&& 31))) &&& 1))), some (.int x5)] _ 0 0 kd _ _ mr _
    refine wp_iinc (v := (x5 + 1)) (pc := 32) dX10_saidBy_32 rfl rfl rfl ?_
    show wp l M_X10_saidBy d 0 0 _ [some (.ref a0), some (.int x1), some (.int x2), some (.int x3), some (.int (x4 + ((((mi a0 (Int32.toNatClampNeg x5)) >>> (x2 &&& 31)) ^^^ ((mi a0 (Int32.toNatClampNeg x5)) >>> (x3 &&& 31))) &&& 1))), some (.int (x5 + 1))] _ 0 0 kd _ _ mr _
    refine wp_goto (tgt := 6) (pc := 35) dX10_saidBy_35 (by decide) ?_
    exact wp_less (L' := [some (.ref a0), some (.int x1), some (.int x2), some (.int x3), some (.int (x4 + ((((mi a0 (Int32.toNatClampNeg x5)) >>> (x2 &&& 31)) ^^^ ((mi a0 (Int32.toNatClampNeg x5)) >>> (x3 &&& 31))) &&& 1))), some (.int (x5 + 1))]) ⟨rfl, ⟨rfl, ⟨rfl, ⟨rfl, ⟨rfl, ⟨rfl, trivial⟩⟩⟩⟩⟩⟩ F
/-- saidBy([IIII)I -/
theorem w_X10_saidBy {l : Launch} {d : Nat} {kd : pm_K} {mr : pm_R} {a0 na0 : Nat} {x1 : Int32} {x2 : Int32} {x3 : Int32} {mi : pm_I} {ml : pm_L} {K : Int32 → pm_I → pm_L → Prop} (ka0 : kd[a0]? = some (1, na0))
    (F : c_X10_saidBy_6 l d kd mr a0 na0 x1 x2 x3 0 0 mi ml K) :
    wI l M_X10_saidBy d [.ref a0, .int x1, .int x2, .int x3] kd mr mi ml K := by
  show wp l M_X10_saidBy d 0 0 0 [some (.ref a0), some (.int x1), some (.int x2), some (.int x3), none, none] [] 0 0 kd mi ml mr _
  refine wp_iconst (v := 0) (pc := 0) dX10_saidBy_0 (by decide) ?_
  refine wp_istore (pc := 1) dX10_saidBy_1 (Nat.le_of_ble_eq_true rfl) rfl ?_
  show wp l M_X10_saidBy d 0 0 _ [some (.ref a0), some (.int x1), some (.int x2), some (.int x3), some (.int 0), none] _ 0 0 kd _ _ mr _
  refine wp_iconst (v := 0) (pc := 3) dX10_saidBy_3 (by decide) ?_
  refine wp_istore (pc := 4) dX10_saidBy_4 (Nat.le_of_ble_eq_true rfl) rfl ?_
  show wp l M_X10_saidBy d 0 0 _ [some (.ref a0), some (.int x1), some (.int x2), some (.int x3), some (.int 0), some (.int 0)] _ 0 0 kd _ _ mr _
  exact wp_less (L' := [some (.ref a0), some (.int x1), some (.int x2), some (.int x3), some (.int 0), some (.int 0)]) ⟨rfl, ⟨rfl, ⟨rfl, ⟨rfl, ⟨rfl, ⟨rfl, trivial⟩⟩⟩⟩⟩⟩ F
/-- fact(III)I -/
theorem w_X11_fact {l : Launch} {d : Nat} {kd : pm_K} {mr : pm_R} {h : Nat} {x1 : Int32} {x2 : Int32} {x3 : Int32} {mi : pm_I} {ml : pm_L} {K : Int32 → pm_I → pm_L → Prop} (th : TX11s kd mr h)
    (F : wR l M_X9_sightAt d [.ref (h + 1), .int x1] kd mr mi ml (fun r1 mi2 ml3 => ((r1 = none → K (-2) mi2 ml3) ∧ (∀ b4, r1 = some b4 → TX6s kd mr b4 ∧ wI l M_X6_tell d [.ref b4, .int x2, .int x3] kd mr mi2 ml3 (fun r5 mi6 ml7 => K r5 mi6 ml7))))) :
    wI l M_X11_fact (d + 1) [.ref h, .int x1, .int x2, .int x3] kd mr mi ml K := by
  show wp l M_X11_fact (d + 1) 0 0 0 [some (.ref h), some (.int x1), some (.int x2), some (.int x3), none] [] 0 0 kd mi ml mr _
  refine wp_aload_n (pc := 0) dX11_fact_0 rfl ?_
  refine wp_getR (pc := 1) dX11_fact_1 fl_X11_10 rfl (TX11s_k th) (TX11s_r0 th) ?_
  refine wp_iload_n (pc := 4) dX11_fact_4 rfl ?_
  refine cvR [.int x1] [] (pc := 5) dX11_fact_5 ml_X11_242 iv_X9_sightAt (TX9s_k (TX11s_a0 th)) (cl_X9 rfl) rfl rfl (Nat.le_of_ble_eq_true rfl) (Nat.le_of_ble_eq_true rfl) (wR.mono (fun r1 mi2 ml3 F => ?_) F)
  cases r1 with
  | none =>
      have F := F.1 rfl
      show wp l M_X11_fact (d + 1) 0 0 _ _ (.null :: _) 0 0 kd _ _ mr _
      refine wp_astoreN (pc := 8) dX11_fact_8 (Nat.le_of_ble_eq_true rfl) rfl ?_
      show wp l M_X11_fact (d + 1) 0 0 _ [some (.ref h), some (.int x1), some (.int x2), some (.int x3), some (.null)] _ 0 0 kd _ _ mr _
      refine wp_aloadN (pc := 10) dX11_fact_10 rfl ?_
      refine wp_ifnonnullN (pc := 12) dX11_fact_12 ?_
      refine wp_bipush (v := -2) (pc := 15) dX11_fact_15 (by decide) ?_
      refine wp_goto (tgt := 27) (pc := 17) dX11_fact_17 (by decide) ?_
      exact r_I (pc := 27) dX11_fact_27 rfl F
  | some b4 =>
      obtain ⟨tb4, F⟩ := F.2 b4 rfl
      show wp l M_X11_fact (d + 1) 0 0 _ _ (.ref b4 :: _) 0 0 kd _ _ mr _
      refine wp_astore (pc := 8) dX11_fact_8 (Nat.le_of_ble_eq_true rfl) rfl ?_
      show wp l M_X11_fact (d + 1) 0 0 _ [some (.ref h), some (.int x1), some (.int x2), some (.int x3), some (.ref b4)] _ 0 0 kd _ _ mr _
      refine wp_aload (pc := 10) dX11_fact_10 rfl ?_
      refine wp_ifnonnull (tgt := 20) (pc := 12) dX11_fact_12 (by decide) ?_
      refine wp_aload (pc := 20) dX11_fact_20 rfl ?_
      refine wp_iload_n (pc := 22) dX11_fact_22 rfl ?_
      refine wp_iload_n (pc := 23) dX11_fact_23 rfl ?_
      refine cvI [.int x2, .int x3] [] (pc := 24) dX11_fact_24 ml_X11_122 iv_X6_tell (TX6s_k tb4) (cl_X6 rfl) rfl rfl (Nat.le_of_ble_eq_true rfl) (Nat.le_of_ble_eq_true rfl) (wI.mono (fun r5 mi6 ml7 F => ?_) F)
      exact r_I (pc := 27) dX11_fact_27 rfl F
/-- sightAt(I)LCityChords$Rows; -/
theorem w_X9_sightAt {l : Launch} {d : Nat} {kd : pm_K} {mr : pm_R} {h : Nat} {x1 : Int32} {mi : pm_I} {ml : pm_L} {K : Option Nat → pm_I → pm_L → Prop} (th : TX9s kd mr h)
    (F : wB l M_X9_hasOne d [.ref h, .int 3, .int x1] kd mr mi ml (fun r1 mi2 ml3 => ((r1 = false → K none mi2 ml3) ∧ (r1 = true → vp_in x1 2 ∧ ∃ b5, mr (h + 6) (Int32.toNatClampNeg x1) = some b5 ∧ TX6s kd mr b5 ∧ K (some b5) mi2 ml3)))) :
    wR l M_X9_sightAt (d + 1) [.ref h, .int x1] kd mr mi ml K := by
  show wp l M_X9_sightAt (d + 1) 0 0 0 [some (.ref h), some (.int x1)] [] 0 0 kd mi ml mr _
  refine wp_aload_n (pc := 0) dX9_sightAt_0 rfl ?_
  refine wp_iconst (v := 3) (pc := 1) dX9_sightAt_1 (by decide) ?_
  refine wp_iload_n (pc := 2) dX9_sightAt_2 rfl ?_
  refine cvB [.int 3, .int x1] [] (pc := 3) dX9_sightAt_3 ml_X9_69 iv_X9_hasOne (TX9s_k th) (cl_X9 rfl) rfl rfl (Nat.le_of_ble_eq_true rfl) (Nat.le_of_ble_eq_true rfl) (wB.mono (fun r1 mi2 ml3 F => ?_) F)
  refine b_eq (tgt := 18) (pc := 6) dX9_sightAt_6 (by decide) (fun c4 => ?_) (fun c4 => ?_)
  · have F := F.1 c4
    refine wp_null (pc := 18) dX9_sightAt_18 ?_
    exact r_N (pc := 19) dX9_sightAt_19 rfl (Or.inl ⟨_, rfl⟩) F
  · have F := F.2 c4
    refine wp_aload_n (pc := 9) dX9_sightAt_9 rfl ?_
    refine wp_getR (pc := 10) dX9_sightAt_10 fl_X9_41 rfl (TX9s_k th) (TX9s_r8 th) ?_
    refine wp_iload_n (pc := 13) dX9_sightAt_13 rfl ?_
    obtain ⟨F1, b5, hb5, tb5, F⟩ := F
    refine wp_aald (t := 1) (pc := 14) dX9_sightAt_14 (by decide) (TX9s_a8 th) F1 hb5 ?_
    refine wp_goto (tgt := 19) (pc := 15) dX9_sightAt_15 (by decide) ?_
    exact r_R (pc := 19) dX9_sightAt_19 rfl (Or.inl ⟨_, rfl⟩) F
/-- seen(III)I -/
theorem w_X11_seen {l : Launch} {d : Nat} {kd : pm_K} {mr : pm_R} {h : Nat} {x1 : Int32} {x2 : Int32} {x3 : Int32} {mi : pm_I} {ml : pm_L} {K : Int32 → pm_I → pm_L → Prop} (th : TX11s kd mr h)
    (F : wR l M_X9_cityAt d [.ref (h + 1), .int x1] kd mr mi ml (fun r1 mi2 ml3 => ((r1 = none → wR l M_X9_sightAt d [.ref (h + 1), .int x2] kd mr mi2 ml3 (fun r5 mi6 ml7 => ((r5 = none → K (-2) mi6 ml7) ∧ (∀ b8, r5 = some b8 → TX6s kd mr b8 ∧ K (-2) mi6 ml7)))) ∧ (∀ b4, r1 = some b4 → TX0s kd mr b4 ∧ wR l M_X9_sightAt d [.ref (h + 1), .int x2] kd mr mi2 ml3 (fun r9 mi10 ml11 => ((r9 = none → K (-2) mi10 ml11) ∧ (∀ b12, r9 = some b12 → TX6s kd mr b12 ∧ wB l M_X0_holds d [.ref b4, .ref b12] kd mr mi10 ml11 (fun r13 mi14 ml15 => ((r13 = true → wV l M_X1_listen d [.ref (h + 202), .ref b4] kd mr mi14 ml15 (fun mi18 ml19 => wI l M_X1_whoPlayed d [.ref (h + 202), .ref b4, .ref b12, .int x3] kd mr mi18 ml19 (fun r20 mi21 ml22 => K r20 mi21 ml22))) ∧ (r13 = false → K (-2) mi14 ml15)))))))))) :
    wI l M_X11_seen (d + 1) [.ref h, .int x1, .int x2, .int x3] kd mr mi ml K := by
  show wp l M_X11_seen (d + 1) 0 0 0 [some (.ref h), some (.int x1), some (.int x2), some (.int x3), none, none] [] 0 0 kd mi ml mr _
  refine wp_aload_n (pc := 0) dX11_seen_0 rfl ?_
  refine wp_getR (pc := 1) dX11_seen_1 fl_X11_10 rfl (TX11s_k th) (TX11s_r0 th) ?_
  refine wp_iload_n (pc := 4) dX11_seen_4 rfl ?_
  refine cvR [.int x1] [] (pc := 5) dX11_seen_5 ml_X11_109 iv_X9_cityAt (TX9s_k (TX11s_a0 th)) (cl_X9 rfl) rfl rfl (Nat.le_of_ble_eq_true rfl) (Nat.le_of_ble_eq_true rfl) (wR.mono (fun r1 mi2 ml3 F => ?_) F)
  cases r1 with
  | none =>
      have F := F.1 rfl
      show wp l M_X11_seen (d + 1) 0 0 _ _ (.null :: _) 0 0 kd _ _ mr _
      refine wp_astoreN (pc := 8) dX11_seen_8 (Nat.le_of_ble_eq_true rfl) rfl ?_
      show wp l M_X11_seen (d + 1) 0 0 _ [some (.ref h), some (.int x1), some (.int x2), some (.int x3), some (.null), none] _ 0 0 kd _ _ mr _
      refine wp_aload_n (pc := 10) dX11_seen_10 rfl ?_
      refine wp_getR (pc := 11) dX11_seen_11 fl_X11_10 rfl (TX11s_k th) (TX11s_r0 th) ?_
      refine wp_iload_n (pc := 14) dX11_seen_14 rfl ?_
      refine cvR [.int x2] [] (pc := 15) dX11_seen_15 ml_X11_242 iv_X9_sightAt (TX9s_k (TX11s_a0 th)) (cl_X9 rfl) rfl rfl (Nat.le_of_ble_eq_true rfl) (Nat.le_of_ble_eq_true rfl) (wR.mono (fun r5 mi6 ml7 F => ?_) F)
      cases r5 with
      | none =>
          have F := F.1 rfl
          show wp l M_X11_seen (d + 1) 0 0 _ _ (.null :: _) 0 0 kd _ _ mr _
          refine wp_astoreN (pc := 18) dX11_seen_18 (Nat.le_of_ble_eq_true rfl) rfl ?_
          show wp l M_X11_seen (d + 1) 0 0 _ [some (.ref h), some (.int x1), some (.int x2), some (.int x3), some (.null), some (.null)] _ 0 0 kd _ _ mr _
          refine wp_aloadN (pc := 20) dX11_seen_20 rfl ?_
          refine wp_ifnullN (tgt := 40) (pc := 22) dX11_seen_22 (by decide) ?_
          refine wp_bipush (v := -2) (pc := 40) dX11_seen_40 (by decide) ?_
          exact r_I (pc := 42) dX11_seen_42 rfl F
      | some b8 =>
          obtain ⟨tb8, F⟩ := F.2 b8 rfl
          show wp l M_X11_seen (d + 1) 0 0 _ _ (.ref b8 :: _) 0 0 kd _ _ mr _
          refine wp_astore (pc := 18) dX11_seen_18 (Nat.le_of_ble_eq_true rfl) rfl ?_
          show wp l M_X11_seen (d + 1) 0 0 _ [some (.ref h), some (.int x1), some (.int x2), some (.int x3), some (.null), some (.ref b8)] _ 0 0 kd _ _ mr _
          refine wp_aloadN (pc := 20) dX11_seen_20 rfl ?_
          refine wp_ifnullN (tgt := 40) (pc := 22) dX11_seen_22 (by decide) ?_
          refine wp_bipush (v := -2) (pc := 40) dX11_seen_40 (by decide) ?_
          exact r_I (pc := 42) dX11_seen_42 rfl F
  | some b4 =>
      obtain ⟨tb4, F⟩ := F.2 b4 rfl
      show wp l M_X11_seen (d + 1) 0 0 _ _ (.ref b4 :: _) 0 0 kd _ _ mr _
      refine wp_astore (pc := 8) dX11_seen_8 (Nat.le_of_ble_eq_true rfl) rfl ?_
      show wp l M_X11_seen (d + 1) 0 0 _ [some (.ref h), some (.int x1), some (.int x2), some (.int x3), some (.ref b4), none] _ 0 0 kd _ _ mr _
      refine wp_aload_n (pc := 10) dX11_seen_10 rfl ?_
      refine wp_getR (pc := 11) dX11_seen_11 fl_X11_10 rfl (TX11s_k th) (TX11s_r0 th) ?_
      refine wp_iload_n (pc := 14) dX11_seen_14 rfl ?_
      refine cvR [.int x2] [] (pc := 15) dX11_seen_15 ml_X11_242 iv_X9_sightAt (TX9s_k (TX11s_a0 th)) (cl_X9 rfl) rfl rfl (Nat.le_of_ble_eq_true rfl) (Nat.le_of_ble_eq_true rfl) (wR.mono (fun r9 mi10 ml11 F => ?_) F)
      cases r9 with
      | none =>
          have F := F.1 rfl
          show wp l M_X11_seen (d + 1) 0 0 _ _ (.null :: _) 0 0 kd _ _ mr _
          refine wp_astoreN (pc := 18) dX11_seen_18 (Nat.le_of_ble_eq_true rfl) rfl ?_
          show wp l M_X11_seen (d + 1) 0 0 _ [some (.ref h), some (.int x1), some (.int x2), some (.int x3), some (.ref b4), some (.null)] _ 0 0 kd _ _ mr _
          refine wp_aload (pc := 20) dX11_seen_20 rfl ?_
          refine wp_ifnull (pc := 22) dX11_seen_22 ?_
          refine wp_aloadN (pc := 25) dX11_seen_25 rfl ?_
          refine wp_ifnullN (tgt := 40) (pc := 27) dX11_seen_27 (by decide) ?_
          refine wp_bipush (v := -2) (pc := 40) dX11_seen_40 (by decide) ?_
          exact r_I (pc := 42) dX11_seen_42 rfl F
      | some b12 =>
          obtain ⟨tb12, F⟩ := F.2 b12 rfl
          show wp l M_X11_seen (d + 1) 0 0 _ _ (.ref b12 :: _) 0 0 kd _ _ mr _
          refine wp_astore (pc := 18) dX11_seen_18 (Nat.le_of_ble_eq_true rfl) rfl ?_
          show wp l M_X11_seen (d + 1) 0 0 _ [some (.ref h), some (.int x1), some (.int x2), some (.int x3), some (.ref b4), some (.ref b12)] _ 0 0 kd _ _ mr _
          refine wp_aload (pc := 20) dX11_seen_20 rfl ?_
          refine wp_ifnull (pc := 22) dX11_seen_22 ?_
          refine wp_aload (pc := 25) dX11_seen_25 rfl ?_
          refine wp_ifnull (pc := 27) dX11_seen_27 ?_
          refine wp_aload (pc := 30) dX11_seen_30 rfl ?_
          refine wp_aload (pc := 32) dX11_seen_32 rfl ?_
          refine cvB [.ref b12] [] (pc := 34) dX11_seen_34 ml_X11_245 iv_X0_holds (TX0s_k tb4) (cl_X0 rfl) rfl rfl (Nat.le_of_ble_eq_true rfl) (Nat.le_of_ble_eq_true rfl) (wB.mono (fun r13 mi14 ml15 F => ?_) F)
          refine b_ne (tgt := 43) (pc := 37) dX11_seen_37 (by decide) (fun c16 => ?_) (fun c16 => ?_)
          · have F := F.1 c16
            refine wp_aload_n (pc := 43) dX11_seen_43 rfl ?_
            refine wp_getR (pc := 44) dX11_seen_44 fl_X11_41 rfl (TX11s_k th) (TX11s_r5 th) ?_
            refine wp_aload (pc := 47) dX11_seen_47 rfl ?_
            refine cvV [.ref b4] [] (pc := 49) dX11_seen_49 ml_X11_151 iv_X1_listen (TX1s_k (TX11s_a5 th)) (cl_X1 rfl) rfl rfl (Nat.le_of_ble_eq_true rfl) (Nat.le_of_ble_eq_true rfl) (wV.mono (fun mi18 ml19 F => ?_) F)
            refine wp_aload_n (pc := 52) dX11_seen_52 rfl ?_
            refine wp_getR (pc := 53) dX11_seen_53 fl_X11_41 rfl (TX11s_k th) (TX11s_r5 th) ?_
            refine wp_aload (pc := 56) dX11_seen_56 rfl ?_
            refine wp_aload (pc := 58) dX11_seen_58 rfl ?_
            refine wp_iload_n (pc := 60) dX11_seen_60 rfl ?_
            refine cvI [.ref b4, .ref b12, .int x3] [] (pc := 61) dX11_seen_61 ml_X11_249 iv_X1_whoPlayed (TX1s_k (TX11s_a5 th)) (cl_X1 rfl) rfl rfl (Nat.le_of_ble_eq_true rfl) (Nat.le_of_ble_eq_true rfl) (wI.mono (fun r20 mi21 ml22 F => ?_) F)
            exact r_I (pc := 64) dX11_seen_64 rfl F
          · have F := F.2 c16
            refine wp_bipush (v := -2) (pc := 40) dX11_seen_40 (by decide) ?_
            exact r_I (pc := 42) dX11_seen_42 rfl F
def c_X0_holds_8 (l : Launch) (d : Nat) (kd : pm_K) (mr : pm_R) (h : Nat) (o1 : Nat) (x2 : Int64) (x4 : Int32) (mi : pm_I) (ml : pm_L) (K : Bool → pm_I → pm_L → Prop) : Prop := wp l M_X0_holds d 0 0 8 [none, some (.ref o1), some (.long x2), none, some (.int x4)] [] 0 0 kd mi ml mr (qB kd mr K)
theorem w_X0_holds_8 {l : Launch} {d : Nat} {kd : pm_K} {mr : pm_R} {h : Nat} {o1 : Nat} {x2 : Int64} {x4 : Int32} {mi : pm_I} {ml : pm_L} {K : Bool → pm_I → pm_L → Prop} (th : TX0s kd mr h) (to1 : TX6s kd mr o1)
    (F : (((mi o1 3) ≤ x4 → K true mi ml) ∧ (¬ (mi o1 3) ≤ x4 → wI l M_X6_spotAtRow d [.ref o1, .int x4] kd mr mi ml (fun r5 mi6 ml7 => wB l M_X11_has d [.long x2, .int r5] kd mr mi6 ml7 (fun r8 mi9 ml10 => ((r8 = true → c_X0_holds_8 l (d + 1) kd mr h o1 x2 (x4 + 1) mi9 ml10 K) ∧ (r8 = false → K false mi9 ml10))))))) :
    c_X0_holds_8 l (d + 1) kd mr h o1 x2 x4 mi ml K := by
  show wp l M_X0_holds (d + 1) 0 0 8 [none, some (.ref o1), some (.long x2), none, some (.int x4)] [] 0 0 kd mi ml mr _
  refine wp_iload (pc := 8) dX0_holds_8 rfl ?_
  refine wp_aload_n (pc := 10) dX0_holds_10 rfl ?_
  refine wp_getI (pc := 11) dX0_holds_11 fl_X0_76 rfl (TX6s_k to1) ?_
  refine wp_icmp_ge (tgt := 38) (pc := 14) dX0_holds_14 (by decide) (fun c4 => ?_) (fun c4 => ?_)
  · have F := F.1 c4
    refine wp_iconst (v := 1) (pc := 38) dX0_holds_38 (by decide) ?_
    exact r_Bx (pc := 39) dX0_holds_39 rfl rfl F
  · have F := F.2 c4
    refine wp_lload_n (pc := 17) dX0_holds_17 rfl ?_
    refine wp_aload_n (pc := 18) dX0_holds_18 rfl ?_
    refine wp_iload (pc := 19) dX0_holds_19 rfl ?_
    refine cvI [.int x4] [.long x2] (pc := 21) dX0_holds_21 ml_X0_81 iv_X6_spotAtRow (TX6s_k to1) (cl_X6 rfl) rfl rfl (Nat.le_of_ble_eq_true rfl) (Nat.le_of_ble_eq_true rfl) (wI.mono (fun r5 mi6 ml7 F => ?_) F)
    refine csB [.long x2, .int r5] [] (pc := 24) dX0_holds_24 ml_X0_85 st_X11_has rfl rfl (Nat.le_of_ble_eq_true rfl) (Nat.le_of_ble_eq_true rfl) (wB.mono (fun r8 mi9 ml10 F => ?_) F)
    refine b_ne (tgt := 32) (pc := 27) dX0_holds_27 (by decide) (fun c11 => ?_) (fun c11 => ?_)
    · have F := F.1 c11
      refine wp_iinc (v := (x4 + 1)) (pc := 32) dX0_holds_32 rfl rfl rfl ?_
      show wp l M_X0_holds (d + 1) 0 0 _ [none, some (.ref o1), some (.long x2), none, some (.int (x4 + 1))] _ 0 0 kd _ _ mr _
      refine wp_goto (tgt := 8) (pc := 35) dX0_holds_35 (by decide) ?_
      exact wp_less (L' := [none, some (.ref o1), some (.long x2), none, some (.int (x4 + 1))]) ⟨rfl, ⟨rfl, ⟨rfl, trivial⟩⟩⟩ F
    · have F := F.2 c11
      refine wp_iconst (v := 0) (pc := 30) dX0_holds_30 (by decide) ?_
      exact r_Bx (pc := 31) dX0_holds_31 rfl rfl F
/-- holds(LCityChords$Rows;)Z -/
theorem w_X0_holds {l : Launch} {d : Nat} {kd : pm_K} {mr : pm_R} {h : Nat} {o1 : Nat}  {mi : pm_I} {ml : pm_L} {K : Bool → pm_I → pm_L → Prop} (th : TX0s kd mr h) (to1 : TX6s kd mr o1)
    (F : wL l M_X0_inside d [.ref h] kd mr mi ml (fun r1 mi2 ml3 => c_X0_holds_8 l (d + 1) kd mr h o1 r1 0 mi2 ml3 K)) :
    wB l M_X0_holds (d + 1) [.ref h, .ref o1] kd mr mi ml K := by
  show wp l M_X0_holds (d + 1) 0 0 0 [some (.ref h), some (.ref o1), none, none, none] [] 0 0 kd mi ml mr _
  refine wp_aload_n (pc := 0) dX0_holds_0 rfl ?_
  refine cvL [] [] (pc := 1) dX0_holds_1 ml_X0_66 iv_X0_inside (TX0s_k th) (cl_X0 rfl) rfl rfl (Nat.le_of_ble_eq_true rfl) (Nat.le_of_ble_eq_true rfl) (wL.mono (fun r1 mi2 ml3 F => ?_) F)
  refine wp_lstore_n (pc := 4) dX0_holds_4 (Nat.le_of_ble_eq_true rfl) rfl ?_
  show wp l M_X0_holds (d + 1) 0 0 _ [some (.ref h), some (.ref o1), some (.long r1), none, none] _ 0 0 kd _ _ mr _
  refine wp_iconst (v := 0) (pc := 5) dX0_holds_5 (by decide) ?_
  refine wp_istore (pc := 6) dX0_holds_6 (Nat.le_of_ble_eq_true rfl) rfl ?_
  show wp l M_X0_holds (d + 1) 0 0 _ [some (.ref h), some (.ref o1), some (.long r1), none, some (.int 0)] _ 0 0 kd _ _ mr _
  exact wp_less (L' := [none, some (.ref o1), some (.long r1), none, some (.int 0)]) ⟨rfl, ⟨rfl, ⟨rfl, trivial⟩⟩⟩ F
/-- spotAtRow(I)I -/
theorem w_X6_spotAtRow {l : Launch} {d : Nat} {kd : pm_K} {mr : pm_R} {h : Nat} {x1 : Int32} {mi : pm_I} {ml : pm_L} {K : Int32 → pm_I → pm_L → Prop} (th : TX6s kd mr h)
    (F : vp_in x1 40 ∧ vp_in x1 40 ∧ wI l M_X11_spotAt d [.int (mi (h + 2) (Int32.toNatClampNeg x1)), .int (mi (h + 3) (Int32.toNatClampNeg x1))] kd mr mi ml (fun r1 mi2 ml3 => K r1 mi2 ml3)) :
    wI l M_X6_spotAtRow (d + 1) [.ref h, .int x1] kd mr mi ml K := by
  show wp l M_X6_spotAtRow (d + 1) 0 0 0 [some (.ref h), some (.int x1)] [] 0 0 kd mi ml mr _
  refine wp_aload_n (pc := 0) dX6_spotAtRow_0 rfl ?_
  refine wp_getR (pc := 1) dX6_spotAtRow_1 fl_X6_15 rfl (TX6s_k th) (TX6s_r1 th) ?_
  refine wp_iload_n (pc := 4) dX6_spotAtRow_4 rfl ?_
  refine wp_iald (pc := 5) dX6_spotAtRow_5 (TX6s_a1 th) F.1 ?_
  have F := F.2
  refine wp_aload_n (pc := 6) dX6_spotAtRow_6 rfl ?_
  refine wp_getR (pc := 7) dX6_spotAtRow_7 fl_X6_18 rfl (TX6s_k th) (TX6s_r2 th) ?_
  refine wp_iload_n (pc := 10) dX6_spotAtRow_10 rfl ?_
  refine wp_iald (pc := 11) dX6_spotAtRow_11 (TX6s_a2 th) F.1 ?_
  have F := F.2
  refine csI [.int (mi (h + 2) (Int32.toNatClampNeg x1)), .int (mi (h + 3) (Int32.toNatClampNeg x1))] [] (pc := 12) dX6_spotAtRow_12 ml_X6_31 st_X11_spotAt rfl rfl (Nat.le_of_ble_eq_true rfl) (Nat.le_of_ble_eq_true rfl) (wI.mono (fun r1 mi2 ml3 F => ?_) F)
  exact r_I (pc := 15) dX6_spotAtRow_15 rfl F
def c_X11_drawn_43 (l : Launch) (d : Nat) (kd : pm_K) (mr : pm_R) (h : Nat) (x3 : Int32) (x4 : Int32) (a5 : Nat) (x6 : Int32) (x7 : Int32) (mi : pm_I) (ml : pm_L) (K : Int32 → pm_I → pm_L → Prop) : Prop := wp l M_X11_drawn d 0 0 43 [some (.ref h), none, none, some (.int x3), some (.int x4), some (.ref a5), some (.int x6), some (.int x7)] [] 0 0 kd mi ml mr (qI kd mr K)
theorem w_X11_drawn_43 {l : Launch} {d : Nat} {kd : pm_K} {mr : pm_R} {h : Nat} {x3 : Int32} {x4 : Int32} {a5 : Nat} {x6 : Int32} {x7 : Int32} {mi : pm_I} {ml : pm_L} {K : Int32 → pm_I → pm_L → Prop} (th : TX11s kd mr h) (ta5 : TX0s kd mr a5)
    (F : ((x3 ≤ x7 → wI l M_X3_tell d [.ref (h + 208), .ref a5, .int x4] kd mr mi ml (fun r11 mi12 ml13 => K r11 mi12 ml13)) ∧ (¬ x3 ≤ x7 → wI l M_X3_playOneDrawn d [.ref (h + 208), .ref a5, .int x6] kd mr mi ml (fun r14 mi15 ml16 => c_X11_drawn_43 l (d + 1) kd mr h x3 x4 a5 r14 (x7 + 1) mi15 ml16 K)))) :
    c_X11_drawn_43 l (d + 1) kd mr h x3 x4 a5 x6 x7 mi ml K := by
  show wp l M_X11_drawn (d + 1) 0 0 43 [some (.ref h), none, none, some (.int x3), some (.int x4), some (.ref a5), some (.int x6), some (.int x7)] [] 0 0 kd mi ml mr _
  refine wp_iload (pc := 43) dX11_drawn_43 rfl ?_
  refine wp_iload_n (pc := 45) dX11_drawn_45 rfl ?_
  refine wp_icmp_ge (tgt := 68) (pc := 46) dX11_drawn_46 (by decide) (fun c10 => ?_) (fun c10 => ?_)
  · have F := F.1 c10
    refine wp_aload_n (pc := 68) dX11_drawn_68 rfl ?_
    refine wp_getR (pc := 69) dX11_drawn_69 fl_X11_48 rfl (TX11s_k th) (TX11s_r6 th) ?_
    refine wp_aload (pc := 72) dX11_drawn_72 rfl ?_
    refine wp_iload (pc := 74) dX11_drawn_74 rfl ?_
    refine cvI [.ref a5, .int x4] [] (pc := 76) dX11_drawn_76 ml_X11_134 iv_X3_tell (TX3s_k (TX11s_a6 th)) (cl_X3 rfl) rfl rfl (Nat.le_of_ble_eq_true rfl) (Nat.le_of_ble_eq_true rfl) (wI.mono (fun r11 mi12 ml13 F => ?_) F)
    exact r_I (pc := 79) dX11_drawn_79 rfl F
  · have F := F.2 c10
    refine wp_aload_n (pc := 49) dX11_drawn_49 rfl ?_
    refine wp_getR (pc := 50) dX11_drawn_50 fl_X11_48 rfl (TX11s_k th) (TX11s_r6 th) ?_
    refine wp_aload (pc := 53) dX11_drawn_53 rfl ?_
    refine wp_iload (pc := 55) dX11_drawn_55 rfl ?_
    refine cvI [.ref a5, .int x6] [] (pc := 57) dX11_drawn_57 ml_X11_255 iv_X3_playOneDrawn (TX3s_k (TX11s_a6 th)) (cl_X3 rfl) rfl rfl (Nat.le_of_ble_eq_true rfl) (Nat.le_of_ble_eq_true rfl) (wI.mono (fun r14 mi15 ml16 F => ?_) F)
    refine wp_istore (pc := 60) dX11_drawn_60 (Nat.le_of_ble_eq_true rfl) rfl ?_
    show wp l M_X11_drawn (d + 1) 0 0 _ [some (.ref h), none, none, some (.int x3), some (.int x4), some (.ref a5), some (.int r14), some (.int x7)] _ 0 0 kd _ _ mr _
    refine wp_iinc (v := (x7 + 1)) (pc := 62) dX11_drawn_62 rfl rfl rfl ?_
    show wp l M_X11_drawn (d + 1) 0 0 _ [some (.ref h), none, none, some (.int x3), some (.int x4), some (.ref a5), some (.int r14), some (.int (x7 + 1))] _ 0 0 kd _ _ mr _
    refine wp_goto (tgt := 43) (pc := 65) dX11_drawn_65 (by decide) ?_
    exact wp_less (L' := [some (.ref h), none, none, some (.int x3), some (.int x4), some (.ref a5), some (.int r14), some (.int (x7 + 1))]) ⟨rfl, ⟨rfl, ⟨rfl, ⟨rfl, ⟨rfl, ⟨rfl, trivial⟩⟩⟩⟩⟩⟩ F
/-- drawn(IIII)I -/
theorem w_X11_drawn {l : Launch} {d : Nat} {kd : pm_K} {mr : pm_R} {h : Nat} {x1 : Int32} {x2 : Int32} {x3 : Int32} {x4 : Int32} {mi : pm_I} {ml : pm_L} {K : Int32 → pm_I → pm_L → Prop} (th : TX11s kd mr h)
    (F : wR l M_X9_cityAt d [.ref (h + 1), .int x1] kd mr mi ml (fun r1 mi2 ml3 => ((r1 = none → K (-2) mi2 ml3) ∧ (∀ b4, r1 = some b4 → TX0s kd mr b4 ∧ ((x3 < 0 → K (-2) mi2 ml3) ∧ (¬ x3 < 0 → ((x3 ≤ 60 → wV l M_X3_begin d [.ref (h + 208), .ref b4] kd mr mi2 ml3 (fun mi8 ml9 => c_X11_drawn_43 l (d + 1) kd mr h x3 x4 b4 x2 0 mi8 ml9 K)) ∧ (¬ x3 ≤ 60 → K (-2) mi2 ml3)))))))) :
    wI l M_X11_drawn (d + 1) [.ref h, .int x1, .int x2, .int x3, .int x4] kd mr mi ml K := by
  show wp l M_X11_drawn (d + 1) 0 0 0 [some (.ref h), some (.int x1), some (.int x2), some (.int x3), some (.int x4), none, none, none] [] 0 0 kd mi ml mr _
  refine wp_aload_n (pc := 0) dX11_drawn_0 rfl ?_
  refine wp_getR (pc := 1) dX11_drawn_1 fl_X11_10 rfl (TX11s_k th) (TX11s_r0 th) ?_
  refine wp_iload_n (pc := 4) dX11_drawn_4 rfl ?_
  refine cvR [.int x1] [] (pc := 5) dX11_drawn_5 ml_X11_109 iv_X9_cityAt (TX9s_k (TX11s_a0 th)) (cl_X9 rfl) rfl rfl (Nat.le_of_ble_eq_true rfl) (Nat.le_of_ble_eq_true rfl) (wR.mono (fun r1 mi2 ml3 F => ?_) F)
  cases r1 with
  | none =>
      have F := F.1 rfl
      show wp l M_X11_drawn (d + 1) 0 0 _ _ (.null :: _) 0 0 kd _ _ mr _
      refine wp_astoreN (pc := 8) dX11_drawn_8 (Nat.le_of_ble_eq_true rfl) rfl ?_
      show wp l M_X11_drawn (d + 1) 0 0 _ [some (.ref h), some (.int x1), some (.int x2), some (.int x3), some (.int x4), some (.null), none, none] _ 0 0 kd _ _ mr _
      refine wp_aloadN (pc := 10) dX11_drawn_10 rfl ?_
      refine wp_ifnullN (tgt := 25) (pc := 12) dX11_drawn_12 (by decide) ?_
      refine wp_bipush (v := -2) (pc := 25) dX11_drawn_25 (by decide) ?_
      exact r_I (pc := 27) dX11_drawn_27 rfl F
  | some b4 =>
      obtain ⟨tb4, F⟩ := F.2 b4 rfl
      show wp l M_X11_drawn (d + 1) 0 0 _ _ (.ref b4 :: _) 0 0 kd _ _ mr _
      refine wp_astore (pc := 8) dX11_drawn_8 (Nat.le_of_ble_eq_true rfl) rfl ?_
      show wp l M_X11_drawn (d + 1) 0 0 _ [some (.ref h), some (.int x1), some (.int x2), some (.int x3), some (.int x4), some (.ref b4), none, none] _ 0 0 kd _ _ mr _
      refine wp_aload (pc := 10) dX11_drawn_10 rfl ?_
      refine wp_ifnull (pc := 12) dX11_drawn_12 ?_
      refine wp_iload_n (pc := 15) dX11_drawn_15 rfl ?_
      refine wp_if_lt (tgt := 25) (pc := 16) dX11_drawn_16 (by decide) (fun c5 => ?_) (fun c5 => ?_)
      · have F := F.1 c5
        refine wp_bipush (v := -2) (pc := 25) dX11_drawn_25 (by decide) ?_
        exact r_I (pc := 27) dX11_drawn_27 rfl F
      · have F := F.2 c5
        refine wp_iload_n (pc := 19) dX11_drawn_19 rfl ?_
        refine wp_bipush (v := 60) (pc := 20) dX11_drawn_20 (by decide) ?_
        refine wp_icmp_le (tgt := 28) (pc := 22) dX11_drawn_22 (by decide) (fun c6 => ?_) (fun c6 => ?_)
        · have F := F.1 c6
          refine wp_aload_n (pc := 28) dX11_drawn_28 rfl ?_
          refine wp_getR (pc := 29) dX11_drawn_29 fl_X11_48 rfl (TX11s_k th) (TX11s_r6 th) ?_
          refine wp_aload (pc := 32) dX11_drawn_32 rfl ?_
          refine cvV [.ref b4] [] (pc := 34) dX11_drawn_34 ml_X11_252 iv_X3_begin (TX3s_k (TX11s_a6 th)) (cl_X3 rfl) rfl rfl (Nat.le_of_ble_eq_true rfl) (Nat.le_of_ble_eq_true rfl) (wV.mono (fun mi8 ml9 F => ?_) F)
          refine wp_iload_n (pc := 37) dX11_drawn_37 rfl ?_
          refine wp_istore (pc := 38) dX11_drawn_38 (Nat.le_of_ble_eq_true rfl) rfl ?_
          show wp l M_X11_drawn (d + 1) 0 0 _ [some (.ref h), some (.int x1), some (.int x2), some (.int x3), some (.int x4), some (.ref b4), some (.int x2), none] _ 0 0 kd _ _ mr _
          refine wp_iconst (v := 0) (pc := 40) dX11_drawn_40 (by decide) ?_
          refine wp_istore (pc := 41) dX11_drawn_41 (Nat.le_of_ble_eq_true rfl) rfl ?_
          show wp l M_X11_drawn (d + 1) 0 0 _ [some (.ref h), some (.int x1), some (.int x2), some (.int x3), some (.int x4), some (.ref b4), some (.int x2), some (.int 0)] _ 0 0 kd _ _ mr _
          exact wp_less (L' := [some (.ref h), none, none, some (.int x3), some (.int x4), some (.ref b4), some (.int x2), some (.int 0)]) ⟨rfl, ⟨rfl, ⟨rfl, ⟨rfl, ⟨rfl, ⟨rfl, trivial⟩⟩⟩⟩⟩⟩ F
        · have F := F.2 c6
          refine wp_bipush (v := -2) (pc := 25) dX11_drawn_25 (by decide) ?_
          exact r_I (pc := 27) dX11_drawn_27 rfl F
/-- steps(III)I -/
theorem w_X11_steps {l : Launch} {d : Nat} {kd : pm_K} {mr : pm_R} {h : Nat} {x1 : Int32} {x2 : Int32} {x3 : Int32} {mi : pm_I} {ml : pm_L} {K : Int32 → pm_I → pm_L → Prop} (th : TX11s kd mr h)
    (F : wR l M_X9_cityAt d [.ref (h + 1), .int x1] kd mr mi ml (fun r1 mi2 ml3 => ((r1 = none → K (-1) mi2 ml3) ∧ (∀ b4, r1 = some b4 → TX0s kd mr b4 ∧ wL l M_X0_open d [.ref b4] kd mr mi2 ml3 (fun r5 mi6 ml7 => wI l M_X0_spotOf d [.ref b4, .int x2] kd mr mi6 ml7 (fun r8 mi9 ml10 => wI l M_X0_spotOf d [.ref b4, .int x3] kd mr mi9 ml10 (fun r11 mi12 ml13 => wI l M_X8_fewestSteps d [.ref (h + 215), .long r5, .int r8, .int r11] kd mr mi12 ml13 (fun r14 mi15 ml16 => K r14 mi15 ml16)))))))) :
    wI l M_X11_steps (d + 1) [.ref h, .int x1, .int x2, .int x3] kd mr mi ml K := by
  show wp l M_X11_steps (d + 1) 0 0 0 [some (.ref h), some (.int x1), some (.int x2), some (.int x3), none] [] 0 0 kd mi ml mr _
  refine wp_aload_n (pc := 0) dX11_steps_0 rfl ?_
  refine wp_getR (pc := 1) dX11_steps_1 fl_X11_10 rfl (TX11s_k th) (TX11s_r0 th) ?_
  refine wp_iload_n (pc := 4) dX11_steps_4 rfl ?_
  refine cvR [.int x1] [] (pc := 5) dX11_steps_5 ml_X11_109 iv_X9_cityAt (TX9s_k (TX11s_a0 th)) (cl_X9 rfl) rfl rfl (Nat.le_of_ble_eq_true rfl) (Nat.le_of_ble_eq_true rfl) (wR.mono (fun r1 mi2 ml3 F => ?_) F)
  cases r1 with
  | none =>
      have F := F.1 rfl
      show wp l M_X11_steps (d + 1) 0 0 _ _ (.null :: _) 0 0 kd _ _ mr _
      refine wp_astoreN (pc := 8) dX11_steps_8 (Nat.le_of_ble_eq_true rfl) rfl ?_
      show wp l M_X11_steps (d + 1) 0 0 _ [some (.ref h), some (.int x1), some (.int x2), some (.int x3), some (.null)] _ 0 0 kd _ _ mr _
      refine wp_aloadN (pc := 10) dX11_steps_10 rfl ?_
      refine wp_ifnonnullN (pc := 12) dX11_steps_12 ?_
      refine wp_iconst (v := -1) (pc := 15) dX11_steps_15 (by decide) ?_
      exact r_I (pc := 16) dX11_steps_16 rfl F
  | some b4 =>
      obtain ⟨tb4, F⟩ := F.2 b4 rfl
      show wp l M_X11_steps (d + 1) 0 0 _ _ (.ref b4 :: _) 0 0 kd _ _ mr _
      refine wp_astore (pc := 8) dX11_steps_8 (Nat.le_of_ble_eq_true rfl) rfl ?_
      show wp l M_X11_steps (d + 1) 0 0 _ [some (.ref h), some (.int x1), some (.int x2), some (.int x3), some (.ref b4)] _ 0 0 kd _ _ mr _
      refine wp_aload (pc := 10) dX11_steps_10 rfl ?_
      refine wp_ifnonnull (tgt := 17) (pc := 12) dX11_steps_12 (by decide) ?_
      refine wp_aload_n (pc := 17) dX11_steps_17 rfl ?_
      refine wp_getR (pc := 18) dX11_steps_18 fl_X11_55 rfl (TX11s_k th) (TX11s_r7 th) ?_
      refine wp_aload (pc := 21) dX11_steps_21 rfl ?_
      refine cvL [] [.ref (h + 215)] (pc := 23) dX11_steps_23 ml_X11_162 iv_X0_open (TX0s_k tb4) (cl_X0 rfl) rfl rfl (Nat.le_of_ble_eq_true rfl) (Nat.le_of_ble_eq_true rfl) (wL.mono (fun r5 mi6 ml7 F => ?_) F)
      refine wp_aload (pc := 26) dX11_steps_26 rfl ?_
      refine wp_iload_n (pc := 28) dX11_steps_28 rfl ?_
      refine cvI [.int x2] [.long r5, .ref (h + 215)] (pc := 29) dX11_steps_29 ml_X11_141 iv_X0_spotOf (TX0s_k tb4) (cl_X0 rfl) rfl rfl (Nat.le_of_ble_eq_true rfl) (Nat.le_of_ble_eq_true rfl) (wI.mono (fun r8 mi9 ml10 F => ?_) F)
      refine wp_aload (pc := 32) dX11_steps_32 rfl ?_
      refine wp_iload_n (pc := 34) dX11_steps_34 rfl ?_
      refine cvI [.int x3] [.int r8, .long r5, .ref (h + 215)] (pc := 35) dX11_steps_35 ml_X11_141 iv_X0_spotOf (TX0s_k tb4) (cl_X0 rfl) rfl rfl (Nat.le_of_ble_eq_true rfl) (Nat.le_of_ble_eq_true rfl) (wI.mono (fun r11 mi12 ml13 F => ?_) F)
      refine cvI [.long r5, .int r8, .int r11] [] (pc := 38) dX11_steps_38 ml_X11_258 iv_X8_fewestSteps (TX8s_k (TX11s_a7 th)) (cl_X8 rfl) rfl rfl (Nat.le_of_ble_eq_true rfl) (Nat.le_of_ble_eq_true rfl) (wI.mono (fun r14 mi15 ml16 F => ?_) F)
      exact r_I (pc := 41) dX11_steps_41 rfl F
/-- blocks(IZ)I -/
theorem w_X11_blocks {l : Launch} {d : Nat} {kd : pm_K} {mr : pm_R} {h : Nat} {x1 : Int32} {x2 : Bool} {mi : pm_I} {ml : pm_L} {K : Int32 → pm_I → pm_L → Prop} (th : TX11s kd mr h)
    (F : wR l M_X9_cityAt d [.ref (h + 1), .int x1] kd mr mi ml (fun r1 mi2 ml3 => ((r1 = none → K (-1) mi2 ml3) ∧ (∀ b4, r1 = some b4 → TX0s kd mr b4 ∧ wL l M_X0_open d [.ref b4] kd mr mi2 ml3 (fun r5 mi6 ml7 => wI l M_X8_parts d [.ref (h + 215), .long r5, .int (b2i x2)] kd mr mi6 ml7 (fun r8 mi9 ml10 => K r8 mi9 ml10)))))) :
    wI l M_X11_blocks (d + 1) [.ref h, .int x1, .int (b2i x2)] kd mr mi ml K := by
  show wp l M_X11_blocks (d + 1) 0 0 0 [some (.ref h), some (.int x1), some (.int (b2i x2)), none] [] 0 0 kd mi ml mr _
  refine wp_aload_n (pc := 0) dX11_blocks_0 rfl ?_
  refine wp_getR (pc := 1) dX11_blocks_1 fl_X11_10 rfl (TX11s_k th) (TX11s_r0 th) ?_
  refine wp_iload_n (pc := 4) dX11_blocks_4 rfl ?_
  refine cvR [.int x1] [] (pc := 5) dX11_blocks_5 ml_X11_109 iv_X9_cityAt (TX9s_k (TX11s_a0 th)) (cl_X9 rfl) rfl rfl (Nat.le_of_ble_eq_true rfl) (Nat.le_of_ble_eq_true rfl) (wR.mono (fun r1 mi2 ml3 F => ?_) F)
  cases r1 with
  | none =>
      have F := F.1 rfl
      show wp l M_X11_blocks (d + 1) 0 0 _ _ (.null :: _) 0 0 kd _ _ mr _
      refine wp_astore_nN (pc := 8) dX11_blocks_8 (Nat.le_of_ble_eq_true rfl) rfl ?_
      show wp l M_X11_blocks (d + 1) 0 0 _ [some (.ref h), some (.int x1), some (.int (b2i x2)), some (.null)] _ 0 0 kd _ _ mr _
      refine wp_aload_nN (pc := 9) dX11_blocks_9 rfl ?_
      refine wp_ifnonnullN (pc := 10) dX11_blocks_10 ?_
      refine wp_iconst (v := -1) (pc := 13) dX11_blocks_13 (by decide) ?_
      refine wp_goto (tgt := 29) (pc := 14) dX11_blocks_14 (by decide) ?_
      exact r_I (pc := 29) dX11_blocks_29 rfl F
  | some b4 =>
      obtain ⟨tb4, F⟩ := F.2 b4 rfl
      show wp l M_X11_blocks (d + 1) 0 0 _ _ (.ref b4 :: _) 0 0 kd _ _ mr _
      refine wp_astore_n (pc := 8) dX11_blocks_8 (Nat.le_of_ble_eq_true rfl) rfl ?_
      show wp l M_X11_blocks (d + 1) 0 0 _ [some (.ref h), some (.int x1), some (.int (b2i x2)), some (.ref b4)] _ 0 0 kd _ _ mr _
      refine wp_aload_n (pc := 9) dX11_blocks_9 rfl ?_
      refine wp_ifnonnull (tgt := 17) (pc := 10) dX11_blocks_10 (by decide) ?_
      refine wp_aload_n (pc := 17) dX11_blocks_17 rfl ?_
      refine wp_getR (pc := 18) dX11_blocks_18 fl_X11_55 rfl (TX11s_k th) (TX11s_r7 th) ?_
      refine wp_aload_n (pc := 21) dX11_blocks_21 rfl ?_
      refine cvL [] [.ref (h + 215)] (pc := 22) dX11_blocks_22 ml_X11_162 iv_X0_open (TX0s_k tb4) (cl_X0 rfl) rfl rfl (Nat.le_of_ble_eq_true rfl) (Nat.le_of_ble_eq_true rfl) (wL.mono (fun r5 mi6 ml7 F => ?_) F)
      refine wp_iload_n (pc := 25) dX11_blocks_25 rfl ?_
      refine cvI [.long r5, .int (b2i x2)] [] (pc := 26) dX11_blocks_26 ml_X11_261 iv_X8_parts (TX8s_k (TX11s_a7 th)) (cl_X8 rfl) rfl rfl (Nat.le_of_ble_eq_true rfl) (Nat.le_of_ble_eq_true rfl) (wI.mono (fun r8 mi9 ml10 F => ?_) F)
      exact r_I (pc := 29) dX11_blocks_29 rfl F
/-- cordon(III)I -/
theorem w_X11_cordon {l : Launch} {d : Nat} {kd : pm_K} {mr : pm_R} {h : Nat} {x1 : Int32} {x2 : Int32} {x3 : Int32} {mi : pm_I} {ml : pm_L} {K : Int32 → pm_I → pm_L → Prop} (th : TX11s kd mr h)
    (F : wR l M_X9_cityAt d [.ref (h + 1), .int x1] kd mr mi ml (fun r1 mi2 ml3 => ((r1 = none → K (-1) mi2 ml3) ∧ (∀ b4, r1 = some b4 → TX0s kd mr b4 ∧ wL l M_X0_open d [.ref b4] kd mr mi2 ml3 (fun r5 mi6 ml7 => wI l M_X0_spotOf d [.ref b4, .int x2] kd mr mi6 ml7 (fun r8 mi9 ml10 => wI l M_X0_spotOf d [.ref b4, .int x3] kd mr mi9 ml10 (fun r11 mi12 ml13 => wI l M_X8_fewestWalls d [.ref (h + 215), .long r5, .int r8, .int r11] kd mr mi12 ml13 (fun r14 mi15 ml16 => K r14 mi15 ml16)))))))) :
    wI l M_X11_cordon (d + 1) [.ref h, .int x1, .int x2, .int x3] kd mr mi ml K := by
  show wp l M_X11_cordon (d + 1) 0 0 0 [some (.ref h), some (.int x1), some (.int x2), some (.int x3), none] [] 0 0 kd mi ml mr _
  refine wp_aload_n (pc := 0) dX11_cordon_0 rfl ?_
  refine wp_getR (pc := 1) dX11_cordon_1 fl_X11_10 rfl (TX11s_k th) (TX11s_r0 th) ?_
  refine wp_iload_n (pc := 4) dX11_cordon_4 rfl ?_
  refine cvR [.int x1] [] (pc := 5) dX11_cordon_5 ml_X11_109 iv_X9_cityAt (TX9s_k (TX11s_a0 th)) (cl_X9 rfl) rfl rfl (Nat.le_of_ble_eq_true rfl) (Nat.le_of_ble_eq_true rfl) (wR.mono (fun r1 mi2 ml3 F => ?_) F)
  cases r1 with
  | none =>
      have F := F.1 rfl
      show wp l M_X11_cordon (d + 1) 0 0 _ _ (.null :: _) 0 0 kd _ _ mr _
      refine wp_astoreN (pc := 8) dX11_cordon_8 (Nat.le_of_ble_eq_true rfl) rfl ?_
      show wp l M_X11_cordon (d + 1) 0 0 _ [some (.ref h), some (.int x1), some (.int x2), some (.int x3), some (.null)] _ 0 0 kd _ _ mr _
      refine wp_aloadN (pc := 10) dX11_cordon_10 rfl ?_
      refine wp_ifnonnullN (pc := 12) dX11_cordon_12 ?_
      refine wp_iconst (v := -1) (pc := 15) dX11_cordon_15 (by decide) ?_
      exact r_I (pc := 16) dX11_cordon_16 rfl F
  | some b4 =>
      obtain ⟨tb4, F⟩ := F.2 b4 rfl
      show wp l M_X11_cordon (d + 1) 0 0 _ _ (.ref b4 :: _) 0 0 kd _ _ mr _
      refine wp_astore (pc := 8) dX11_cordon_8 (Nat.le_of_ble_eq_true rfl) rfl ?_
      show wp l M_X11_cordon (d + 1) 0 0 _ [some (.ref h), some (.int x1), some (.int x2), some (.int x3), some (.ref b4)] _ 0 0 kd _ _ mr _
      refine wp_aload (pc := 10) dX11_cordon_10 rfl ?_
      refine wp_ifnonnull (tgt := 17) (pc := 12) dX11_cordon_12 (by decide) ?_
      refine wp_aload_n (pc := 17) dX11_cordon_17 rfl ?_
      refine wp_getR (pc := 18) dX11_cordon_18 fl_X11_55 rfl (TX11s_k th) (TX11s_r7 th) ?_
      refine wp_aload (pc := 21) dX11_cordon_21 rfl ?_
      refine cvL [] [.ref (h + 215)] (pc := 23) dX11_cordon_23 ml_X11_162 iv_X0_open (TX0s_k tb4) (cl_X0 rfl) rfl rfl (Nat.le_of_ble_eq_true rfl) (Nat.le_of_ble_eq_true rfl) (wL.mono (fun r5 mi6 ml7 F => ?_) F)
      refine wp_aload (pc := 26) dX11_cordon_26 rfl ?_
      refine wp_iload_n (pc := 28) dX11_cordon_28 rfl ?_
      refine cvI [.int x2] [.long r5, .ref (h + 215)] (pc := 29) dX11_cordon_29 ml_X11_141 iv_X0_spotOf (TX0s_k tb4) (cl_X0 rfl) rfl rfl (Nat.le_of_ble_eq_true rfl) (Nat.le_of_ble_eq_true rfl) (wI.mono (fun r8 mi9 ml10 F => ?_) F)
      refine wp_aload (pc := 32) dX11_cordon_32 rfl ?_
      refine wp_iload_n (pc := 34) dX11_cordon_34 rfl ?_
      refine cvI [.int x3] [.int r8, .long r5, .ref (h + 215)] (pc := 35) dX11_cordon_35 ml_X11_141 iv_X0_spotOf (TX0s_k tb4) (cl_X0 rfl) rfl rfl (Nat.le_of_ble_eq_true rfl) (Nat.le_of_ble_eq_true rfl) (wI.mono (fun r11 mi12 ml13 F => ?_) F)
      refine cvI [.long r5, .int r8, .int r11] [] (pc := 38) dX11_cordon_38 ml_X11_265 iv_X8_fewestWalls (TX8s_k (TX11s_a7 th)) (cl_X8 rfl) rfl rfl (Nat.le_of_ble_eq_true rfl) (Nat.le_of_ble_eq_true rfl) (wI.mono (fun r14 mi15 ml16 F => ?_) F)
      exact r_I (pc := 41) dX11_cordon_41 rfl F
/-- square(IZ)I -/
theorem w_X11_square {l : Launch} {d : Nat} {kd : pm_K} {mr : pm_R} {h : Nat} {x1 : Int32} {x2 : Bool} {mi : pm_I} {ml : pm_L} {K : Int32 → pm_I → pm_L → Prop} (th : TX11s kd mr h)
    (F : wR l M_X9_cityAt d [.ref (h + 1), .int x1] kd mr mi ml (fun r1 mi2 ml3 => ((r1 = none → K (-1) mi2 ml3) ∧ (∀ b4, r1 = some b4 → TX0s kd mr b4 ∧ wV l M_X1_listen d [.ref (h + 202), .ref b4] kd mr mi2 ml3 (fun mi6 ml7 => wI l M_X1_loudest d [.ref (h + 202), .ref b4, .int (b2i x2)] kd mr mi6 ml7 (fun r8 mi9 ml10 => K r8 mi9 ml10)))))) :
    wI l M_X11_square (d + 1) [.ref h, .int x1, .int (b2i x2)] kd mr mi ml K := by
  show wp l M_X11_square (d + 1) 0 0 0 [some (.ref h), some (.int x1), some (.int (b2i x2)), none] [] 0 0 kd mi ml mr _
  refine wp_aload_n (pc := 0) dX11_square_0 rfl ?_
  refine wp_getR (pc := 1) dX11_square_1 fl_X11_10 rfl (TX11s_k th) (TX11s_r0 th) ?_
  refine wp_iload_n (pc := 4) dX11_square_4 rfl ?_
  refine cvR [.int x1] [] (pc := 5) dX11_square_5 ml_X11_109 iv_X9_cityAt (TX9s_k (TX11s_a0 th)) (cl_X9 rfl) rfl rfl (Nat.le_of_ble_eq_true rfl) (Nat.le_of_ble_eq_true rfl) (wR.mono (fun r1 mi2 ml3 F => ?_) F)
  cases r1 with
  | none =>
      have F := F.1 rfl
      show wp l M_X11_square (d + 1) 0 0 _ _ (.null :: _) 0 0 kd _ _ mr _
      refine wp_astore_nN (pc := 8) dX11_square_8 (Nat.le_of_ble_eq_true rfl) rfl ?_
      show wp l M_X11_square (d + 1) 0 0 _ [some (.ref h), some (.int x1), some (.int (b2i x2)), some (.null)] _ 0 0 kd _ _ mr _
      refine wp_aload_nN (pc := 9) dX11_square_9 rfl ?_
      refine wp_ifnonnullN (pc := 10) dX11_square_10 ?_
      refine wp_iconst (v := -1) (pc := 13) dX11_square_13 (by decide) ?_
      exact r_I (pc := 14) dX11_square_14 rfl F
  | some b4 =>
      obtain ⟨tb4, F⟩ := F.2 b4 rfl
      show wp l M_X11_square (d + 1) 0 0 _ _ (.ref b4 :: _) 0 0 kd _ _ mr _
      refine wp_astore_n (pc := 8) dX11_square_8 (Nat.le_of_ble_eq_true rfl) rfl ?_
      show wp l M_X11_square (d + 1) 0 0 _ [some (.ref h), some (.int x1), some (.int (b2i x2)), some (.ref b4)] _ 0 0 kd _ _ mr _
      refine wp_aload_n (pc := 9) dX11_square_9 rfl ?_
      refine wp_ifnonnull (tgt := 15) (pc := 10) dX11_square_10 (by decide) ?_
      refine wp_aload_n (pc := 15) dX11_square_15 rfl ?_
      refine wp_getR (pc := 16) dX11_square_16 fl_X11_41 rfl (TX11s_k th) (TX11s_r5 th) ?_
      refine wp_aload_n (pc := 19) dX11_square_19 rfl ?_
      refine cvV [.ref b4] [] (pc := 20) dX11_square_20 ml_X11_151 iv_X1_listen (TX1s_k (TX11s_a5 th)) (cl_X1 rfl) rfl rfl (Nat.le_of_ble_eq_true rfl) (Nat.le_of_ble_eq_true rfl) (wV.mono (fun mi6 ml7 F => ?_) F)
      refine wp_aload_n (pc := 23) dX11_square_23 rfl ?_
      refine wp_getR (pc := 24) dX11_square_24 fl_X11_41 rfl (TX11s_k th) (TX11s_r5 th) ?_
      refine wp_aload_n (pc := 27) dX11_square_27 rfl ?_
      refine wp_iload_n (pc := 28) dX11_square_28 rfl ?_
      refine cvI [.ref b4, .int (b2i x2)] [] (pc := 29) dX11_square_29 ml_X11_268 iv_X1_loudest (TX1s_k (TX11s_a5 th)) (cl_X1 rfl) rfl rfl (Nat.le_of_ble_eq_true rfl) (Nat.le_of_ble_eq_true rfl) (wI.mono (fun r8 mi9 ml10 F => ?_) F)
      exact r_I (pc := 32) dX11_square_32 rfl F
/-- silent(I)I -/
theorem w_X11_silent {l : Launch} {d : Nat} {kd : pm_K} {mr : pm_R} {h : Nat} {x1 : Int32} {mi : pm_I} {ml : pm_L} {K : Int32 → pm_I → pm_L → Prop} (th : TX11s kd mr h)
    (F : wR l M_X9_cityAt d [.ref (h + 1), .int x1] kd mr mi ml (fun r1 mi2 ml3 => ((r1 = none → K (-1) mi2 ml3) ∧ (∀ b4, r1 = some b4 → TX0s kd mr b4 ∧ wV l M_X1_listen d [.ref (h + 202), .ref b4] kd mr mi2 ml3 (fun mi6 ml7 => wI l M_X1_whoHearsNothing d [.ref (h + 202), .ref b4] kd mr mi6 ml7 (fun r8 mi9 ml10 => K r8 mi9 ml10)))))) :
    wI l M_X11_silent (d + 1) [.ref h, .int x1] kd mr mi ml K := by
  show wp l M_X11_silent (d + 1) 0 0 0 [some (.ref h), some (.int x1), none] [] 0 0 kd mi ml mr _
  refine wp_aload_n (pc := 0) dX11_silent_0 rfl ?_
  refine wp_getR (pc := 1) dX11_silent_1 fl_X11_10 rfl (TX11s_k th) (TX11s_r0 th) ?_
  refine wp_iload_n (pc := 4) dX11_silent_4 rfl ?_
  refine cvR [.int x1] [] (pc := 5) dX11_silent_5 ml_X11_109 iv_X9_cityAt (TX9s_k (TX11s_a0 th)) (cl_X9 rfl) rfl rfl (Nat.le_of_ble_eq_true rfl) (Nat.le_of_ble_eq_true rfl) (wR.mono (fun r1 mi2 ml3 F => ?_) F)
  cases r1 with
  | none =>
      have F := F.1 rfl
      show wp l M_X11_silent (d + 1) 0 0 _ _ (.null :: _) 0 0 kd _ _ mr _
      refine wp_astore_nN (pc := 8) dX11_silent_8 (Nat.le_of_ble_eq_true rfl) rfl ?_
      show wp l M_X11_silent (d + 1) 0 0 _ [some (.ref h), some (.int x1), some (.null)] _ 0 0 kd _ _ mr _
      refine wp_aload_nN (pc := 9) dX11_silent_9 rfl ?_
      refine wp_ifnonnullN (pc := 10) dX11_silent_10 ?_
      refine wp_iconst (v := -1) (pc := 13) dX11_silent_13 (by decide) ?_
      exact r_I (pc := 14) dX11_silent_14 rfl F
  | some b4 =>
      obtain ⟨tb4, F⟩ := F.2 b4 rfl
      show wp l M_X11_silent (d + 1) 0 0 _ _ (.ref b4 :: _) 0 0 kd _ _ mr _
      refine wp_astore_n (pc := 8) dX11_silent_8 (Nat.le_of_ble_eq_true rfl) rfl ?_
      show wp l M_X11_silent (d + 1) 0 0 _ [some (.ref h), some (.int x1), some (.ref b4)] _ 0 0 kd _ _ mr _
      refine wp_aload_n (pc := 9) dX11_silent_9 rfl ?_
      refine wp_ifnonnull (tgt := 15) (pc := 10) dX11_silent_10 (by decide) ?_
      refine wp_aload_n (pc := 15) dX11_silent_15 rfl ?_
      refine wp_getR (pc := 16) dX11_silent_16 fl_X11_41 rfl (TX11s_k th) (TX11s_r5 th) ?_
      refine wp_aload_n (pc := 19) dX11_silent_19 rfl ?_
      refine cvV [.ref b4] [] (pc := 20) dX11_silent_20 ml_X11_151 iv_X1_listen (TX1s_k (TX11s_a5 th)) (cl_X1 rfl) rfl rfl (Nat.le_of_ble_eq_true rfl) (Nat.le_of_ble_eq_true rfl) (wV.mono (fun mi6 ml7 F => ?_) F)
      refine wp_aload_n (pc := 23) dX11_silent_23 rfl ?_
      refine wp_getR (pc := 24) dX11_silent_24 fl_X11_41 rfl (TX11s_k th) (TX11s_r5 th) ?_
      refine wp_aload_n (pc := 27) dX11_silent_27 rfl ?_
      refine cvI [.ref b4] [] (pc := 28) dX11_silent_28 ml_X11_272 iv_X1_whoHearsNothing (TX1s_k (TX11s_a5 th)) (cl_X1 rfl) rfl rfl (Nat.le_of_ble_eq_true rfl) (Nat.le_of_ble_eq_true rfl) (wI.mono (fun r8 mi9 ml10 F => ?_) F)
      exact r_I (pc := 31) dX11_silent_31 rfl F
/-- round(II)I -/
theorem w_X11_round {l : Launch} {d : Nat} {kd : pm_K} {mr : pm_R} {h : Nat} {x1 : Int32} {x2 : Int32} {mi : pm_I} {ml : pm_L} {K : Int32 → pm_I → pm_L → Prop} (th : TX11s kd mr h)
    (F : wR l M_X9_cityAt d [.ref (h + 1), .int x1] kd mr mi ml (fun r1 mi2 ml3 => ((r1 = none → K (-1) mi2 ml3) ∧ (∀ b4, r1 = some b4 → TX0s kd mr b4 ∧ wB l M_X0_hasPlayer d [.ref b4, .int x2] kd mr mi2 ml3 (fun r5 mi6 ml7 => ((r5 = true → vp_in x2 6 ∧ wI l M_X8_shortestVisit d [.ref (h + 215), .ref b4, .int (mi6 (b4 + 2) (Int32.toNatClampNeg x2))] kd mr mi6 ml7 (fun r9 mi10 ml11 => K r9 mi10 ml11)) ∧ (r5 = false → K (-1) mi6 ml7))))))) :
    wI l M_X11_round (d + 1) [.ref h, .int x1, .int x2] kd mr mi ml K := by
  show wp l M_X11_round (d + 1) 0 0 0 [some (.ref h), some (.int x1), some (.int x2), none] [] 0 0 kd mi ml mr _
  refine wp_aload_n (pc := 0) dX11_round_0 rfl ?_
  refine wp_getR (pc := 1) dX11_round_1 fl_X11_10 rfl (TX11s_k th) (TX11s_r0 th) ?_
  refine wp_iload_n (pc := 4) dX11_round_4 rfl ?_
  refine cvR [.int x1] [] (pc := 5) dX11_round_5 ml_X11_109 iv_X9_cityAt (TX9s_k (TX11s_a0 th)) (cl_X9 rfl) rfl rfl (Nat.le_of_ble_eq_true rfl) (Nat.le_of_ble_eq_true rfl) (wR.mono (fun r1 mi2 ml3 F => ?_) F)
  cases r1 with
  | none =>
      have F := F.1 rfl
      show wp l M_X11_round (d + 1) 0 0 _ _ (.null :: _) 0 0 kd _ _ mr _
      refine wp_astore_nN (pc := 8) dX11_round_8 (Nat.le_of_ble_eq_true rfl) rfl ?_
      show wp l M_X11_round (d + 1) 0 0 _ [some (.ref h), some (.int x1), some (.int x2), some (.null)] _ 0 0 kd _ _ mr _
      refine wp_aload_nN (pc := 9) dX11_round_9 rfl ?_
      refine wp_ifnullN (tgt := 21) (pc := 10) dX11_round_10 (by decide) ?_
      refine wp_iconst (v := -1) (pc := 21) dX11_round_21 (by decide) ?_
      exact r_I (pc := 22) dX11_round_22 rfl F
  | some b4 =>
      obtain ⟨tb4, F⟩ := F.2 b4 rfl
      show wp l M_X11_round (d + 1) 0 0 _ _ (.ref b4 :: _) 0 0 kd _ _ mr _
      refine wp_astore_n (pc := 8) dX11_round_8 (Nat.le_of_ble_eq_true rfl) rfl ?_
      show wp l M_X11_round (d + 1) 0 0 _ [some (.ref h), some (.int x1), some (.int x2), some (.ref b4)] _ 0 0 kd _ _ mr _
      refine wp_aload_n (pc := 9) dX11_round_9 rfl ?_
      refine wp_ifnull (pc := 10) dX11_round_10 ?_
      refine wp_aload_n (pc := 13) dX11_round_13 rfl ?_
      refine wp_iload_n (pc := 14) dX11_round_14 rfl ?_
      refine cvB [.int x2] [] (pc := 15) dX11_round_15 ml_X11_137 iv_X0_hasPlayer (TX0s_k tb4) (cl_X0 rfl) rfl rfl (Nat.le_of_ble_eq_true rfl) (Nat.le_of_ble_eq_true rfl) (wB.mono (fun r5 mi6 ml7 F => ?_) F)
      refine b_ne (tgt := 23) (pc := 18) dX11_round_18 (by decide) (fun c8 => ?_) (fun c8 => ?_)
      · have F := F.1 c8
        refine wp_aload_n (pc := 23) dX11_round_23 rfl ?_
        refine wp_getR (pc := 24) dX11_round_24 fl_X11_55 rfl (TX11s_k th) (TX11s_r7 th) ?_
        refine wp_aload_n (pc := 27) dX11_round_27 rfl ?_
        refine wp_aload_n (pc := 28) dX11_round_28 rfl ?_
        refine wp_getR (pc := 29) dX11_round_29 fl_X11_144 rfl (TX0s_k tb4) (TX0s_r7 tb4) ?_
        refine wp_iload_n (pc := 32) dX11_round_32 rfl ?_
        refine wp_iald (pc := 33) dX11_round_33 (TX0s_a7 tb4) F.1 ?_
        have F := F.2
        refine cvI [.ref b4, .int (mi6 (b4 + 2) (Int32.toNatClampNeg x2))] [] (pc := 34) dX11_round_34 ml_X11_275 iv_X8_shortestVisit (TX8s_k (TX11s_a7 th)) (cl_X8 rfl) rfl rfl (Nat.le_of_ble_eq_true rfl) (Nat.le_of_ble_eq_true rfl) (wI.mono (fun r9 mi10 ml11 F => ?_) F)
        exact r_I (pc := 37) dX11_round_37 rfl F
      · have F := F.2 c8
        refine wp_iconst (v := -1) (pc := 21) dX11_round_21 (by decide) ?_
        exact r_I (pc := 22) dX11_round_22 rfl F
/-- count(I)I -/
theorem w_X11_count {l : Launch} {d : Nat} {kd : pm_K} {mr : pm_R} {h : Nat} {x1 : Int32} {mi : pm_I} {ml : pm_L} {K : Int32 → pm_I → pm_L → Prop} (th : TX11s kd mr h)
    (F : wI l M_X9_manyOf d [.ref (h + 1), .int x1] kd mr mi ml (fun r1 mi2 ml3 => K r1 mi2 ml3)) :
    wI l M_X11_count (d + 1) [.ref h, .int x1] kd mr mi ml K := by
  show wp l M_X11_count (d + 1) 0 0 0 [some (.ref h), some (.int x1)] [] 0 0 kd mi ml mr _
  refine wp_aload_n (pc := 0) dX11_count_0 rfl ?_
  refine wp_getR (pc := 1) dX11_count_1 fl_X11_10 rfl (TX11s_k th) (TX11s_r0 th) ?_
  refine wp_iload_n (pc := 4) dX11_count_4 rfl ?_
  refine cvI [.int x1] [] (pc := 5) dX11_count_5 ml_X11_91 iv_X9_manyOf (TX9s_k (TX11s_a0 th)) (cl_X9 rfl) rfl rfl (Nat.le_of_ble_eq_true rfl) (Nat.le_of_ble_eq_true rfl) (wI.mono (fun r1 mi2 ml3 F => ?_) F)
  exact r_I (pc := 8) dX11_count_8 rfl F
/-- image(I)Z -/
theorem w_X11_image {l : Launch} {d : Nat} {kd : pm_K} {mr : pm_R} {h : Nat} {x1 : Int32} {mi : pm_I} {ml : pm_L} {K : Bool → pm_I → pm_L → Prop} (th : TX11s kd mr h)
    (F : ((x1 < 0 → K false mi ml) ∧ (¬ x1 < 0 → ((x1 < 3 → vp_in x1 3 ∧ ∃ b3, mr (h + 46) (Int32.toNatClampNeg x1) = some b3 ∧ TX9s kd mr b3 ∧ wV l M_X9_take d [.ref b3, .ref (h + 1)] kd mr mi ml (fun mi5 ml6 => vp_in x1 3 ∧ K true (pm_up mi5 (h + 182) (Int32.toNatClampNeg x1) (1 &&& 1)) ml6)) ∧ (¬ x1 < 3 → K false mi ml))))) :
    wB l M_X11_image (d + 1) [.ref h, .int x1] kd mr mi ml K := by
  show wp l M_X11_image (d + 1) 0 0 0 [some (.ref h), some (.int x1)] [] 0 0 kd mi ml mr _
  refine wp_iload_n (pc := 0) dX11_image_0 rfl ?_
  refine wp_if_lt (tgt := 9) (pc := 1) dX11_image_1 (by decide) (fun c1 => ?_) (fun c1 => ?_)
  · have F := F.1 c1
    refine wp_iconst (v := 0) (pc := 9) dX11_image_9 (by decide) ?_
    exact r_Bx (pc := 10) dX11_image_10 rfl rfl F
  · have F := F.2 c1
    refine wp_iload_n (pc := 4) dX11_image_4 rfl ?_
    refine wp_iconst (v := 3) (pc := 5) dX11_image_5 (by decide) ?_
    refine wp_icmp_lt (tgt := 11) (pc := 6) dX11_image_6 (by decide) (fun c2 => ?_) (fun c2 => ?_)
    · have F := F.1 c2
      refine wp_aload_n (pc := 11) dX11_image_11 rfl ?_
      refine wp_getR (pc := 12) dX11_image_12 fl_X11_16 rfl (TX11s_k th) (TX11s_r1 th) ?_
      refine wp_iload_n (pc := 15) dX11_image_15 rfl ?_
      obtain ⟨F1, b3, hb3, tb3, F⟩ := F
      refine wp_aald (t := 3) (pc := 16) dX11_image_16 (by decide) (TX11s_a1 th) F1 hb3 ?_
      refine wp_aload_n (pc := 17) dX11_image_17 rfl ?_
      refine wp_getR (pc := 18) dX11_image_18 fl_X11_10 rfl (TX11s_k th) (TX11s_r0 th) ?_
      refine cvV [.ref (h + 1)] [] (pc := 21) dX11_image_21 ml_X11_278 iv_X9_take (TX9s_k tb3) (cl_X9 rfl) rfl rfl (Nat.le_of_ble_eq_true rfl) (Nat.le_of_ble_eq_true rfl) (wV.mono (fun mi5 ml6 F => ?_) F)
      refine wp_aload_n (pc := 24) dX11_image_24 rfl ?_
      refine wp_getR (pc := 25) dX11_image_25 fl_X11_20 rfl (TX11s_k th) (TX11s_r2 th) ?_
      refine wp_iload_n (pc := 28) dX11_image_28 rfl ?_
      refine wp_iconst (v := 1) (pc := 29) dX11_image_29 (by decide) ?_
      refine wp_zast (pc := 30) dX11_image_30 (TX11s_a2 th) F.1 ?_
      have F := F.2
      refine wp_iconst (v := 1) (pc := 31) dX11_image_31 (by decide) ?_
      exact r_Bx (pc := 32) dX11_image_32 rfl rfl F
    · have F := F.2 c2
      refine wp_iconst (v := 0) (pc := 9) dX11_image_9 (by decide) ?_
      exact r_Bx (pc := 10) dX11_image_10 rfl rfl F
def c_X9_take_56 (l : Launch) (d : Nat) (kd : pm_K) (mr : pm_R) (h : Nat) (o1 : Nat) (x2 : Int32) (mi : pm_I) (ml : pm_L) (K : pm_I → pm_L → Prop) : Prop := wp l M_X9_take d 0 0 56 [some (.ref h), some (.ref o1), some (.int x2)] [] 0 0 kd mi ml mr (qV kd mr K)
theorem w_X9_take_56 {l : Launch} {d : Nat} {kd : pm_K} {mr : pm_R} {h : Nat} {o1 : Nat} {x2 : Int32} {mi : pm_I} {ml : pm_L} {K : pm_I → pm_L → Prop} (th : TX9s kd mr h) (to1 : TX9s kd mr o1)
    (F : ((2 ≤ x2 → K mi ml) ∧ (¬ 2 ≤ x2 → vp_in x2 2 ∧ ∃ b4, mr (h + 3) (Int32.toNatClampNeg x2) = some b4 ∧ TX0s kd mr b4 ∧ vp_in x2 2 ∧ ∃ b5, mr (o1 + 3) (Int32.toNatClampNeg x2) = some b5 ∧ TX0s kd mr b5 ∧ wV l M_X0_take d [.ref b4, .ref b5] kd mr mi ml (fun mi7 ml8 => vp_in x2 2 ∧ ∃ b9, mr (h + 4) (Int32.toNatClampNeg x2) = some b9 ∧ TX6s kd mr b9 ∧ vp_in x2 2 ∧ ∃ b10, mr (o1 + 4) (Int32.toNatClampNeg x2) = some b10 ∧ TX6s kd mr b10 ∧ wV l M_X6_take d [.ref b9, .ref b10] kd mr mi7 ml8 (fun mi12 ml13 => vp_in x2 2 ∧ ∃ b14, mr (h + 5) (Int32.toNatClampNeg x2) = some b14 ∧ TX10s kd mr b14 ∧ vp_in x2 2 ∧ ∃ b15, mr (o1 + 5) (Int32.toNatClampNeg x2) = some b15 ∧ TX10s kd mr b15 ∧ wV l M_X10_take d [.ref b14, .ref b15] kd mr mi12 ml13 (fun mi17 ml18 => vp_in x2 2 ∧ ∃ b19, mr (h + 6) (Int32.toNatClampNeg x2) = some b19 ∧ TX6s kd mr b19 ∧ vp_in x2 2 ∧ ∃ b20, mr (o1 + 6) (Int32.toNatClampNeg x2) = some b20 ∧ TX6s kd mr b20 ∧ wV l M_X6_take d [.ref b19, .ref b20] kd mr mi17 ml18 (fun mi22 ml23 => c_X9_take_56 l (d + 1) kd mr h o1 (x2 + 1) mi22 ml23 K))))))) :
    c_X9_take_56 l (d + 1) kd mr h o1 x2 mi ml K := by
  show wp l M_X9_take (d + 1) 0 0 56 [some (.ref h), some (.ref o1), some (.int x2)] [] 0 0 kd mi ml mr _
  refine wp_iload_n (pc := 56) dX9_take_56 rfl ?_
  refine wp_iconst (v := 2) (pc := 57) dX9_take_57 (by decide) ?_
  refine wp_icmp_ge (tgt := 127) (pc := 58) dX9_take_58 (by decide) (fun c3 => ?_) (fun c3 => ?_)
  · have F := F.1 c3
    exact r_V (pc := 127) dX9_take_127 rfl F
  · have F := F.2 c3
    refine wp_aload_n (pc := 61) dX9_take_61 rfl ?_
    refine wp_getR (pc := 62) dX9_take_62 fl_X9_25 rfl (TX9s_k th) (TX9s_r5 th) ?_
    refine wp_iload_n (pc := 65) dX9_take_65 rfl ?_
    obtain ⟨F1, b4, hb4, tb4, F⟩ := F
    refine wp_aald (t := 0) (pc := 66) dX9_take_66 (by decide) (TX9s_a5 th) F1 hb4 ?_
    refine wp_aload_n (pc := 67) dX9_take_67 rfl ?_
    refine wp_getR (pc := 68) dX9_take_68 fl_X9_25 rfl (TX9s_k to1) (TX9s_r5 to1) ?_
    refine wp_iload_n (pc := 71) dX9_take_71 rfl ?_
    obtain ⟨F1, b5, hb5, tb5, F⟩ := F
    refine wp_aald (t := 0) (pc := 72) dX9_take_72 (by decide) (TX9s_a5 to1) F1 hb5 ?_
    refine cvV [.ref b5] [] (pc := 73) dX9_take_73 ml_X9_59 iv_X0_take (TX0s_k tb4) (cl_X0 rfl) rfl rfl (Nat.le_of_ble_eq_true rfl) (Nat.le_of_ble_eq_true rfl) (wV.mono (fun mi7 ml8 F => ?_) F)
    refine wp_aload_n (pc := 76) dX9_take_76 rfl ?_
    refine wp_getR (pc := 77) dX9_take_77 fl_X9_31 rfl (TX9s_k th) (TX9s_r6 th) ?_
    refine wp_iload_n (pc := 80) dX9_take_80 rfl ?_
    obtain ⟨F1, b9, hb9, tb9, F⟩ := F
    refine wp_aald (t := 1) (pc := 81) dX9_take_81 (by decide) (TX9s_a6 th) F1 hb9 ?_
    refine wp_aload_n (pc := 82) dX9_take_82 rfl ?_
    refine wp_getR (pc := 83) dX9_take_83 fl_X9_31 rfl (TX9s_k to1) (TX9s_r6 to1) ?_
    refine wp_iload_n (pc := 86) dX9_take_86 rfl ?_
    obtain ⟨F1, b10, hb10, tb10, F⟩ := F
    refine wp_aald (t := 1) (pc := 87) dX9_take_87 (by decide) (TX9s_a6 to1) F1 hb10 ?_
    refine cvV [.ref b10] [] (pc := 88) dX9_take_88 ml_X9_63 iv_X6_take (TX6s_k tb9) (cl_X6 rfl) rfl rfl (Nat.le_of_ble_eq_true rfl) (Nat.le_of_ble_eq_true rfl) (wV.mono (fun mi12 ml13 F => ?_) F)
    refine wp_aload_n (pc := 91) dX9_take_91 rfl ?_
    refine wp_getR (pc := 92) dX9_take_92 fl_X9_37 rfl (TX9s_k th) (TX9s_r7 th) ?_
    refine wp_iload_n (pc := 95) dX9_take_95 rfl ?_
    obtain ⟨F1, b14, hb14, tb14, F⟩ := F
    refine wp_aald (t := 2) (pc := 96) dX9_take_96 (by decide) (TX9s_a7 th) F1 hb14 ?_
    refine wp_aload_n (pc := 97) dX9_take_97 rfl ?_
    refine wp_getR (pc := 98) dX9_take_98 fl_X9_37 rfl (TX9s_k to1) (TX9s_r7 to1) ?_
    refine wp_iload_n (pc := 101) dX9_take_101 rfl ?_
    obtain ⟨F1, b15, hb15, tb15, F⟩ := F
    refine wp_aald (t := 2) (pc := 102) dX9_take_102 (by decide) (TX9s_a7 to1) F1 hb15 ?_
    refine cvV [.ref b15] [] (pc := 103) dX9_take_103 ml_X9_66 iv_X10_take (TX10s_k tb14) (cl_X10 rfl) rfl rfl (Nat.le_of_ble_eq_true rfl) (Nat.le_of_ble_eq_true rfl) (wV.mono (fun mi17 ml18 F => ?_) F)
    refine wp_aload_n (pc := 106) dX9_take_106 rfl ?_
    refine wp_getR (pc := 107) dX9_take_107 fl_X9_41 rfl (TX9s_k th) (TX9s_r8 th) ?_
    refine wp_iload_n (pc := 110) dX9_take_110 rfl ?_
    obtain ⟨F1, b19, hb19, tb19, F⟩ := F
    refine wp_aald (t := 1) (pc := 111) dX9_take_111 (by decide) (TX9s_a8 th) F1 hb19 ?_
    refine wp_aload_n (pc := 112) dX9_take_112 rfl ?_
    refine wp_getR (pc := 113) dX9_take_113 fl_X9_41 rfl (TX9s_k to1) (TX9s_r8 to1) ?_
    refine wp_iload_n (pc := 116) dX9_take_116 rfl ?_
    obtain ⟨F1, b20, hb20, tb20, F⟩ := F
    refine wp_aald (t := 1) (pc := 117) dX9_take_117 (by decide) (TX9s_a8 to1) F1 hb20 ?_
    refine cvV [.ref b20] [] (pc := 118) dX9_take_118 ml_X9_63 iv_X6_take (TX6s_k tb19) (cl_X6 rfl) rfl rfl (Nat.le_of_ble_eq_true rfl) (Nat.le_of_ble_eq_true rfl) (wV.mono (fun mi22 ml23 F => ?_) F)
    refine wp_iinc (v := (x2 + 1)) (pc := 121) dX9_take_121 rfl rfl rfl ?_
    show wp l M_X9_take (d + 1) 0 0 _ [some (.ref h), some (.ref o1), some (.int (x2 + 1))] _ 0 0 kd _ _ mr _
    refine wp_goto (tgt := 56) (pc := 124) dX9_take_124 (by decide) ?_
    exact wp_less (L' := [some (.ref h), some (.ref o1), some (.int (x2 + 1))]) ⟨rfl, ⟨rfl, ⟨rfl, trivial⟩⟩⟩ F
/-- take(LCityChords$Told;)V -/
theorem w_X9_take {l : Launch} {d : Nat} {kd : pm_K} {mr : pm_R} {h : Nat} {o1 : Nat}  {mi : pm_I} {ml : pm_L} {K : pm_I → pm_L → Prop} (th : TX9s kd mr h) (to1 : TX9s kd mr o1)
    (F : (¬ (0 : Int32) < 0 ∧ ¬ (0 : Int32) < 0 ∧ ¬ (600 : Int32) < 0 ∧ (Int32.toNatClampNeg (0 : Int32)) + (Int32.toNatClampNeg (600 : Int32)) ≤ 600 ∧ (Int32.toNatClampNeg (0 : Int32)) + (Int32.toNatClampNeg (600 : Int32)) ≤ 600) ∧ ∀ mi1 : pm_I, mi1 = (pm_ur mi (h + 1) (va_cpy (mi (o1 + 1)) (mi (h + 1)) (Int32.toNatClampNeg (0 : Int32)) (Int32.toNatClampNeg (0 : Int32)) (Int32.toNatClampNeg (600 : Int32)))) → (¬ (0 : Int32) < 0 ∧ ¬ (0 : Int32) < 0 ∧ ¬ (4 : Int32) < 0 ∧ (Int32.toNatClampNeg (0 : Int32)) + (Int32.toNatClampNeg (4 : Int32)) ≤ 4 ∧ (Int32.toNatClampNeg (0 : Int32)) + (Int32.toNatClampNeg (4 : Int32)) ≤ 4) ∧ ∀ mi2 : pm_I, mi2 = (pm_ur (pm_up (pm_up (pm_up mi1 h 1 (mi1 o1 1)) h 2 ((pm_up mi1 h 1 (mi1 o1 1)) o1 2)) h 3 ((pm_up (pm_up mi1 h 1 (mi1 o1 1)) h 2 ((pm_up mi1 h 1 (mi1 o1 1)) o1 2)) o1 3)) (h + 2) (va_cpy ((pm_up (pm_up (pm_up mi1 h 1 (mi1 o1 1)) h 2 ((pm_up mi1 h 1 (mi1 o1 1)) o1 2)) h 3 ((pm_up (pm_up mi1 h 1 (mi1 o1 1)) h 2 ((pm_up mi1 h 1 (mi1 o1 1)) o1 2)) o1 3)) (o1 + 2)) ((pm_up (pm_up (pm_up mi1 h 1 (mi1 o1 1)) h 2 ((pm_up mi1 h 1 (mi1 o1 1)) o1 2)) h 3 ((pm_up (pm_up mi1 h 1 (mi1 o1 1)) h 2 ((pm_up mi1 h 1 (mi1 o1 1)) o1 2)) o1 3)) (h + 2)) (Int32.toNatClampNeg (0 : Int32)) (Int32.toNatClampNeg (0 : Int32)) (Int32.toNatClampNeg (4 : Int32)))) → c_X9_take_56 l (d + 1) kd mr h o1 0 mi2 ml K) :
    wV l M_X9_take (d + 1) [.ref h, .ref o1] kd mr mi ml K := by
  show wp l M_X9_take (d + 1) 0 0 0 [some (.ref h), some (.ref o1), none] [] 0 0 kd mi ml mr _
  refine wp_aload_n (pc := 0) dX9_take_0 rfl ?_
  refine wp_getR (pc := 1) dX9_take_1 fl_X9_9 rfl (TX9s_k to1) (TX9s_r0 to1) ?_
  refine wp_iconst (v := 0) (pc := 4) dX9_take_4 (by decide) ?_
  refine wp_aload_n (pc := 5) dX9_take_5 rfl ?_
  refine wp_getR (pc := 6) dX9_take_6 fl_X9_9 rfl (TX9s_k th) (TX9s_r0 th) ?_
  refine wp_iconst (v := 0) (pc := 9) dX9_take_9 (by decide) ?_
  refine wp_sipush (v := 600) (pc := 10) dX9_take_10 (by decide) ?_
  refine wp_copy (pc := 13) dX9_take_13 ⟨tb_5 239 rfl rfl, tb_2 233 rfl rfl, tb_2 232 rfl rfl, tb_1 16 rfl rfl⟩ (Nat.succ_pos d) (Nat.le_of_ble_eq_true rfl) (by decide) (TX9s_a0 to1) (TX9s_a0 th) F.1.1 F.1.2.1 F.1.2.2.1 F.1.2.2.2.1 F.1.2.2.2.2 ?_
  have F := F.2
  generalize emi1 : (pm_ur mi (h + 1) (va_cpy (mi (o1 + 1)) (mi (h + 1)) (Int32.toNatClampNeg (0 : Int32)) (Int32.toNatClampNeg (0 : Int32)) (Int32.toNatClampNeg (600 : Int32)))) = mi1
  have F := F mi1 emi1.symm
  refine wp_aload_n (pc := 16) dX9_take_16 rfl ?_
  refine wp_aload_n (pc := 17) dX9_take_17 rfl ?_
  refine wp_getI (pc := 18) dX9_take_18 fl_X9_53 rfl (TX9s_k to1) ?_
  refine wp_putI (pc := 21) dX9_take_21 fl_X9_53 rfl rfl (TX9s_k th) ?_
  refine wp_aload_n (pc := 24) dX9_take_24 rfl ?_
  refine wp_aload_n (pc := 25) dX9_take_25 rfl ?_
  refine wp_getI (pc := 26) dX9_take_26 fl_X9_56 rfl (TX9s_k to1) ?_
  refine wp_putI (pc := 29) dX9_take_29 fl_X9_56 rfl rfl (TX9s_k th) ?_
  refine wp_aload_n (pc := 32) dX9_take_32 rfl ?_
  refine wp_aload_n (pc := 33) dX9_take_33 rfl ?_
  refine wp_getI (pc := 34) dX9_take_34 fl_X9_15 rfl (TX9s_k to1) ?_
  refine wp_putI (pc := 37) dX9_take_37 fl_X9_15 rfl rfl (TX9s_k th) ?_
  refine wp_aload_n (pc := 40) dX9_take_40 rfl ?_
  refine wp_getR (pc := 41) dX9_take_41 fl_X9_19 rfl (TX9s_k to1) (TX9s_r4 to1) ?_
  refine wp_iconst (v := 0) (pc := 44) dX9_take_44 (by decide) ?_
  refine wp_aload_n (pc := 45) dX9_take_45 rfl ?_
  refine wp_getR (pc := 46) dX9_take_46 fl_X9_19 rfl (TX9s_k th) (TX9s_r4 th) ?_
  refine wp_iconst (v := 0) (pc := 49) dX9_take_49 (by decide) ?_
  refine wp_iconst (v := 4) (pc := 50) dX9_take_50 (by decide) ?_
  refine wp_copy (pc := 51) dX9_take_51 ⟨tb_5 239 rfl rfl, tb_2 233 rfl rfl, tb_2 232 rfl rfl, tb_1 16 rfl rfl⟩ (Nat.succ_pos d) (Nat.le_of_ble_eq_true rfl) (by decide) (TX9s_a4 to1) (TX9s_a4 th) F.1.1 F.1.2.1 F.1.2.2.1 F.1.2.2.2.1 F.1.2.2.2.2 ?_
  have F := F.2
  generalize emi2 : (pm_ur (pm_up (pm_up (pm_up mi1 h 1 (mi1 o1 1)) h 2 ((pm_up mi1 h 1 (mi1 o1 1)) o1 2)) h 3 ((pm_up (pm_up mi1 h 1 (mi1 o1 1)) h 2 ((pm_up mi1 h 1 (mi1 o1 1)) o1 2)) o1 3)) (h + 2) (va_cpy ((pm_up (pm_up (pm_up mi1 h 1 (mi1 o1 1)) h 2 ((pm_up mi1 h 1 (mi1 o1 1)) o1 2)) h 3 ((pm_up (pm_up mi1 h 1 (mi1 o1 1)) h 2 ((pm_up mi1 h 1 (mi1 o1 1)) o1 2)) o1 3)) (o1 + 2)) ((pm_up (pm_up (pm_up mi1 h 1 (mi1 o1 1)) h 2 ((pm_up mi1 h 1 (mi1 o1 1)) o1 2)) h 3 ((pm_up (pm_up mi1 h 1 (mi1 o1 1)) h 2 ((pm_up mi1 h 1 (mi1 o1 1)) o1 2)) o1 3)) (h + 2)) (Int32.toNatClampNeg (0 : Int32)) (Int32.toNatClampNeg (0 : Int32)) (Int32.toNatClampNeg (4 : Int32)))) = mi2
  have F := F mi2 emi2.symm
  refine wp_iconst (v := 0) (pc := 54) dX9_take_54 (by decide) ?_
  refine wp_istore_n (pc := 55) dX9_take_55 (Nat.le_of_ble_eq_true rfl) rfl ?_
  show wp l M_X9_take (d + 1) 0 0 _ [some (.ref h), some (.ref o1), some (.int 0)] _ 0 0 kd _ _ mr _
  exact wp_less (L' := [some (.ref h), some (.ref o1), some (.int 0)]) ⟨rfl, ⟨rfl, ⟨rfl, trivial⟩⟩⟩ F
/-- again(I)Z -/
theorem w_X11_again {l : Launch} {d : Nat} {kd : pm_K} {mr : pm_R} {h : Nat} {x1 : Int32} {mi : pm_I} {ml : pm_L} {K : Bool → pm_I → pm_L → Prop} (th : TX11s kd mr h)
    (F : ((x1 < 0 → K false mi ml) ∧ (¬ x1 < 0 → ((3 ≤ x1 → K false mi ml) ∧ (¬ 3 ≤ x1 → vp_in x1 3 ∧ ((¬ (mi (h + 182) (Int32.toNatClampNeg x1)) = 0 → vp_in x1 3 ∧ ∃ b4, mr (h + 46) (Int32.toNatClampNeg x1) = some b4 ∧ TX9s kd mr b4 ∧ wV l M_X9_take d [.ref (h + 1), .ref b4] kd mr mi ml (fun mi6 ml7 => K true mi6 ml7)) ∧ ((mi (h + 182) (Int32.toNatClampNeg x1)) = 0 → K false mi ml))))))) :
    wB l M_X11_again (d + 1) [.ref h, .int x1] kd mr mi ml K := by
  show wp l M_X11_again (d + 1) 0 0 0 [some (.ref h), some (.int x1)] [] 0 0 kd mi ml mr _
  refine wp_iload_n (pc := 0) dX11_again_0 rfl ?_
  refine wp_if_lt (tgt := 18) (pc := 1) dX11_again_1 (by decide) (fun c1 => ?_) (fun c1 => ?_)
  · have F := F.1 c1
    refine wp_iconst (v := 0) (pc := 18) dX11_again_18 (by decide) ?_
    exact r_Bx (pc := 19) dX11_again_19 rfl rfl F
  · have F := F.2 c1
    refine wp_iload_n (pc := 4) dX11_again_4 rfl ?_
    refine wp_iconst (v := 3) (pc := 5) dX11_again_5 (by decide) ?_
    refine wp_icmp_ge (tgt := 18) (pc := 6) dX11_again_6 (by decide) (fun c2 => ?_) (fun c2 => ?_)
    · have F := F.1 c2
      refine wp_iconst (v := 0) (pc := 18) dX11_again_18 (by decide) ?_
      exact r_Bx (pc := 19) dX11_again_19 rfl rfl F
    · have F := F.2 c2
      refine wp_aload_n (pc := 9) dX11_again_9 rfl ?_
      refine wp_getR (pc := 10) dX11_again_10 fl_X11_20 rfl (TX11s_k th) (TX11s_r2 th) ?_
      refine wp_iload_n (pc := 13) dX11_again_13 rfl ?_
      refine wp_zald (pc := 14) dX11_again_14 (TX11s_a2 th) F.1 ?_
      have F := F.2
      refine wp_if_ne (tgt := 20) (pc := 15) dX11_again_15 (by decide) (fun c3 => ?_) (fun c3 => ?_)
      · have F := F.1 c3
        refine wp_aload_n (pc := 20) dX11_again_20 rfl ?_
        refine wp_getR (pc := 21) dX11_again_21 fl_X11_10 rfl (TX11s_k th) (TX11s_r0 th) ?_
        refine wp_aload_n (pc := 24) dX11_again_24 rfl ?_
        refine wp_getR (pc := 25) dX11_again_25 fl_X11_16 rfl (TX11s_k th) (TX11s_r1 th) ?_
        refine wp_iload_n (pc := 28) dX11_again_28 rfl ?_
        obtain ⟨F1, b4, hb4, tb4, F⟩ := F
        refine wp_aald (t := 3) (pc := 29) dX11_again_29 (by decide) (TX11s_a1 th) F1 hb4 ?_
        refine cvV [.ref b4] [] (pc := 30) dX11_again_30 ml_X11_278 iv_X9_take (TX9s_k (TX11s_a0 th)) (cl_X9 rfl) rfl rfl (Nat.le_of_ble_eq_true rfl) (Nat.le_of_ble_eq_true rfl) (wV.mono (fun mi6 ml7 F => ?_) F)
        refine wp_iconst (v := 1) (pc := 33) dX11_again_33 (by decide) ?_
        exact r_Bx (pc := 34) dX11_again_34 rfl rfl F
      · have F := F.2 c3
        refine wp_iconst (v := 0) (pc := 18) dX11_again_18 (by decide) ?_
        exact r_Bx (pc := 19) dX11_again_19 rfl rfl F
