/-! block lemmas, by program (gen/mkw.py) -/
def c_X12_findHeard_2 (l : Launch) (d : Nat) (kd : pm_K) (mr : pm_R) (h : Nat) (x1 : Int32) (mi : pm_I) (ml : pm_L) (K : pm_I → pm_L → Prop) : Prop := wp l M_X12_findHeard d 0 0 2 [some (.ref h), some (.int x1)] [] 0 0 kd mi ml mr (qV kd mr K)
theorem w_X12_findHeard_2 {l : Launch} {d : Nat} {kd : pm_K} {mr : pm_R} {h : Nat} {x1 : Int32} {mi : pm_I} {ml : pm_L} {K : pm_I → pm_L → Prop} (th : TX12s kd mr h)
    (F : (((mi h 28) ≤ x1 → K mi ml) ∧ (¬ (mi h 28) ≤ x1 → wI l M_X12_cellOf d [.ref h, .int 9, .int x1] kd mr mi ml (fun r2 mi3 ml4 => wI l M_X12_of d [.ref h, .int (9 + x1)] kd mr mi3 ml4 (fun r5 mi6 ml7 => wL l M_X12_heardFrom d [.ref h, .int r2, .int r5] kd mr mi6 ml7 (fun r8 mi9 ml10 => vp_in x1 64 ∧ c_X12_findHeard_2 l (d + 1) kd mr h (x1 + 1) mi9 (pm_up ml10 (h + 17) (Int32.toNatClampNeg x1) r8) K)))))) :
    c_X12_findHeard_2 l (d + 1) kd mr h x1 mi ml K := by
  show wp l M_X12_findHeard (d + 1) 0 0 2 [some (.ref h), some (.int x1)] [] 0 0 kd mi ml mr _
  refine wp_iload_n (pc := 2) dX12_findHeard_2 rfl ?_
  refine wp_aload_n (pc := 3) dX12_findHeard_3 rfl ?_
  refine wp_getI (pc := 4) dX12_findHeard_4 fl_X12_334 rfl (TX12s_k th) ?_
  refine wp_icmp_ge (tgt := 41) (pc := 7) dX12_findHeard_7 (by decide) (fun c1 => ?_) (fun c1 => ?_)
  · have F := F.1 c1
    exact r_V (pc := 41) dX12_findHeard_41 rfl F
  · have F := F.2 c1
    refine wp_aload_n (pc := 10) dX12_findHeard_10 rfl ?_
    refine wp_getR (pc := 11) dX12_findHeard_11 fl_X12_59 rfl (TX12s_k th) (TX12s_r39 th) ?_
    refine wp_iload_n (pc := 14) dX12_findHeard_14 rfl ?_
    refine wp_aload_n (pc := 15) dX12_findHeard_15 rfl ?_
    refine wp_aload_n (pc := 16) dX12_findHeard_16 rfl ?_
    refine wp_bipush (v := 9) (pc := 17) dX12_findHeard_17 (by decide) ?_
    refine wp_iload_n (pc := 19) dX12_findHeard_19 rfl ?_
    refine cvI [.int 9, .int x1] [.ref h, .int x1, .ref (h + 17)] (pc := 20) dX12_findHeard_20 ml_X12_352 iv_X12_cellOf (TX12s_k th) (cl_X12 rfl) rfl rfl (Nat.le_of_ble_eq_true rfl) (Nat.le_of_ble_eq_true rfl) (wI.mono (fun r2 mi3 ml4 F => ?_) F)
    refine wp_aload_n (pc := 23) dX12_findHeard_23 rfl ?_
    refine wp_bipush (v := 9) (pc := 24) dX12_findHeard_24 (by decide) ?_
    refine wp_iload_n (pc := 26) dX12_findHeard_26 rfl ?_
    refine wp_iadd (pc := 27) dX12_findHeard_27 ?_
    refine cvI [.int (9 + x1)] [.int r2, .ref h, .int x1, .ref (h + 17)] (pc := 28) dX12_findHeard_28 ml_X12_324 iv_X12_of (TX12s_k th) (cl_X12 rfl) rfl rfl (Nat.le_of_ble_eq_true rfl) (Nat.le_of_ble_eq_true rfl) (wI.mono (fun r5 mi6 ml7 F => ?_) F)
    refine cvL [.int r2, .int r5] [.int x1, .ref (h + 17)] (pc := 31) dX12_findHeard_31 ml_X12_428 iv_X12_heardFrom (TX12s_k th) (cl_X12 rfl) rfl rfl (Nat.le_of_ble_eq_true rfl) (Nat.le_of_ble_eq_true rfl) (wL.mono (fun r8 mi9 ml10 F => ?_) F)
    refine wp_last (pc := 34) dX12_findHeard_34 (TX12s_a39 th) F.1 ?_
    have F := F.2
    refine wp_iinc (v := (x1 + 1)) (pc := 35) dX12_findHeard_35 rfl rfl rfl ?_
    show wp l M_X12_findHeard (d + 1) 0 0 _ [some (.ref h), some (.int (x1 + 1))] _ 0 0 kd _ _ mr _
    refine wp_goto (tgt := 2) (pc := 38) dX12_findHeard_38 (by decide) ?_
    exact wp_less (L' := [some (.ref h), some (.int (x1 + 1))]) ⟨rfl, ⟨rfl, trivial⟩⟩ F
/-- findHeard()V -/
theorem w_X12_findHeard {l : Launch} {d : Nat} {kd : pm_K} {mr : pm_R} {h : Nat}  {mi : pm_I} {ml : pm_L} {K : pm_I → pm_L → Prop} (th : TX12s kd mr h)
    (F : c_X12_findHeard_2 l (d + 1) kd mr h 0 mi ml K) :
    wV l M_X12_findHeard (d + 1) [.ref h] kd mr mi ml K := by
  show wp l M_X12_findHeard (d + 1) 0 0 0 [some (.ref h), none] [] 0 0 kd mi ml mr _
  refine wp_iconst (v := 0) (pc := 0) dX12_findHeard_0 (by decide) ?_
  refine wp_istore_n (pc := 1) dX12_findHeard_1 (Nat.le_of_ble_eq_true rfl) rfl ?_
  show wp l M_X12_findHeard (d + 1) 0 0 _ [some (.ref h), some (.int 0)] _ 0 0 kd _ _ mr _
  exact wp_less (L' := [some (.ref h), some (.int 0)]) ⟨rfl, ⟨rfl, trivial⟩⟩ F
def c_X12_heardFrom_10 (l : Launch) (d : Nat) (kd : pm_K) (mr : pm_R) (h : Nat) (x2 : Int32) (x3 : Int64) (x5 : Int32) (mi : pm_I) (ml : pm_L) (K : Int64 → pm_I → pm_L → Prop) : Prop := wp l M_X12_heardFrom d 0 0 10 [some (.ref h), none, some (.int x2), some (.long x3), none, some (.int x5)] [] 0 0 kd mi ml mr (qL kd mr K)
theorem w_X12_heardFrom_10 {l : Launch} {d : Nat} {kd : pm_K} {mr : pm_R} {h : Nat} {x2 : Int32} {x3 : Int64} {x5 : Int32} {mi : pm_I} {ml : pm_L} {K : Int64 → pm_I → pm_L → Prop} (th : TX12s kd mr h)
    (F : (((mi h 27) ≤ x5 → K x3 mi ml) ∧ (¬ (mi h 27) ≤ x5 → vp_in x5 64 ∧ wI l M_X12_range d [.int x2] kd mr mi ml (fun r5 mi6 ml7 => c_X12_heardFrom_10 l (d + 1) kd mr h x2 (x3 ||| (if r5 < (mi (h + 12) (Int32.toNatClampNeg x5)) then (0 : Int64) else ((1 : Int64) <<< ((Int32.toInt64 x5) &&& 63)))) (x5 + 1) mi6 ml7 K)))) :
    c_X12_heardFrom_10 l (d + 1) kd mr h x2 x3 x5 mi ml K := by
  show wp l M_X12_heardFrom (d + 1) 0 0 10 [some (.ref h), none, some (.int x2), some (.long x3), none, some (.int x5)] [] 0 0 kd mi ml mr _
  refine wp_iload (pc := 10) dX12_heardFrom_10 rfl ?_
  refine wp_aload_n (pc := 12) dX12_heardFrom_12 rfl ?_
  refine wp_getI (pc := 13) dX12_heardFrom_13 fl_X12_331 rfl (TX12s_k th) ?_
  refine wp_icmp_ge (tgt := 50) (pc := 16) dX12_heardFrom_16 (by decide) (fun c4 => ?_) (fun c4 => ?_)
  · have F := F.1 c4
    refine wp_lload_n (pc := 50) dX12_heardFrom_50 rfl ?_
    exact r_L (pc := 51) dX12_heardFrom_51 rfl F
  · have F := F.2 c4
    refine wp_lload_n (pc := 19) dX12_heardFrom_19 rfl ?_
    refine wp_aload_n (pc := 20) dX12_heardFrom_20 rfl ?_
    refine wp_getR (pc := 21) dX12_heardFrom_21 fl_X12_44 rfl (TX12s_k th) (TX12s_r31 th) ?_
    refine wp_iload (pc := 24) dX12_heardFrom_24 rfl ?_
    refine wp_iald (pc := 26) dX12_heardFrom_26 (TX12s_a31 th) F.1 ?_
    have F := F.2
    refine wp_iload_n (pc := 27) dX12_heardFrom_27 rfl ?_
    refine csI [.int x2] [.int (mi (h + 12) (Int32.toNatClampNeg x5)), .long x3] (pc := 28) dX12_heardFrom_28 ml_X12_392 st_X12_range rfl rfl (Nat.le_of_ble_eq_true rfl) (Nat.le_of_ble_eq_true rfl) (wI.mono (fun r5 mi6 ml7 F => ?_) F)
    suffices J8 : ∀ v9 : Int64, v9 = (if r5 < (mi (h + 12) (Int32.toNatClampNeg x5)) then (0 : Int64) else ((1 : Int64) <<< ((Int32.toInt64 x5) &&& 63))) → wp l M_X12_heardFrom (d + 1) 0 0 42 [some (.ref h), none, some (.int x2), some (.long x3), none, some (.int x5)] [.long v9, .long x3] 0 0 kd mi6 ml7 mr _ by
        refine wp_icmp_gt (tgt := 41) (pc := 31) dX12_heardFrom_31 (by decide) (fun c10 => ?_) (fun c10 => ?_)
        · refine wp_lconst (v := 0) (pc := 41) dX12_heardFrom_41 (by decide) ?_
          exact J8 _ (by simp only [eq_true c10, if_true, if_false, decide_true, decide_false, Bool.not_true, Bool.not_false, Bool.true_and, Bool.false_and, Bool.true_or, Bool.false_or, b2i_t, b2i_f, ite_true, ite_false, not_true_eq_false, not_false_eq_true, reduceCtorEq, decide_eq_true_eq])
        · refine wp_lconst (v := 1) (pc := 34) dX12_heardFrom_34 (by decide) ?_
          refine wp_iload (pc := 35) dX12_heardFrom_35 rfl ?_
          refine wp_lshl (pc := 37) dX12_heardFrom_37 ?_
          refine wp_goto (tgt := 42) (pc := 38) dX12_heardFrom_38 (by decide) ?_
          exact J8 _ (by simp only [c10, if_true, if_false, decide_true, decide_false, Bool.not_true, Bool.not_false, Bool.true_and, Bool.false_and, Bool.true_or, Bool.false_or, b2i_t, b2i_f, ite_true, ite_false, not_true_eq_false, not_false_eq_true, reduceCtorEq, decide_eq_true_eq])
    intro v9 ev9
    subst ev9
    refine wp_lor (pc := 42) dX12_heardFrom_42 ?_
    refine wp_lstore_n (pc := 43) dX12_heardFrom_43 (Nat.le_of_ble_eq_true rfl) rfl ?_
    show wp l M_X12_heardFrom (d + 1) 0 0 _ [some (.ref h), none, some (.int x2), some (.long (x3 ||| (if r5 < (mi (h + 12) (Int32.toNatClampNeg x5)) then (0 : Int64) else ((1 : Int64) <<< ((Int32.toInt64 x5) &&& 63))))), none, some (.int x5)] _ 0 0 kd _ _ mr _
    refine wp_iinc (v := (x5 + 1)) (pc := 44) dX12_heardFrom_44 rfl rfl rfl ?_
    show wp l M_X12_heardFrom (d + 1) 0 0 _ [some (.ref h), none, some (.int x2), some (.long (x3 ||| (if r5 < (mi (h + 12) (Int32.toNatClampNeg x5)) then (0 : Int64) else ((1 : Int64) <<< ((Int32.toInt64 x5) &&& 63))))), none, some (.int (x5 + 1))] _ 0 0 kd _ _ mr _
    refine wp_goto (tgt := 10) (pc := 47) dX12_heardFrom_47 (by decide) ?_
    exact wp_less (L' := [some (.ref h), none, some (.int x2), some (.long (x3 ||| (if r5 < (mi (h + 12) (Int32.toNatClampNeg x5)) then (0 : Int64) else ((1 : Int64) <<< ((Int32.toInt64 x5) &&& 63))))), none, some (.int (x5 + 1))]) ⟨rfl, ⟨rfl, ⟨rfl, ⟨rfl, trivial⟩⟩⟩⟩ F
/-- heardFrom(II)J -/
theorem w_X12_heardFrom {l : Launch} {d : Nat} {kd : pm_K} {mr : pm_R} {h : Nat} {x1 : Int32} {x2 : Int32} {mi : pm_I} {ml : pm_L} {K : Int64 → pm_I → pm_L → Prop} (th : TX12s kd mr h)
    (F : wV l M_X12_findCost d [.ref h, .int x1] kd mr mi ml (fun mi2 ml3 => c_X12_heardFrom_10 l (d + 1) kd mr h x2 0 0 mi2 ml3 K)) :
    wL l M_X12_heardFrom (d + 1) [.ref h, .int x1, .int x2] kd mr mi ml K := by
  show wp l M_X12_heardFrom (d + 1) 0 0 0 [some (.ref h), some (.int x1), some (.int x2), none, none, none] [] 0 0 kd mi ml mr _
  refine wp_aload_n (pc := 0) dX12_heardFrom_0 rfl ?_
  refine wp_iload_n (pc := 1) dX12_heardFrom_1 rfl ?_
  refine cvV [.int x1] [] (pc := 2) dX12_heardFrom_2 ml_X12_389 iv_X12_findCost (TX12s_k th) (cl_X12 rfl) rfl rfl (Nat.le_of_ble_eq_true rfl) (Nat.le_of_ble_eq_true rfl) (wV.mono (fun mi2 ml3 F => ?_) F)
  refine wp_lconst (v := 0) (pc := 5) dX12_heardFrom_5 (by decide) ?_
  refine wp_lstore_n (pc := 6) dX12_heardFrom_6 (Nat.le_of_ble_eq_true rfl) rfl ?_
  show wp l M_X12_heardFrom (d + 1) 0 0 _ [some (.ref h), some (.int x1), some (.int x2), some (.long 0), none, none] _ 0 0 kd _ _ mr _
  refine wp_iconst (v := 0) (pc := 7) dX12_heardFrom_7 (by decide) ?_
  refine wp_istore (pc := 8) dX12_heardFrom_8 (Nat.le_of_ble_eq_true rfl) rfl ?_
  show wp l M_X12_heardFrom (d + 1) 0 0 _ [some (.ref h), some (.int x1), some (.int x2), some (.long 0), none, some (.int 0)] _ 0 0 kd _ _ mr _
  exact wp_less (L' := [some (.ref h), none, some (.int x2), some (.long 0), none, some (.int 0)]) ⟨rfl, ⟨rfl, ⟨rfl, ⟨rfl, trivial⟩⟩⟩⟩ F
/-- everybody()I -/
theorem w_X12_everybody {l : Launch} {d : Nat} {kd : pm_K} {mr : pm_R} {h : Nat}  {mi : pm_I} {ml : pm_L} {K : Int32 → pm_I → pm_L → Prop} (th : TX12s kd mr h)
    (F : K (((1 : Int32) <<< ((mi h 28) &&& 31)) - 1) mi ml) :
    wI l M_X12_everybody d [.ref h] kd mr mi ml K := by
  show wp l M_X12_everybody d 0 0 0 [some (.ref h)] [] 0 0 kd mi ml mr _
  refine wp_iconst (v := 1) (pc := 0) dX12_everybody_0 (by decide) ?_
  refine wp_aload_n (pc := 1) dX12_everybody_1 rfl ?_
  refine wp_getI (pc := 2) dX12_everybody_2 fl_X12_334 rfl (TX12s_k th) ?_
  refine wp_ishl (pc := 5) dX12_everybody_5 ?_
  refine wp_iconst (v := 1) (pc := 6) dX12_everybody_6 (by decide) ?_
  refine wp_isub (pc := 7) dX12_everybody_7 ?_
  exact r_I (pc := 8) dX12_everybody_8 rfl F
def c_X12_heardBy_35 (l : Launch) (d : Nat) (kd : pm_K) (mr : pm_R) (h : Nat) (x1 : Int32) (x4 : Int32) (s0 : Int64) (s1 : Int64) (mi : pm_I) (ml : pm_L) (K : Int64 → pm_I → pm_L → Prop) : Prop := wp l M_X12_heardBy d 0 0 35 [some (.ref h), some (.int x1), none, none, some (.int x4)] [.long s0, .long s1] 0 0 kd mi ml mr (qL kd mr K)
def c_X12_heardBy_5 (l : Launch) (d : Nat) (kd : pm_K) (mr : pm_R) (h : Nat) (x1 : Int32) (x2 : Int64) (x4 : Int32) (mi : pm_I) (ml : pm_L) (K : Int64 → pm_I → pm_L → Prop) : Prop := wp l M_X12_heardBy d 0 0 5 [some (.ref h), some (.int x1), some (.long x2), none, some (.int x4)] [] 0 0 kd mi ml mr (qL kd mr K)
theorem w_X12_heardBy_5 {l : Launch} {d : Nat} {kd : pm_K} {mr : pm_R} {h : Nat} {x1 : Int32} {x2 : Int64} {x4 : Int32} {mi : pm_I} {ml : pm_L} {K : Int64 → pm_I → pm_L → Prop} (th : TX12s kd mr h)
    (F : (((mi h 28) ≤ x4 → K x2 mi ml) ∧ (¬ (mi h 28) ≤ x4 → wB l M_X12_has d [.int x1, .int x4] kd mr mi ml (fun r2 mi3 ml4 => ((r2 = false → c_X12_heardBy_35 l (d + 1) kd mr h x1 x4 0 x2 mi3 ml4 K) ∧ (r2 = true → vp_in x4 64 ∧ c_X12_heardBy_35 l (d + 1) kd mr h x1 x4 (ml4 (h + 17) (Int32.toNatClampNeg x4)) x2 mi3 ml4 K)))))) :
    c_X12_heardBy_5 l (d + 1) kd mr h x1 x2 x4 mi ml K := by
  show wp l M_X12_heardBy (d + 1) 0 0 5 [some (.ref h), some (.int x1), some (.long x2), none, some (.int x4)] [] 0 0 kd mi ml mr _
  refine wp_iload (pc := 5) dX12_heardBy_5 rfl ?_
  refine wp_aload_n (pc := 7) dX12_heardBy_7 rfl ?_
  refine wp_getI (pc := 8) dX12_heardBy_8 fl_X12_334 rfl (TX12s_k th) ?_
  refine wp_icmp_ge (tgt := 43) (pc := 11) dX12_heardBy_11 (by decide) (fun c1 => ?_) (fun c1 => ?_)
  · have F := F.1 c1
    refine wp_lload_n (pc := 43) dX12_heardBy_43 rfl ?_
    exact r_L (pc := 44) dX12_heardBy_44 rfl F
  · have F := F.2 c1
    refine wp_lload_n (pc := 14) dX12_heardBy_14 rfl ?_
    refine wp_iload_n (pc := 15) dX12_heardBy_15 rfl ?_
    refine wp_iload (pc := 16) dX12_heardBy_16 rfl ?_
    refine csB [.int x1, .int x4] [.long x2] (pc := 18) dX12_heardBy_18 ml_X12_111 st_X12_has rfl rfl (Nat.le_of_ble_eq_true rfl) (Nat.le_of_ble_eq_true rfl) (wB.mono (fun r2 mi3 ml4 F => ?_) F)
    refine b_eq (tgt := 34) (pc := 21) dX12_heardBy_21 (by decide) (fun c5 => ?_) (fun c5 => ?_)
    · have F := F.1 c5
      refine wp_lconst (v := 0) (pc := 34) dX12_heardBy_34 (by decide) ?_
      exact wp_less (L' := [some (.ref h), some (.int x1), none, none, some (.int x4)]) ⟨rfl, ⟨rfl, ⟨rfl, trivial⟩⟩⟩ F
    · have F := F.2 c5
      refine wp_aload_n (pc := 24) dX12_heardBy_24 rfl ?_
      refine wp_getR (pc := 25) dX12_heardBy_25 fl_X12_59 rfl (TX12s_k th) (TX12s_r39 th) ?_
      refine wp_iload (pc := 28) dX12_heardBy_28 rfl ?_
      refine wp_lald (pc := 30) dX12_heardBy_30 (TX12s_a39 th) F.1 ?_
      have F := F.2
      refine wp_goto (tgt := 35) (pc := 31) dX12_heardBy_31 (by decide) ?_
      exact wp_less (L' := [some (.ref h), some (.int x1), none, none, some (.int x4)]) ⟨rfl, ⟨rfl, ⟨rfl, trivial⟩⟩⟩ F
theorem w_X12_heardBy_35 {l : Launch} {d : Nat} {kd : pm_K} {mr : pm_R} {h : Nat} {x1 : Int32} {x4 : Int32} {s0 : Int64} {s1 : Int64} {mi : pm_I} {ml : pm_L} {K : Int64 → pm_I → pm_L → Prop} (th : TX12s kd mr h)
    (F : c_X12_heardBy_5 l (d + 1) kd mr h x1 (s1 ||| s0) (x4 + 1) mi ml K) :
    c_X12_heardBy_35 l (d + 1) kd mr h x1 x4 s0 s1 mi ml K := by
  show wp l M_X12_heardBy (d + 1) 0 0 35 [some (.ref h), some (.int x1), none, none, some (.int x4)] [.long s0, .long s1] 0 0 kd mi ml mr _
  refine wp_lor (pc := 35) dX12_heardBy_35 ?_
  refine wp_lstore_n (pc := 36) dX12_heardBy_36 (Nat.le_of_ble_eq_true rfl) rfl ?_
  show wp l M_X12_heardBy (d + 1) 0 0 _ [some (.ref h), some (.int x1), some (.long (s1 ||| s0)), none, some (.int x4)] _ 0 0 kd _ _ mr _
  refine wp_iinc (v := (x4 + 1)) (pc := 37) dX12_heardBy_37 rfl rfl rfl ?_
  show wp l M_X12_heardBy (d + 1) 0 0 _ [some (.ref h), some (.int x1), some (.long (s1 ||| s0)), none, some (.int (x4 + 1))] _ 0 0 kd _ _ mr _
  refine wp_goto (tgt := 5) (pc := 40) dX12_heardBy_40 (by decide) ?_
  exact wp_less (L' := [some (.ref h), some (.int x1), some (.long (s1 ||| s0)), none, some (.int (x4 + 1))]) ⟨rfl, ⟨rfl, ⟨rfl, ⟨rfl, trivial⟩⟩⟩⟩ F
/-- heardBy(I)J -/
theorem w_X12_heardBy {l : Launch} {d : Nat} {kd : pm_K} {mr : pm_R} {h : Nat} {x1 : Int32} {mi : pm_I} {ml : pm_L} {K : Int64 → pm_I → pm_L → Prop} (th : TX12s kd mr h)
    (F : c_X12_heardBy_5 l (d + 1) kd mr h x1 0 0 mi ml K) :
    wL l M_X12_heardBy (d + 1) [.ref h, .int x1] kd mr mi ml K := by
  show wp l M_X12_heardBy (d + 1) 0 0 0 [some (.ref h), some (.int x1), none, none, none] [] 0 0 kd mi ml mr _
  refine wp_lconst (v := 0) (pc := 0) dX12_heardBy_0 (by decide) ?_
  refine wp_lstore_n (pc := 1) dX12_heardBy_1 (Nat.le_of_ble_eq_true rfl) rfl ?_
  show wp l M_X12_heardBy (d + 1) 0 0 _ [some (.ref h), some (.int x1), some (.long 0), none, none] _ 0 0 kd _ _ mr _
  refine wp_iconst (v := 0) (pc := 2) dX12_heardBy_2 (by decide) ?_
  refine wp_istore (pc := 3) dX12_heardBy_3 (Nat.le_of_ble_eq_true rfl) rfl ?_
  show wp l M_X12_heardBy (d + 1) 0 0 _ [some (.ref h), some (.int x1), some (.long 0), none, some (.int 0)] _ 0 0 kd _ _ mr _
  exact wp_less (L' := [some (.ref h), some (.int x1), some (.long 0), none, some (.int 0)]) ⟨rfl, ⟨rfl, ⟨rfl, ⟨rfl, trivial⟩⟩⟩⟩ F
def c_X12_open_4 (l : Launch) (d : Nat) (kd : pm_K) (mr : pm_R) (h : Nat) (x1 : Int64) (x3 : Int32) (mi : pm_I) (ml : pm_L) (K : Int64 → pm_I → pm_L → Prop) : Prop := wp l M_X12_open d 0 0 4 [some (.ref h), some (.long x1), none, some (.int x3)] [] 0 0 kd mi ml mr (qL kd mr K)
theorem w_X12_open_4 {l : Launch} {d : Nat} {kd : pm_K} {mr : pm_R} {h : Nat} {x1 : Int64} {x3 : Int32} {mi : pm_I} {ml : pm_L} {K : Int64 → pm_I → pm_L → Prop} (th : TX12s kd mr h)
    (F : (((mi h 27) ≤ x3 → K x1 mi ml) ∧ (¬ (mi h 27) ≤ x3 → wB l M_X12_isWall d [.ref h, .int x3] kd mr mi ml (fun r2 mi3 ml4 => c_X12_open_4 l (d + 1) kd mr h (x1 ||| (if r2 = true then (0 : Int64) else ((1 : Int64) <<< ((Int32.toInt64 x3) &&& 63)))) (x3 + 1) mi3 ml4 K)))) :
    c_X12_open_4 l (d + 1) kd mr h x1 x3 mi ml K := by
  show wp l M_X12_open (d + 1) 0 0 4 [some (.ref h), some (.long x1), none, some (.int x3)] [] 0 0 kd mi ml mr _
  refine wp_iload_n (pc := 4) dX12_open_4 rfl ?_
  refine wp_aload_n (pc := 5) dX12_open_5 rfl ?_
  refine wp_getI (pc := 6) dX12_open_6 fl_X12_331 rfl (TX12s_k th) ?_
  refine wp_icmp_ge (tgt := 36) (pc := 9) dX12_open_9 (by decide) (fun c1 => ?_) (fun c1 => ?_)
  · have F := F.1 c1
    refine wp_lload_n (pc := 36) dX12_open_36 rfl ?_
    exact r_L (pc := 37) dX12_open_37 rfl F
  · have F := F.2 c1
    refine wp_lload_n (pc := 12) dX12_open_12 rfl ?_
    refine wp_aload_n (pc := 13) dX12_open_13 rfl ?_
    refine wp_iload_n (pc := 14) dX12_open_14 rfl ?_
    refine cvB [.int x3] [.long x1] (pc := 15) dX12_open_15 ml_X12_343 iv_X12_isWall (TX12s_k th) (cl_X12 rfl) rfl rfl (Nat.le_of_ble_eq_true rfl) (Nat.le_of_ble_eq_true rfl) (wB.mono (fun r2 mi3 ml4 F => ?_) F)
    suffices J5 : ∀ v6 : Int64, v6 = (if r2 = true then (0 : Int64) else ((1 : Int64) <<< ((Int32.toInt64 x3) &&& 63))) → wp l M_X12_open (d + 1) 0 0 28 [some (.ref h), some (.long x1), none, some (.int x3)] [.long v6, .long x1] 0 0 kd mi3 ml4 mr _ by
        refine b_eq (tgt := 25) (pc := 18) dX12_open_18 (by decide) (fun c7 => ?_) (fun c7 => ?_)
        · refine wp_lconst (v := 1) (pc := 25) dX12_open_25 (by decide) ?_
          refine wp_iload_n (pc := 26) dX12_open_26 rfl ?_
          refine wp_lshl (pc := 27) dX12_open_27 ?_
          exact J5 _ (by simp only [c7, if_true, if_false, decide_true, decide_false, Bool.not_true, Bool.not_false, Bool.true_and, Bool.false_and, Bool.true_or, Bool.false_or, b2i_t, b2i_f, ite_true, ite_false, not_true_eq_false, not_false_eq_true, reduceCtorEq, decide_eq_true_eq])
        · refine wp_lconst (v := 0) (pc := 21) dX12_open_21 (by decide) ?_
          refine wp_goto (tgt := 28) (pc := 22) dX12_open_22 (by decide) ?_
          exact J5 _ (by simp only [c7, if_true, if_false, decide_true, decide_false, Bool.not_true, Bool.not_false, Bool.true_and, Bool.false_and, Bool.true_or, Bool.false_or, b2i_t, b2i_f, ite_true, ite_false, not_true_eq_false, not_false_eq_true, reduceCtorEq, decide_eq_true_eq])
    intro v6 ev6
    subst ev6
    refine wp_lor (pc := 28) dX12_open_28 ?_
    refine wp_lstore_n (pc := 29) dX12_open_29 (Nat.le_of_ble_eq_true rfl) rfl ?_
    show wp l M_X12_open (d + 1) 0 0 _ [some (.ref h), some (.long (x1 ||| (if r2 = true then (0 : Int64) else ((1 : Int64) <<< ((Int32.toInt64 x3) &&& 63))))), none, some (.int x3)] _ 0 0 kd _ _ mr _
    refine wp_iinc (v := (x3 + 1)) (pc := 30) dX12_open_30 rfl rfl rfl ?_
    show wp l M_X12_open (d + 1) 0 0 _ [some (.ref h), some (.long (x1 ||| (if r2 = true then (0 : Int64) else ((1 : Int64) <<< ((Int32.toInt64 x3) &&& 63))))), none, some (.int (x3 + 1))] _ 0 0 kd _ _ mr _
    refine wp_goto (tgt := 4) (pc := 33) dX12_open_33 (by decide) ?_
    exact wp_less (L' := [some (.ref h), some (.long (x1 ||| (if r2 = true then (0 : Int64) else ((1 : Int64) <<< ((Int32.toInt64 x3) &&& 63))))), none, some (.int (x3 + 1))]) ⟨rfl, ⟨rfl, ⟨rfl, trivial⟩⟩⟩ F
/-- open()J -/
theorem w_X12_open {l : Launch} {d : Nat} {kd : pm_K} {mr : pm_R} {h : Nat}  {mi : pm_I} {ml : pm_L} {K : Int64 → pm_I → pm_L → Prop} (th : TX12s kd mr h)
    (F : c_X12_open_4 l (d + 1) kd mr h 0 0 mi ml K) :
    wL l M_X12_open (d + 1) [.ref h] kd mr mi ml K := by
  show wp l M_X12_open (d + 1) 0 0 0 [some (.ref h), none, none, none] [] 0 0 kd mi ml mr _
  refine wp_lconst (v := 0) (pc := 0) dX12_open_0 (by decide) ?_
  refine wp_lstore_n (pc := 1) dX12_open_1 (Nat.le_of_ble_eq_true rfl) rfl ?_
  show wp l M_X12_open (d + 1) 0 0 _ [some (.ref h), some (.long 0), none, none] _ 0 0 kd _ _ mr _
  refine wp_iconst (v := 0) (pc := 2) dX12_open_2 (by decide) ?_
  refine wp_istore_n (pc := 3) dX12_open_3 (Nat.le_of_ble_eq_true rfl) rfl ?_
  show wp l M_X12_open (d + 1) 0 0 _ [some (.ref h), some (.long 0), none, some (.int 0)] _ 0 0 kd _ _ mr _
  exact wp_less (L' := [some (.ref h), some (.long 0), none, some (.int 0)]) ⟨rfl, ⟨rfl, ⟨rfl, trivial⟩⟩⟩ F
def c_X12_ones_4 (l : Launch) (d : Nat) (kd : pm_K) (mr : pm_R)  (x0 : Int32) (x1 : Int32) (x2 : Int32) (mi : pm_I) (ml : pm_L) (K : Int32 → pm_I → pm_L → Prop) : Prop := wp l M_X12_ones d 0 0 4 [some (.int x0), some (.int x1), some (.int x2)] [] 0 0 kd mi ml mr (qI kd mr K)
theorem w_X12_ones_4 {l : Launch} {d : Nat} {kd : pm_K} {mr : pm_R}  {x0 : Int32} {x1 : Int32} {x2 : Int32} {mi : pm_I} {ml : pm_L} {K : Int32 → pm_I → pm_L → Prop} 
    (F : ((8 ≤ x2 → K x1 mi ml) ∧ (¬ 8 ≤ x2 → wB l M_X12_has d [.int x0, .int x2] kd mr mi ml (fun r2 mi3 ml4 => c_X12_ones_4 l (d + 1) kd mr  x0 (x1 + (b2i (decide (r2 = true)))) (x2 + 1) mi3 ml4 K)))) :
    c_X12_ones_4 l (d + 1) kd mr x0 x1 x2 mi ml K := by
  show wp l M_X12_ones (d + 1) 0 0 4 [some (.int x0), some (.int x1), some (.int x2)] [] 0 0 kd mi ml mr _
  refine wp_iload_n (pc := 4) dX12_ones_4 rfl ?_
  refine wp_bipush (v := 8) (pc := 5) dX12_ones_5 (by decide) ?_
  refine wp_icmp_ge (tgt := 32) (pc := 7) dX12_ones_7 (by decide) (fun c1 => ?_) (fun c1 => ?_)
  · have F := F.1 c1
    refine wp_iload_n (pc := 32) dX12_ones_32 rfl ?_
    exact r_I (pc := 33) dX12_ones_33 rfl F
  · have F := F.2 c1
    refine wp_iload_n (pc := 10) dX12_ones_10 rfl ?_
    refine wp_iload_n (pc := 11) dX12_ones_11 rfl ?_
    refine wp_iload_n (pc := 12) dX12_ones_12 rfl ?_
    refine csB [.int x0, .int x2] [.int x1] (pc := 13) dX12_ones_13 ml_X12_111 st_X12_has rfl rfl (Nat.le_of_ble_eq_true rfl) (Nat.le_of_ble_eq_true rfl) (wB.mono (fun r2 mi3 ml4 F => ?_) F)
    suffices J5 : ∀ v6 : Int32, v6 = (b2i (decide (r2 = true))) → wp l M_X12_ones (d + 1) 0 0 24 [some (.int x0), some (.int x1), some (.int x2)] [.int v6, .int x1] 0 0 kd mi3 ml4 mr _ by
        refine b_eq (tgt := 23) (pc := 16) dX12_ones_16 (by decide) (fun c7 => ?_) (fun c7 => ?_)
        · refine wp_iconst (v := 0) (pc := 23) dX12_ones_23 (by decide) ?_
          exact J5 _ (by simp only [c7, if_true, if_false, decide_true, decide_false, Bool.not_true, Bool.not_false, Bool.true_and, Bool.false_and, Bool.true_or, Bool.false_or, b2i_t, b2i_f, ite_true, ite_false, not_true_eq_false, not_false_eq_true, reduceCtorEq, decide_eq_true_eq])
        · refine wp_iconst (v := 1) (pc := 19) dX12_ones_19 (by decide) ?_
          refine wp_goto (tgt := 24) (pc := 20) dX12_ones_20 (by decide) ?_
          exact J5 _ (by simp only [c7, if_true, if_false, decide_true, decide_false, Bool.not_true, Bool.not_false, Bool.true_and, Bool.false_and, Bool.true_or, Bool.false_or, b2i_t, b2i_f, ite_true, ite_false, not_true_eq_false, not_false_eq_true, reduceCtorEq, decide_eq_true_eq])
    intro v6 ev6
    subst ev6
    refine wp_iadd (pc := 24) dX12_ones_24 ?_
    refine wp_istore_n (pc := 25) dX12_ones_25 (Nat.le_of_ble_eq_true rfl) rfl ?_
    show wp l M_X12_ones (d + 1) 0 0 _ [some (.int x0), some (.int (x1 + (b2i (decide (r2 = true))))), some (.int x2)] _ 0 0 kd _ _ mr _
    refine wp_iinc (v := (x2 + 1)) (pc := 26) dX12_ones_26 rfl rfl rfl ?_
    show wp l M_X12_ones (d + 1) 0 0 _ [some (.int x0), some (.int (x1 + (b2i (decide (r2 = true))))), some (.int (x2 + 1))] _ 0 0 kd _ _ mr _
    refine wp_goto (tgt := 4) (pc := 29) dX12_ones_29 (by decide) ?_
    exact wp_less (L' := [some (.int x0), some (.int (x1 + (b2i (decide (r2 = true))))), some (.int (x2 + 1))]) ⟨rfl, ⟨rfl, ⟨rfl, trivial⟩⟩⟩ F
/-- ones(I)I -/
theorem w_X12_ones {l : Launch} {d : Nat} {kd : pm_K} {mr : pm_R}  {x0 : Int32} {mi : pm_I} {ml : pm_L} {K : Int32 → pm_I → pm_L → Prop} 
    (F : c_X12_ones_4 l (d + 1) kd mr  x0 0 0 mi ml K) :
    wI l M_X12_ones (d + 1) [.int x0] kd mr mi ml K := by
  show wp l M_X12_ones (d + 1) 0 0 0 [some (.int x0), none, none] [] 0 0 kd mi ml mr _
  refine wp_iconst (v := 0) (pc := 0) dX12_ones_0 (by decide) ?_
  refine wp_istore_n (pc := 1) dX12_ones_1 (Nat.le_of_ble_eq_true rfl) rfl ?_
  show wp l M_X12_ones (d + 1) 0 0 _ [some (.int x0), some (.int 0), none] _ 0 0 kd _ _ mr _
  refine wp_iconst (v := 0) (pc := 2) dX12_ones_2 (by decide) ?_
  refine wp_istore_n (pc := 3) dX12_ones_3 (Nat.le_of_ble_eq_true rfl) rfl ?_
  show wp l M_X12_ones (d + 1) 0 0 _ [some (.int x0), some (.int 0), some (.int 0)] _ 0 0 kd _ _ mr _
  exact wp_less (L' := [some (.int x0), some (.int 0), some (.int 0)]) ⟨rfl, ⟨rfl, ⟨rfl, trivial⟩⟩⟩ F
/-- fresh(IIII)I -/
theorem w_X12_fresh {l : Launch} {d : Nat} {kd : pm_K} {mr : pm_R} {h : Nat} {x1 : Int32} {x2 : Int32} {x3 : Int32} {x4 : Int32} {mi : pm_I} {ml : pm_L} {K : Int32 → pm_I → pm_L → Prop} (th : TX12s kd mr h)
    (F : wB l M_X12_hand d [.ref h, .int x1] kd mr (pm_up mi h 0 0) ml (fun r1 mi2 ml3 => ((r1 = false → K (-1) mi2 ml3) ∧ (r1 = true → wB l M_X12_in d [.int x2, .int 0, .int 3] kd mr mi2 ml3 (fun r5 mi6 ml7 => ((r5 = false → K (-1) mi6 ml7) ∧ (r5 = true → wB l M_X12_in d [.int x3, .int 1, .int 2] kd mr mi6 ml7 (fun r9 mi10 ml11 => ((r9 = false → K (-1) mi10 ml11) ∧ (r9 = true → wB l M_X12_in d [.int x4, .int 0, .int x3] kd mr mi10 ml11 (fun r13 mi14 ml15 => ((r13 = true → wI l M_X12_findNew d [.ref h, .int x2, .int x3] kd mr mi14 ml15 (fun r17 mi18 ml19 => K (if r17 = (-1) then r17 else (if x4 = 0 then r17 else (if x4 = 1 then (mi18 h 41) else (mi18 h 42)))) mi18 ml19)) ∧ (r13 = false → K (-1) mi14 ml15))))))))))))) :
    wI l M_X12_fresh (d + 1) [.ref h, .int x1, .int x2, .int x3, .int x4] kd mr mi ml K := by
  show wp l M_X12_fresh (d + 1) 0 0 0 [some (.ref h), some (.int x1), some (.int x2), some (.int x3), some (.int x4), none] [] 0 0 kd mi ml mr _
  refine wp_aload_n (pc := 0) dX12_fresh_0 rfl ?_
  refine wp_iconst (v := 0) (pc := 1) dX12_fresh_1 (by decide) ?_
  refine wp_putI (pc := 2) dX12_fresh_2 fl_X12_107 rfl rfl (TX12s_k th) ?_
  refine wp_aload_n (pc := 5) dX12_fresh_5 rfl ?_
  refine wp_iload_n (pc := 6) dX12_fresh_6 rfl ?_
  refine cvB [.int x1] [] (pc := 7) dX12_fresh_7 ml_X12_346 iv_X12_hand (TX12s_k th) (cl_X12 rfl) rfl rfl (Nat.le_of_ble_eq_true rfl) (Nat.le_of_ble_eq_true rfl) (wB.mono (fun r1 mi2 ml3 F => ?_) F)
  refine b_eq (tgt := 41) (pc := 10) dX12_fresh_10 (by decide) (fun c4 => ?_) (fun c4 => ?_)
  · have F := F.1 c4
    refine wp_iconst (v := -1) (pc := 41) dX12_fresh_41 (by decide) ?_
    exact r_I (pc := 42) dX12_fresh_42 rfl F
  · have F := F.2 c4
    refine wp_iload_n (pc := 13) dX12_fresh_13 rfl ?_
    refine wp_iconst (v := 0) (pc := 14) dX12_fresh_14 (by decide) ?_
    refine wp_iconst (v := 3) (pc := 15) dX12_fresh_15 (by decide) ?_
    refine csB [.int x2, .int 0, .int 3] [] (pc := 16) dX12_fresh_16 ml_X12_119 st_X12_in rfl rfl (Nat.le_of_ble_eq_true rfl) (Nat.le_of_ble_eq_true rfl) (wB.mono (fun r5 mi6 ml7 F => ?_) F)
    refine b_eq (tgt := 41) (pc := 19) dX12_fresh_19 (by decide) (fun c8 => ?_) (fun c8 => ?_)
    · have F := F.1 c8
      refine wp_iconst (v := -1) (pc := 41) dX12_fresh_41 (by decide) ?_
      exact r_I (pc := 42) dX12_fresh_42 rfl F
    · have F := F.2 c8
      refine wp_iload_n (pc := 22) dX12_fresh_22 rfl ?_
      refine wp_iconst (v := 1) (pc := 23) dX12_fresh_23 (by decide) ?_
      refine wp_iconst (v := 2) (pc := 24) dX12_fresh_24 (by decide) ?_
      refine csB [.int x3, .int 1, .int 2] [] (pc := 25) dX12_fresh_25 ml_X12_119 st_X12_in rfl rfl (Nat.le_of_ble_eq_true rfl) (Nat.le_of_ble_eq_true rfl) (wB.mono (fun r9 mi10 ml11 F => ?_) F)
      refine b_eq (tgt := 41) (pc := 28) dX12_fresh_28 (by decide) (fun c12 => ?_) (fun c12 => ?_)
      · have F := F.1 c12
        refine wp_iconst (v := -1) (pc := 41) dX12_fresh_41 (by decide) ?_
        exact r_I (pc := 42) dX12_fresh_42 rfl F
      · have F := F.2 c12
        refine wp_iload (pc := 31) dX12_fresh_31 rfl ?_
        refine wp_iconst (v := 0) (pc := 33) dX12_fresh_33 (by decide) ?_
        refine wp_iload_n (pc := 34) dX12_fresh_34 rfl ?_
        refine csB [.int x4, .int 0, .int x3] [] (pc := 35) dX12_fresh_35 ml_X12_119 st_X12_in rfl rfl (Nat.le_of_ble_eq_true rfl) (Nat.le_of_ble_eq_true rfl) (wB.mono (fun r13 mi14 ml15 F => ?_) F)
        refine b_ne (tgt := 43) (pc := 38) dX12_fresh_38 (by decide) (fun c16 => ?_) (fun c16 => ?_)
        · have F := F.1 c16
          refine wp_aload_n (pc := 43) dX12_fresh_43 rfl ?_
          refine wp_iload_n (pc := 44) dX12_fresh_44 rfl ?_
          refine wp_iload_n (pc := 45) dX12_fresh_45 rfl ?_
          refine cvI [.int x2, .int x3] [] (pc := 46) dX12_fresh_46 ml_X12_459 iv_X12_findNew (TX12s_k th) (cl_X12 rfl) rfl rfl (Nat.le_of_ble_eq_true rfl) (Nat.le_of_ble_eq_true rfl) (wI.mono (fun r17 mi18 ml19 F => ?_) F)
          refine wp_istore (pc := 49) dX12_fresh_49 (Nat.le_of_ble_eq_true rfl) rfl ?_
          show wp l M_X12_fresh (d + 1) 0 0 _ [some (.ref h), some (.int x1), some (.int x2), some (.int x3), some (.int x4), some (.int r17)] _ 0 0 kd _ _ mr _
          refine wp_iload (pc := 51) dX12_fresh_51 rfl ?_
          refine wp_iconst (v := -1) (pc := 53) dX12_fresh_53 (by decide) ?_
          suffices J20 : ∀ v21 : Int32, v21 = (if r17 = (-1) then r17 else (if x4 = 0 then r17 else (if x4 = 1 then (mi18 h 41) else (mi18 h 42)))) → wp l M_X12_fresh (d + 1) 0 0 84 [some (.ref h), some (.int x1), some (.int x2), some (.int x3), some (.int x4), some (.int r17)] [.int v21] 0 0 kd mi18 ml19 mr _ by
              refine wp_icmp_eq (tgt := 62) (pc := 54) dX12_fresh_54 (by decide) (fun c22 => ?_) (fun c22 => ?_)
              · refine wp_iload (pc := 62) dX12_fresh_62 rfl ?_
                refine wp_goto (tgt := 84) (pc := 64) dX12_fresh_64 (by decide) ?_
                exact J20 _ (by simp only [eq_true c22, if_true, if_false, decide_true, decide_false, Bool.not_true, Bool.not_false, Bool.true_and, Bool.false_and, Bool.true_or, Bool.false_or, b2i_t, b2i_f, ite_true, ite_false, not_true_eq_false, not_false_eq_true, reduceCtorEq, decide_eq_true_eq])
              · refine wp_iload (pc := 57) dX12_fresh_57 rfl ?_
                refine wp_if_ne (tgt := 67) (pc := 59) dX12_fresh_59 (by decide) (fun c23 => ?_) (fun c23 => ?_)
                · refine wp_iload (pc := 67) dX12_fresh_67 rfl ?_
                  refine wp_iconst (v := 1) (pc := 69) dX12_fresh_69 (by decide) ?_
                  refine wp_icmp_ne (tgt := 80) (pc := 70) dX12_fresh_70 (by decide) (fun c24 => ?_) (fun c24 => ?_)
                  · refine wp_aload_n (pc := 80) dX12_fresh_80 rfl ?_
                    refine wp_getI (pc := 81) dX12_fresh_81 fl_X12_456 rfl (TX12s_k th) ?_
                    exact J20 _ (by simp only [c22, c23, c24, if_true, if_false, decide_true, decide_false, Bool.not_true, Bool.not_false, Bool.true_and, Bool.false_and, Bool.true_or, Bool.false_or, b2i_t, b2i_f, ite_true, ite_false, not_true_eq_false, not_false_eq_true, reduceCtorEq, decide_eq_true_eq])
                  · refine wp_aload_n (pc := 73) dX12_fresh_73 rfl ?_
                    refine wp_getI (pc := 74) dX12_fresh_74 fl_X12_453 rfl (TX12s_k th) ?_
                    refine wp_goto (tgt := 84) (pc := 77) dX12_fresh_77 (by decide) ?_
                    exact J20 _ (by simp only [c22, c23, eq_true c24, if_true, if_false, decide_true, decide_false, Bool.not_true, Bool.not_false, Bool.true_and, Bool.false_and, Bool.true_or, Bool.false_or, b2i_t, b2i_f, ite_true, ite_false, not_true_eq_false, not_false_eq_true, reduceCtorEq, decide_eq_true_eq])
                · refine wp_iload (pc := 62) dX12_fresh_62 rfl ?_
                  refine wp_goto (tgt := 84) (pc := 64) dX12_fresh_64 (by decide) ?_
                  exact J20 _ (by simp only [c22, eq_true c23, if_true, if_false, decide_true, decide_false, Bool.not_true, Bool.not_false, Bool.true_and, Bool.false_and, Bool.true_or, Bool.false_or, b2i_t, b2i_f, ite_true, ite_false, not_true_eq_false, not_false_eq_true, reduceCtorEq, decide_eq_true_eq])
          intro v21 ev21
          subst ev21
          exact r_I (pc := 84) dX12_fresh_84 rfl F
        · have F := F.2 c16
          refine wp_iconst (v := -1) (pc := 41) dX12_fresh_41 (by decide) ?_
          exact r_I (pc := 42) dX12_fresh_42 rfl F
def c_X12_findNew_205 (l : Launch) (d : Nat) (kd : pm_K) (mr : pm_R) (h : Nat) (x2 : Int32) (x5 : Int32) (x6 : Int32) (mi : pm_I) (ml : pm_L) (K : Int32 → pm_I → pm_L → Prop) : Prop := wp l M_X12_findNew d 0 0 205 [some (.ref h), none, some (.int x2), none, none, some (.int x5), some (.int x6), none, none] [] 0 0 kd mi ml mr (qI kd mr K)
def c_X12_findNew_126 (l : Launch) (d : Nat) (kd : pm_K) (mr : pm_R) (h : Nat) (x2 : Int32) (x5 : Int32) (x6 : Int32) (x7 : Int32) (mi : pm_I) (ml : pm_L) (K : Int32 → pm_I → pm_L → Prop) : Prop := wp l M_X12_findNew d 0 0 126 [some (.ref h), none, some (.int x2), none, none, some (.int x5), some (.int x6), some (.int x7), none] [] 0 0 kd mi ml mr (qI kd mr K)
def c_X12_findNew_148 (l : Launch) (d : Nat) (kd : pm_K) (mr : pm_R) (h : Nat) (x2 : Int32) (x5 : Int32) (x6 : Int32) (x7 : Int32) (s0 : Int32) (mi : pm_I) (ml : pm_L) (K : Int32 → pm_I → pm_L → Prop) : Prop := wp l M_X12_findNew d 0 0 148 [some (.ref h), none, some (.int x2), none, none, some (.int x5), some (.int x6), some (.int x7), none] [.int s0] 0 0 kd mi ml mr (qI kd mr K)
def c_X12_findNew_108 (l : Launch) (d : Nat) (kd : pm_K) (mr : pm_R) (h : Nat) (x2 : Int32) (x5 : Int32) (x6 : Int32) (x7 : Int32) (mi : pm_I) (ml : pm_L) (K : Int32 → pm_I → pm_L → Prop) : Prop := wp l M_X12_findNew d 0 0 108 [some (.ref h), none, some (.int x2), none, none, some (.int x5), some (.int x6), some (.int x7), none] [] 0 0 kd mi ml mr (qI kd mr K)
def c_X12_findNew_87 (l : Launch) (d : Nat) (kd : pm_K) (mr : pm_R) (h : Nat) (x2 : Int32) (x5 : Int32) (x6 : Int32) (x7 : Int32) (mi : pm_I) (ml : pm_L) (K : Int32 → pm_I → pm_L → Prop) : Prop := wp l M_X12_findNew d 0 0 87 [some (.ref h), none, some (.int x2), none, none, some (.int x5), some (.int x6), some (.int x7), none] [] 0 0 kd mi ml mr (qI kd mr K)
def c_X12_findNew_62 (l : Launch) (d : Nat) (kd : pm_K) (mr : pm_R) (h : Nat) (x2 : Int32) (x5 : Int32) (x6 : Int32) (mi : pm_I) (ml : pm_L) (K : Int32 → pm_I → pm_L → Prop) : Prop := wp l M_X12_findNew d 0 0 62 [some (.ref h), none, some (.int x2), none, none, some (.int x5), some (.int x6), none, none] [] 0 0 kd mi ml mr (qI kd mr K)
def c_X12_findNew_25 (l : Launch) (d : Nat) (kd : pm_K) (mr : pm_R) (h : Nat) (x1 : Int32) (x2 : Int32) (x3 : Int64) (x5 : Int32) (mi : pm_I) (ml : pm_L) (K : Int32 → pm_I → pm_L → Prop) : Prop := wp l M_X12_findNew d 0 0 25 [some (.ref h), some (.int x1), some (.int x2), some (.long x3), none, some (.int x5), none, none, none] [] 0 0 kd mi ml mr (qI kd mr K)
theorem w_X12_findNew_25 {l : Launch} {d : Nat} {kd : pm_K} {mr : pm_R} {h : Nat} {x1 : Int32} {x2 : Int32} {x3 : Int64} {x5 : Int32} {mi : pm_I} {ml : pm_L} {K : Int32 → pm_I → pm_L → Prop} (th : TX12s kd mr h)
    (F : (((mi h 27) ≤ x5 → c_X12_findNew_62 l (d + 1) kd mr h x2 (-1) 0 mi ml K) ∧ (¬ (mi h 27) ≤ x5 → wL l M_X12_heardFrom d [.ref h, .int x5, .int x1] kd mr mi ml (fun r14 mi15 ml16 => vp_in x5 64 ∧ c_X12_findNew_25 l (d + 1) kd mr h x1 x2 x3 (x5 + 1) mi15 (pm_up ml16 (h + 18) (Int32.toNatClampNeg x5) (r14 &&& x3)) K)))) :
    c_X12_findNew_25 l (d + 1) kd mr h x1 x2 x3 x5 mi ml K := by
  show wp l M_X12_findNew (d + 1) 0 0 25 [some (.ref h), some (.int x1), some (.int x2), some (.long x3), none, some (.int x5), none, none, none] [] 0 0 kd mi ml mr _
  refine wp_iload (pc := 25) dX12_findNew_25 rfl ?_
  refine wp_aload_n (pc := 27) dX12_findNew_27 rfl ?_
  refine wp_getI (pc := 28) dX12_findNew_28 fl_X12_331 rfl (TX12s_k th) ?_
  refine wp_icmp_ge (tgt := 56) (pc := 31) dX12_findNew_31 (by decide) (fun c13 => ?_) (fun c13 => ?_)
  · have F := F.1 c13
    refine wp_iconst (v := -1) (pc := 56) dX12_findNew_56 (by decide) ?_
    refine wp_istore (pc := 57) dX12_findNew_57 (Nat.le_of_ble_eq_true rfl) rfl ?_
    show wp l M_X12_findNew (d + 1) 0 0 _ [some (.ref h), some (.int x1), some (.int x2), some (.long x3), none, some (.int (-1)), none, none, none] _ 0 0 kd _ _ mr _
    refine wp_iconst (v := 0) (pc := 59) dX12_findNew_59 (by decide) ?_
    refine wp_istore (pc := 60) dX12_findNew_60 (Nat.le_of_ble_eq_true rfl) rfl ?_
    show wp l M_X12_findNew (d + 1) 0 0 _ [some (.ref h), some (.int x1), some (.int x2), some (.long x3), none, some (.int (-1)), some (.int 0), none, none] _ 0 0 kd _ _ mr _
    exact wp_less (L' := [some (.ref h), none, some (.int x2), none, none, some (.int (-1)), some (.int 0), none, none]) ⟨rfl, ⟨rfl, ⟨rfl, ⟨rfl, trivial⟩⟩⟩⟩ F
  · have F := F.2 c13
    refine wp_aload_n (pc := 34) dX12_findNew_34 rfl ?_
    refine wp_getR (pc := 35) dX12_findNew_35 fl_X12_63 rfl (TX12s_k th) (TX12s_r40 th) ?_
    refine wp_iload (pc := 38) dX12_findNew_38 rfl ?_
    refine wp_aload_n (pc := 40) dX12_findNew_40 rfl ?_
    refine wp_iload (pc := 41) dX12_findNew_41 rfl ?_
    refine wp_iload_n (pc := 43) dX12_findNew_43 rfl ?_
    refine cvL [.int x5, .int x1] [.int x5, .ref (h + 18)] (pc := 44) dX12_findNew_44 ml_X12_428 iv_X12_heardFrom (TX12s_k th) (cl_X12 rfl) rfl rfl (Nat.le_of_ble_eq_true rfl) (Nat.le_of_ble_eq_true rfl) (wL.mono (fun r14 mi15 ml16 F => ?_) F)
    refine wp_lload_n (pc := 47) dX12_findNew_47 rfl ?_
    refine wp_land (pc := 48) dX12_findNew_48 ?_
    refine wp_last (pc := 49) dX12_findNew_49 (TX12s_a40 th) F.1 ?_
    have F := F.2
    refine wp_iinc (v := (x5 + 1)) (pc := 50) dX12_findNew_50 rfl rfl rfl ?_
    show wp l M_X12_findNew (d + 1) 0 0 _ [some (.ref h), some (.int x1), some (.int x2), some (.long x3), none, some (.int (x5 + 1)), none, none, none] _ 0 0 kd _ _ mr _
    refine wp_goto (tgt := 25) (pc := 53) dX12_findNew_53 (by decide) ?_
    exact wp_less (L' := [some (.ref h), some (.int x1), some (.int x2), some (.long x3), none, some (.int (x5 + 1)), none, none, none]) ⟨rfl, ⟨rfl, ⟨rfl, ⟨rfl, ⟨rfl, trivial⟩⟩⟩⟩⟩ F
theorem w_X12_findNew_62 {l : Launch} {d : Nat} {kd : pm_K} {mr : pm_R} {h : Nat} {x2 : Int32} {x5 : Int32} {x6 : Int32} {mi : pm_I} {ml : pm_L} {K : Int32 → pm_I → pm_L → Prop} (th : TX12s kd mr h)
    (F : (((mi h 27) ≤ x6 → K x5 mi ml) ∧ (¬ (mi h 27) ≤ x6 → c_X12_findNew_87 l (d + 1) kd mr h x2 x5 x6 (if x2 = 1 then x6 else (x6 + 1)) mi ml K))) :
    c_X12_findNew_62 l (d + 1) kd mr h x2 x5 x6 mi ml K := by
  show wp l M_X12_findNew (d + 1) 0 0 62 [some (.ref h), none, some (.int x2), none, none, some (.int x5), some (.int x6), none, none] [] 0 0 kd mi ml mr _
  refine wp_iload (pc := 62) dX12_findNew_62 rfl ?_
  refine wp_aload_n (pc := 64) dX12_findNew_64 rfl ?_
  refine wp_getI (pc := 65) dX12_findNew_65 fl_X12_331 rfl (TX12s_k th) ?_
  refine wp_icmp_ge (tgt := 211) (pc := 68) dX12_findNew_68 (by decide) (fun c17 => ?_) (fun c17 => ?_)
  · have F := F.1 c17
    refine wp_iload (pc := 211) dX12_findNew_211 rfl ?_
    exact r_I (pc := 213) dX12_findNew_213 rfl F
  · have F := F.2 c17
    refine wp_iload_n (pc := 71) dX12_findNew_71 rfl ?_
    refine wp_iconst (v := 1) (pc := 72) dX12_findNew_72 (by decide) ?_
    suffices J18 : ∀ v19 : Int32, v19 = (if x2 = 1 then x6 else (x6 + 1)) → wp l M_X12_findNew (d + 1) 0 0 85 [some (.ref h), none, some (.int x2), none, none, some (.int x5), some (.int x6), none, none] [.int v19] 0 0 kd mi ml mr _ by
        refine wp_icmp_ne (tgt := 81) (pc := 73) dX12_findNew_73 (by decide) (fun c20 => ?_) (fun c20 => ?_)
        · refine wp_iload (pc := 81) dX12_findNew_81 rfl ?_
          refine wp_iconst (v := 1) (pc := 83) dX12_findNew_83 (by decide) ?_
          refine wp_iadd (pc := 84) dX12_findNew_84 ?_
          exact J18 _ (by simp only [c20, if_true, if_false, decide_true, decide_false, Bool.not_true, Bool.not_false, Bool.true_and, Bool.false_and, Bool.true_or, Bool.false_or, b2i_t, b2i_f, ite_true, ite_false, not_true_eq_false, not_false_eq_true, reduceCtorEq, decide_eq_true_eq])
        · refine wp_iload (pc := 76) dX12_findNew_76 rfl ?_
          refine wp_goto (tgt := 85) (pc := 78) dX12_findNew_78 (by decide) ?_
          exact J18 _ (by simp only [eq_true c20, if_true, if_false, decide_true, decide_false, Bool.not_true, Bool.not_false, Bool.true_and, Bool.false_and, Bool.true_or, Bool.false_or, b2i_t, b2i_f, ite_true, ite_false, not_true_eq_false, not_false_eq_true, reduceCtorEq, decide_eq_true_eq])
    intro v19 ev19
    subst ev19
    refine wp_istore (pc := 85) dX12_findNew_85 (Nat.le_of_ble_eq_true rfl) rfl ?_
    show wp l M_X12_findNew (d + 1) 0 0 _ [some (.ref h), none, some (.int x2), none, none, some (.int x5), some (.int x6), some (.int (if x2 = 1 then x6 else (x6 + 1))), none] _ 0 0 kd _ _ mr _
    exact wp_less (L' := [some (.ref h), none, some (.int x2), none, none, some (.int x5), some (.int x6), some (.int (if x2 = 1 then x6 else (x6 + 1))), none]) ⟨rfl, ⟨rfl, ⟨rfl, ⟨rfl, ⟨rfl, trivial⟩⟩⟩⟩⟩ F
theorem w_X12_findNew_87 {l : Launch} {d : Nat} {kd : pm_K} {mr : pm_R} {h : Nat} {x2 : Int32} {x5 : Int32} {x6 : Int32} {x7 : Int32} {mi : pm_I} {ml : pm_L} {K : Int32 → pm_I → pm_L → Prop} (th : TX12s kd mr h)
    (F : (((mi h 27) ≤ x7 → c_X12_findNew_205 l (d + 1) kd mr h x2 x5 x6 mi ml K) ∧ (¬ (mi h 27) ≤ x7 → ((x2 = 2 → c_X12_findNew_108 l (d + 1) kd mr h x2 x5 x6 x7 mi ml K) ∧ (¬ x2 = 2 → ((¬ x7 = x6 → c_X12_findNew_205 l (d + 1) kd mr h x2 x5 x6 mi ml K) ∧ (x7 = x6 → c_X12_findNew_108 l (d + 1) kd mr h x2 x5 x6 x7 mi ml K))))))) :
    c_X12_findNew_87 l (d + 1) kd mr h x2 x5 x6 x7 mi ml K := by
  show wp l M_X12_findNew (d + 1) 0 0 87 [some (.ref h), none, some (.int x2), none, none, some (.int x5), some (.int x6), some (.int x7), none] [] 0 0 kd mi ml mr _
  refine wp_iload (pc := 87) dX12_findNew_87 rfl ?_
  refine wp_aload_n (pc := 89) dX12_findNew_89 rfl ?_
  refine wp_getI (pc := 90) dX12_findNew_90 fl_X12_331 rfl (TX12s_k th) ?_
  refine wp_icmp_ge (tgt := 205) (pc := 93) dX12_findNew_93 (by decide) (fun c21 => ?_) (fun c21 => ?_)
  · have F := F.1 c21
    exact wp_less (L' := [some (.ref h), none, some (.int x2), none, none, some (.int x5), some (.int x6), none, none]) ⟨rfl, ⟨rfl, ⟨rfl, ⟨rfl, trivial⟩⟩⟩⟩ F
  · have F := F.2 c21
    refine wp_iload_n (pc := 96) dX12_findNew_96 rfl ?_
    refine wp_iconst (v := 2) (pc := 97) dX12_findNew_97 (by decide) ?_
    refine wp_icmp_eq (tgt := 108) (pc := 98) dX12_findNew_98 (by decide) (fun c22 => ?_) (fun c22 => ?_)
    · have F := F.1 c22
      exact wp_less (L' := [some (.ref h), none, some (.int x2), none, none, some (.int x5), some (.int x6), some (.int x7), none]) ⟨rfl, ⟨rfl, ⟨rfl, ⟨rfl, ⟨rfl, trivial⟩⟩⟩⟩⟩ F
    · have F := F.2 c22
      refine wp_iload (pc := 101) dX12_findNew_101 rfl ?_
      refine wp_iload (pc := 103) dX12_findNew_103 rfl ?_
      refine wp_icmp_ne (tgt := 205) (pc := 105) dX12_findNew_105 (by decide) (fun c23 => ?_) (fun c23 => ?_)
      · have F := F.1 c23
        exact wp_less (L' := [some (.ref h), none, some (.int x2), none, none, some (.int x5), some (.int x6), none, none]) ⟨rfl, ⟨rfl, ⟨rfl, ⟨rfl, trivial⟩⟩⟩⟩ F
      · have F := F.2 c23
        exact wp_less (L' := [some (.ref h), none, some (.int x2), none, none, some (.int x5), some (.int x6), some (.int x7), none]) ⟨rfl, ⟨rfl, ⟨rfl, ⟨rfl, ⟨rfl, trivial⟩⟩⟩⟩⟩ F
theorem w_X12_findNew_108 {l : Launch} {d : Nat} {kd : pm_K} {mr : pm_R} {h : Nat} {x2 : Int32} {x5 : Int32} {x6 : Int32} {x7 : Int32} {mi : pm_I} {ml : pm_L} {K : Int32 → pm_I → pm_L → Prop} (th : TX12s kd mr h)
    (F : wB l M_X12_isWall d [.ref h, .int x6] kd mr mi ml (fun r24 mi25 ml26 => ((r24 = true → c_X12_findNew_126 l (d + 1) kd mr h x2 x5 x6 x7 mi25 ml26 K) ∧ (r24 = false → wB l M_X12_isWall d [.ref h, .int x7] kd mr mi25 ml26 (fun r28 mi29 ml30 => ((r28 = false → vp_in x6 64 ∧ vp_in x7 64 ∧ wI l M_X12_size d [.long ((ml30 (h + 18) (Int32.toNatClampNeg x6)) ||| (ml30 (h + 18) (Int32.toNatClampNeg x7)))] kd mr mi29 ml30 (fun r32 mi33 ml34 => c_X12_findNew_148 l (d + 1) kd mr h x2 x5 x6 x7 r32 mi33 ml34 K)) ∧ (r28 = true → c_X12_findNew_126 l (d + 1) kd mr h x2 x5 x6 x7 mi29 ml30 K))))))) :
    c_X12_findNew_108 l (d + 1) kd mr h x2 x5 x6 x7 mi ml K := by
  show wp l M_X12_findNew (d + 1) 0 0 108 [some (.ref h), none, some (.int x2), none, none, some (.int x5), some (.int x6), some (.int x7), none] [] 0 0 kd mi ml mr _
  refine wp_aload_n (pc := 108) dX12_findNew_108 rfl ?_
  refine wp_iload (pc := 109) dX12_findNew_109 rfl ?_
  refine cvB [.int x6] [] (pc := 111) dX12_findNew_111 ml_X12_343 iv_X12_isWall (TX12s_k th) (cl_X12 rfl) rfl rfl (Nat.le_of_ble_eq_true rfl) (Nat.le_of_ble_eq_true rfl) (wB.mono (fun r24 mi25 ml26 F => ?_) F)
  refine b_ne (tgt := 126) (pc := 114) dX12_findNew_114 (by decide) (fun c27 => ?_) (fun c27 => ?_)
  · have F := F.1 c27
    exact wp_less (L' := [some (.ref h), none, some (.int x2), none, none, some (.int x5), some (.int x6), some (.int x7), none]) ⟨rfl, ⟨rfl, ⟨rfl, ⟨rfl, ⟨rfl, trivial⟩⟩⟩⟩⟩ F
  · have F := F.2 c27
    refine wp_aload_n (pc := 117) dX12_findNew_117 rfl ?_
    refine wp_iload (pc := 118) dX12_findNew_118 rfl ?_
    refine cvB [.int x7] [] (pc := 120) dX12_findNew_120 ml_X12_343 iv_X12_isWall (TX12s_k th) (cl_X12 rfl) rfl rfl (Nat.le_of_ble_eq_true rfl) (Nat.le_of_ble_eq_true rfl) (wB.mono (fun r28 mi29 ml30 F => ?_) F)
    refine b_eq (tgt := 130) (pc := 123) dX12_findNew_123 (by decide) (fun c31 => ?_) (fun c31 => ?_)
    · have F := F.1 c31
      refine wp_aload_n (pc := 130) dX12_findNew_130 rfl ?_
      refine wp_getR (pc := 131) dX12_findNew_131 fl_X12_63 rfl (TX12s_k th) (TX12s_r40 th) ?_
      refine wp_iload (pc := 134) dX12_findNew_134 rfl ?_
      refine wp_lald (pc := 136) dX12_findNew_136 (TX12s_a40 th) F.1 ?_
      have F := F.2
      refine wp_aload_n (pc := 137) dX12_findNew_137 rfl ?_
      refine wp_getR (pc := 138) dX12_findNew_138 fl_X12_63 rfl (TX12s_k th) (TX12s_r40 th) ?_
      refine wp_iload (pc := 141) dX12_findNew_141 rfl ?_
      refine wp_lald (pc := 143) dX12_findNew_143 (TX12s_a40 th) F.1 ?_
      have F := F.2
      refine wp_lor (pc := 144) dX12_findNew_144 ?_
      refine csI [.long ((ml30 (h + 18) (Int32.toNatClampNeg x6)) ||| (ml30 (h + 18) (Int32.toNatClampNeg x7)))] [] (pc := 145) dX12_findNew_145 ml_X12_451 st_X12_size rfl rfl (Nat.le_of_ble_eq_true rfl) (Nat.le_of_ble_eq_true rfl) (wI.mono (fun r32 mi33 ml34 F => ?_) F)
      exact wp_less (L' := [some (.ref h), none, some (.int x2), none, none, some (.int x5), some (.int x6), some (.int x7), none]) ⟨rfl, ⟨rfl, ⟨rfl, ⟨rfl, ⟨rfl, trivial⟩⟩⟩⟩⟩ F
    · have F := F.2 c31
      exact wp_less (L' := [some (.ref h), none, some (.int x2), none, none, some (.int x5), some (.int x6), some (.int x7), none]) ⟨rfl, ⟨rfl, ⟨rfl, ⟨rfl, ⟨rfl, trivial⟩⟩⟩⟩⟩ F
theorem w_X12_findNew_148 {l : Launch} {d : Nat} {kd : pm_K} {mr : pm_R} {h : Nat} {x2 : Int32} {x5 : Int32} {x6 : Int32} {x7 : Int32} {s0 : Int32} {mi : pm_I} {ml : pm_L} {K : Int32 → pm_I → pm_L → Prop} (th : TX12s kd mr h)
    (F : wI l M_X12_greater d [.int x5, .int s0] kd mr (pm_up (pm_up mi h 41 (if s0 ≤ x5 then (mi h 41) else x6)) h 42 (if s0 ≤ x5 then (mi h 42) else x7)) ml (fun r41 mi42 ml43 => c_X12_findNew_87 l (d + 1) kd mr h x2 r41 x6 (x7 + 1) mi42 ml43 K)) :
    c_X12_findNew_148 l (d + 1) kd mr h x2 x5 x6 x7 s0 mi ml K := by
  show wp l M_X12_findNew (d + 1) 0 0 148 [some (.ref h), none, some (.int x2), none, none, some (.int x5), some (.int x6), some (.int x7), none] [.int s0] 0 0 kd mi ml mr _
  refine wp_istore (pc := 148) dX12_findNew_148 (Nat.le_of_ble_eq_true rfl) rfl ?_
  show wp l M_X12_findNew (d + 1) 0 0 _ [some (.ref h), none, some (.int x2), none, none, some (.int x5), some (.int x6), some (.int x7), some (.int s0)] _ 0 0 kd _ _ mr _
  refine wp_aload_n (pc := 150) dX12_findNew_150 rfl ?_
  refine wp_iload (pc := 151) dX12_findNew_151 rfl ?_
  refine wp_iload (pc := 153) dX12_findNew_153 rfl ?_
  suffices J35 : ∀ v36 : Int32, v36 = (if s0 ≤ x5 then (mi h 41) else x6) → wp l M_X12_findNew (d + 1) 0 0 167 [some (.ref h), none, some (.int x2), none, none, some (.int x5), some (.int x6), some (.int x7), some (.int s0)] [.int v36, .ref h] 0 0 kd mi ml mr _ by
      refine wp_icmp_le (tgt := 163) (pc := 155) dX12_findNew_155 (by decide) (fun c37 => ?_) (fun c37 => ?_)
      · refine wp_aload_n (pc := 163) dX12_findNew_163 rfl ?_
        refine wp_getI (pc := 164) dX12_findNew_164 fl_X12_453 rfl (TX12s_k th) ?_
        exact J35 _ (by simp only [eq_true c37, if_true, if_false, decide_true, decide_false, Bool.not_true, Bool.not_false, Bool.true_and, Bool.false_and, Bool.true_or, Bool.false_or, b2i_t, b2i_f, ite_true, ite_false, not_true_eq_false, not_false_eq_true, reduceCtorEq, decide_eq_true_eq])
      · refine wp_iload (pc := 158) dX12_findNew_158 rfl ?_
        refine wp_goto (tgt := 167) (pc := 160) dX12_findNew_160 (by decide) ?_
        exact J35 _ (by simp only [c37, if_true, if_false, decide_true, decide_false, Bool.not_true, Bool.not_false, Bool.true_and, Bool.false_and, Bool.true_or, Bool.false_or, b2i_t, b2i_f, ite_true, ite_false, not_true_eq_false, not_false_eq_true, reduceCtorEq, decide_eq_true_eq])
  intro v36 ev36
  subst ev36
  refine wp_putI (pc := 167) dX12_findNew_167 fl_X12_453 rfl rfl (TX12s_k th) ?_
  refine wp_aload_n (pc := 170) dX12_findNew_170 rfl ?_
  refine wp_iload (pc := 171) dX12_findNew_171 rfl ?_
  refine wp_iload (pc := 173) dX12_findNew_173 rfl ?_
  suffices J38 : ∀ v39 : Int32, v39 = (if s0 ≤ x5 then (mi h 42) else x7) → wp l M_X12_findNew (d + 1) 0 0 187 [some (.ref h), none, some (.int x2), none, none, some (.int x5), some (.int x6), some (.int x7), some (.int s0)] [.int v39, .ref h] 0 0 kd (pm_up mi h 41 (if s0 ≤ x5 then (mi h 41) else x6)) ml mr _ by
      refine wp_icmp_le (tgt := 183) (pc := 175) dX12_findNew_175 (by decide) (fun c40 => ?_) (fun c40 => ?_)
      · refine wp_aload_n (pc := 183) dX12_findNew_183 rfl ?_
        refine wp_getI (pc := 184) dX12_findNew_184 fl_X12_456 rfl (TX12s_k th) ?_
        refine t_I (show ((pm_up mi h 41 (if s0 ≤ x5 then (mi h 41) else x6)) h 42) = (mi h 42) from pm_up_j _ _ (by decide)) ?_
        exact J38 _ (by simp only [eq_true c40, if_true, if_false, decide_true, decide_false, Bool.not_true, Bool.not_false, Bool.true_and, Bool.false_and, Bool.true_or, Bool.false_or, b2i_t, b2i_f, ite_true, ite_false, not_true_eq_false, not_false_eq_true, reduceCtorEq, decide_eq_true_eq])
      · refine wp_iload (pc := 178) dX12_findNew_178 rfl ?_
        refine wp_goto (tgt := 187) (pc := 180) dX12_findNew_180 (by decide) ?_
        exact J38 _ (by simp only [c40, if_true, if_false, decide_true, decide_false, Bool.not_true, Bool.not_false, Bool.true_and, Bool.false_and, Bool.true_or, Bool.false_or, b2i_t, b2i_f, ite_true, ite_false, not_true_eq_false, not_false_eq_true, reduceCtorEq, decide_eq_true_eq])
  intro v39 ev39
  subst ev39
  refine wp_putI (pc := 187) dX12_findNew_187 fl_X12_456 rfl rfl (TX12s_k th) ?_
  refine wp_iload (pc := 190) dX12_findNew_190 rfl ?_
  refine wp_iload (pc := 192) dX12_findNew_192 rfl ?_
  refine csI [.int x5, .int s0] [] (pc := 194) dX12_findNew_194 ml_X12_180 st_X12_greater rfl rfl (Nat.le_of_ble_eq_true rfl) (Nat.le_of_ble_eq_true rfl) (wI.mono (fun r41 mi42 ml43 F => ?_) F)
  refine wp_istore (pc := 197) dX12_findNew_197 (Nat.le_of_ble_eq_true rfl) rfl ?_
  show wp l M_X12_findNew (d + 1) 0 0 _ [some (.ref h), none, some (.int x2), none, none, some (.int r41), some (.int x6), some (.int x7), some (.int s0)] _ 0 0 kd _ _ mr _
  refine wp_iinc (v := (x7 + 1)) (pc := 199) dX12_findNew_199 rfl rfl rfl ?_
  show wp l M_X12_findNew (d + 1) 0 0 _ [some (.ref h), none, some (.int x2), none, none, some (.int r41), some (.int x6), some (.int (x7 + 1)), some (.int s0)] _ 0 0 kd _ _ mr _
  refine wp_goto (tgt := 87) (pc := 202) dX12_findNew_202 (by decide) ?_
  exact wp_less (L' := [some (.ref h), none, some (.int x2), none, none, some (.int r41), some (.int x6), some (.int (x7 + 1)), none]) ⟨rfl, ⟨rfl, ⟨rfl, ⟨rfl, ⟨rfl, trivial⟩⟩⟩⟩⟩ F
theorem w_X12_findNew_126 {l : Launch} {d : Nat} {kd : pm_K} {mr : pm_R} {h : Nat} {x2 : Int32} {x5 : Int32} {x6 : Int32} {x7 : Int32} {mi : pm_I} {ml : pm_L} {K : Int32 → pm_I → pm_L → Prop} (th : TX12s kd mr h)
    (F : c_X12_findNew_148 l (d + 1) kd mr h x2 x5 x6 x7 (-1) mi ml K) :
    c_X12_findNew_126 l (d + 1) kd mr h x2 x5 x6 x7 mi ml K := by
  show wp l M_X12_findNew (d + 1) 0 0 126 [some (.ref h), none, some (.int x2), none, none, some (.int x5), some (.int x6), some (.int x7), none] [] 0 0 kd mi ml mr _
  refine wp_iconst (v := -1) (pc := 126) dX12_findNew_126 (by decide) ?_
  refine wp_goto (tgt := 148) (pc := 127) dX12_findNew_127 (by decide) ?_
  exact wp_less (L' := [some (.ref h), none, some (.int x2), none, none, some (.int x5), some (.int x6), some (.int x7), none]) ⟨rfl, ⟨rfl, ⟨rfl, ⟨rfl, ⟨rfl, trivial⟩⟩⟩⟩⟩ F
theorem w_X12_findNew_205 {l : Launch} {d : Nat} {kd : pm_K} {mr : pm_R} {h : Nat} {x2 : Int32} {x5 : Int32} {x6 : Int32} {mi : pm_I} {ml : pm_L} {K : Int32 → pm_I → pm_L → Prop} (th : TX12s kd mr h)
    (F : c_X12_findNew_62 l (d + 1) kd mr h x2 x5 (x6 + 1) mi ml K) :
    c_X12_findNew_205 l (d + 1) kd mr h x2 x5 x6 mi ml K := by
  show wp l M_X12_findNew (d + 1) 0 0 205 [some (.ref h), none, some (.int x2), none, none, some (.int x5), some (.int x6), none, none] [] 0 0 kd mi ml mr _
  refine wp_iinc (v := (x6 + 1)) (pc := 205) dX12_findNew_205 rfl rfl rfl ?_
  show wp l M_X12_findNew (d + 1) 0 0 _ [some (.ref h), none, some (.int x2), none, none, some (.int x5), some (.int (x6 + 1)), none, none] _ 0 0 kd _ _ mr _
  refine wp_goto (tgt := 62) (pc := 208) dX12_findNew_208 (by decide) ?_
  exact wp_less (L' := [some (.ref h), none, some (.int x2), none, none, some (.int x5), some (.int (x6 + 1)), none, none]) ⟨rfl, ⟨rfl, ⟨rfl, ⟨rfl, trivial⟩⟩⟩⟩ F
/-- findNew(II)I -/
theorem w_X12_findNew {l : Launch} {d : Nat} {kd : pm_K} {mr : pm_R} {h : Nat} {x1 : Int32} {x2 : Int32} {mi : pm_I} {ml : pm_L} {K : Int32 → pm_I → pm_L → Prop} (th : TX12s kd mr h)
    (F : wV l M_X12_findHeard d [.ref h] kd mr mi ml (fun mi2 ml3 => wL l M_X12_open d [.ref h] kd mr mi2 ml3 (fun r4 mi5 ml6 => wI l M_X12_everybody d [.ref h] kd mr mi5 ml6 (fun r7 mi8 ml9 => wL l M_X12_heardBy d [.ref h, .int r7] kd mr mi8 ml9 (fun r10 mi11 ml12 => c_X12_findNew_25 l (d + 1) kd mr h x1 x2 (r4 &&& (r10 ^^^ (-1))) 0 mi11 ml12 K))))) :
    wI l M_X12_findNew (d + 1) [.ref h, .int x1, .int x2] kd mr mi ml K := by
  show wp l M_X12_findNew (d + 1) 0 0 0 [some (.ref h), some (.int x1), some (.int x2), none, none, none, none, none, none] [] 0 0 kd mi ml mr _
  refine wp_aload_n (pc := 0) dX12_findNew_0 rfl ?_
  refine cvV [] [] (pc := 1) dX12_findNew_1 ml_X12_432 iv_X12_findHeard (TX12s_k th) (cl_X12 rfl) rfl rfl (Nat.le_of_ble_eq_true rfl) (Nat.le_of_ble_eq_true rfl) (wV.mono (fun mi2 ml3 F => ?_) F)
  refine wp_aload_n (pc := 4) dX12_findNew_4 rfl ?_
  refine cvL [] [] (pc := 5) dX12_findNew_5 ml_X12_442 iv_X12_open (TX12s_k th) (cl_X12 rfl) rfl rfl (Nat.le_of_ble_eq_true rfl) (Nat.le_of_ble_eq_true rfl) (wL.mono (fun r4 mi5 ml6 F => ?_) F)
  refine wp_aload_n (pc := 8) dX12_findNew_8 rfl ?_
  refine wp_aload_n (pc := 9) dX12_findNew_9 rfl ?_
  refine cvI [] [.ref h, .long r4] (pc := 10) dX12_findNew_10 ml_X12_435 iv_X12_everybody (TX12s_k th) (cl_X12 rfl) rfl rfl (Nat.le_of_ble_eq_true rfl) (Nat.le_of_ble_eq_true rfl) (wI.mono (fun r7 mi8 ml9 F => ?_) F)
  refine cvL [.int r7] [.long r4] (pc := 13) dX12_findNew_13 ml_X12_438 iv_X12_heardBy (TX12s_k th) (cl_X12 rfl) rfl rfl (Nat.le_of_ble_eq_true rfl) (Nat.le_of_ble_eq_true rfl) (wL.mono (fun r10 mi11 ml12 F => ?_) F)
  refine wp_ldc2 (v := -1) (pc := 16) dX12_findNew_16 (tb_8 44 rfl rfl) ?_
  refine wp_lxor (pc := 19) dX12_findNew_19 ?_
  refine wp_land (pc := 20) dX12_findNew_20 ?_
  refine wp_lstore_n (pc := 21) dX12_findNew_21 (Nat.le_of_ble_eq_true rfl) rfl ?_
  show wp l M_X12_findNew (d + 1) 0 0 _ [some (.ref h), some (.int x1), some (.int x2), some (.long (r4 &&& (r10 ^^^ (-1)))), none, none, none, none, none] _ 0 0 kd _ _ mr _
  refine wp_iconst (v := 0) (pc := 22) dX12_findNew_22 (by decide) ?_
  refine wp_istore (pc := 23) dX12_findNew_23 (Nat.le_of_ble_eq_true rfl) rfl ?_
  show wp l M_X12_findNew (d + 1) 0 0 _ [some (.ref h), some (.int x1), some (.int x2), some (.long (r4 &&& (r10 ^^^ (-1)))), none, some (.int 0), none, none, none] _ 0 0 kd _ _ mr _
  exact wp_less (L' := [some (.ref h), some (.int x1), some (.int x2), some (.long (r4 &&& (r10 ^^^ (-1)))), none, some (.int 0), none, none, none]) ⟨rfl, ⟨rfl, ⟨rfl, ⟨rfl, ⟨rfl, trivial⟩⟩⟩⟩⟩ F
def c_X12_size_4 (l : Launch) (d : Nat) (kd : pm_K) (mr : pm_R)  (x2 : Int32) (x3 : Int64) (mi : pm_I) (ml : pm_L) (K : Int32 → pm_I → pm_L → Prop) : Prop := wp l M_X12_size d 0 0 4 [none, none, some (.int x2), some (.long x3), none] [] 0 0 kd mi ml mr (qI kd mr K)
theorem w_X12_size_4 {l : Launch} {d : Nat} {kd : pm_K} {mr : pm_R}  {x2 : Int32} {x3 : Int64} {mi : pm_I} {ml : pm_L} {K : Int32 → pm_I → pm_L → Prop} 
    (F : (((lg_cmp x3 0) = 0 → K x2 mi ml) ∧ (¬ (lg_cmp x3 0) = 0 → c_X12_size_4 l d kd mr  (x2 + 1) (x3 &&& (x3 - 1)) mi ml K))) :
    c_X12_size_4 l d kd mr x2 x3 mi ml K := by
  show wp l M_X12_size d 0 0 4 [none, none, some (.int x2), some (.long x3), none] [] 0 0 kd mi ml mr _
  refine wp_lload_n (pc := 4) dX12_size_4 rfl ?_
  refine wp_lconst (v := 0) (pc := 5) dX12_size_5 (by decide) ?_
  refine wp_lcmp (pc := 6) dX12_size_6 ?_
  refine wp_if_eq (tgt := 22) (pc := 7) dX12_size_7 (by decide) (fun c1 => ?_) (fun c1 => ?_)
  · have F := F.1 c1
    refine wp_iload_n (pc := 22) dX12_size_22 rfl ?_
    exact r_I (pc := 23) dX12_size_23 rfl F
  · have F := F.2 c1
    refine wp_lload_n (pc := 10) dX12_size_10 rfl ?_
    refine wp_lload_n (pc := 11) dX12_size_11 rfl ?_
    refine wp_lconst (v := 1) (pc := 12) dX12_size_12 (by decide) ?_
    refine wp_lsub (pc := 13) dX12_size_13 ?_
    refine wp_land (pc := 14) dX12_size_14 ?_
    refine wp_lstore_n (pc := 15) dX12_size_15 (Nat.le_of_ble_eq_true rfl) rfl ?_
    show wp l M_X12_size d 0 0 _ [none, none, some (.int x2), some (.long (x3 &&& (x3 - 1))), none] _ 0 0 kd _ _ mr _
    refine wp_iinc (v := (x2 + 1)) (pc := 16) dX12_size_16 rfl rfl rfl ?_
    show wp l M_X12_size d 0 0 _ [none, none, some (.int (x2 + 1)), some (.long (x3 &&& (x3 - 1))), none] _ 0 0 kd _ _ mr _
    refine wp_goto (tgt := 4) (pc := 19) dX12_size_19 (by decide) ?_
    exact wp_less (L' := [none, none, some (.int (x2 + 1)), some (.long (x3 &&& (x3 - 1))), none]) ⟨rfl, ⟨rfl, trivial⟩⟩ F
/-- size(J)I -/
theorem w_X12_size {l : Launch} {d : Nat} {kd : pm_K} {mr : pm_R}  {x0 : Int64} {mi : pm_I} {ml : pm_L} {K : Int32 → pm_I → pm_L → Prop} 
    (F : c_X12_size_4 l d kd mr  0 x0 mi ml K) :
    wI l M_X12_size d [.long x0] kd mr mi ml K := by
  show wp l M_X12_size d 0 0 0 [some (.long x0), none, none, none, none] [] 0 0 kd mi ml mr _
  refine wp_iconst (v := 0) (pc := 0) dX12_size_0 (by decide) ?_
  refine wp_istore_n (pc := 1) dX12_size_1 (Nat.le_of_ble_eq_true rfl) rfl ?_
  show wp l M_X12_size d 0 0 _ [some (.long x0), none, some (.int 0), none, none] _ 0 0 kd _ _ mr _
  refine wp_lload_n (pc := 2) dX12_size_2 rfl ?_
  refine wp_lstore_n (pc := 3) dX12_size_3 (Nat.le_of_ble_eq_true rfl) rfl ?_
  show wp l M_X12_size d 0 0 _ [some (.long x0), none, some (.int 0), some (.long x0), none] _ 0 0 kd _ _ mr _
  exact wp_less (L' := [none, none, some (.int 0), some (.long x0), none]) ⟨rfl, ⟨rfl, trivial⟩⟩ F
def c_X12_gather_125 (l : Launch) (d : Nat) (kd : pm_K) (mr : pm_R) (h : Nat) (x6 : Int64) (x8 : Int32) (x9 : Int32) (mi : pm_I) (ml : pm_L) (K : Int32 → pm_I → pm_L → Prop) : Prop := wp l M_X12_gather d 0 0 125 [some (.ref h), none, none, none, none, none, some (.long x6), none, some (.int x8), some (.int x9)] [] 0 0 kd mi ml mr (qI kd mr K)
theorem w_X12_gather_125 {l : Launch} {d : Nat} {kd : pm_K} {mr : pm_R} {h : Nat} {x6 : Int64} {x8 : Int32} {x9 : Int32} {mi : pm_I} {ml : pm_L} {K : Int32 → pm_I → pm_L → Prop} (th : TX12s kd mr h)
    (F : ((4 ≤ x9 → K (-1) mi ml) ∧ (¬ 4 ≤ x9 → wI l M_X12_nextOf d [.ref h, .int x8, .long x6, .int x9] kd mr mi ml (fun r39 mi40 ml41 => vp_in r39 4096 ∧ vp_in x8 4096 ∧ ((¬ (mi40 (h + 19) (Int32.toNatClampNeg r39)) = ((mi40 (h + 19) (Int32.toNatClampNeg x8)) - 1) → c_X12_gather_125 l (d + 1) kd mr h x6 x8 (x9 + 1) mi40 ml41 K) ∧ ((mi40 (h + 19) (Int32.toNatClampNeg r39)) = ((mi40 (h + 19) (Int32.toNatClampNeg x8)) - 1) → K x9 mi40 ml41)))))) :
    c_X12_gather_125 l (d + 1) kd mr h x6 x8 x9 mi ml K := by
  show wp l M_X12_gather (d + 1) 0 0 125 [some (.ref h), none, none, none, none, none, some (.long x6), none, some (.int x8), some (.int x9)] [] 0 0 kd mi ml mr _
  refine wp_iload (pc := 125) dX12_gather_125 rfl ?_
  refine wp_iconst (v := 4) (pc := 127) dX12_gather_127 (by decide) ?_
  refine wp_icmp_ge (tgt := 167) (pc := 128) dX12_gather_128 (by decide) (fun c38 => ?_) (fun c38 => ?_)
  · have F := F.1 c38
    refine wp_iconst (v := -1) (pc := 167) dX12_gather_167 (by decide) ?_
    exact r_I (pc := 168) dX12_gather_168 rfl F
  · have F := F.2 c38
    refine wp_aload_n (pc := 131) dX12_gather_131 rfl ?_
    refine wp_getR (pc := 132) dX12_gather_132 fl_X12_66 rfl (TX12s_k th) (TX12s_r43 th) ?_
    refine wp_aload_n (pc := 135) dX12_gather_135 rfl ?_
    refine wp_iload (pc := 136) dX12_gather_136 rfl ?_
    refine wp_lload (pc := 138) dX12_gather_138 rfl ?_
    refine wp_iload (pc := 140) dX12_gather_140 rfl ?_
    refine cvI [.int x8, .long x6, .int x9] [.ref (h + 19)] (pc := 142) dX12_gather_142 ml_X12_469 iv_X12_nextOf (TX12s_k th) (cl_X12 rfl) rfl rfl (Nat.le_of_ble_eq_true rfl) (Nat.le_of_ble_eq_true rfl) (wI.mono (fun r39 mi40 ml41 F => ?_) F)
    refine wp_iald (pc := 145) dX12_gather_145 (TX12s_a43 th) F.1 ?_
    have F := F.2
    refine wp_aload_n (pc := 146) dX12_gather_146 rfl ?_
    refine wp_getR (pc := 147) dX12_gather_147 fl_X12_66 rfl (TX12s_k th) (TX12s_r43 th) ?_
    refine wp_iload (pc := 150) dX12_gather_150 rfl ?_
    refine wp_iald (pc := 152) dX12_gather_152 (TX12s_a43 th) F.1 ?_
    have F := F.2
    refine wp_iconst (v := 1) (pc := 153) dX12_gather_153 (by decide) ?_
    refine wp_isub (pc := 154) dX12_gather_154 ?_
    refine wp_icmp_ne (tgt := 161) (pc := 155) dX12_gather_155 (by decide) (fun c42 => ?_) (fun c42 => ?_)
    · have F := F.1 c42
      refine wp_iinc (v := (x9 + 1)) (pc := 161) dX12_gather_161 rfl rfl rfl ?_
      show wp l M_X12_gather (d + 1) 0 0 _ [some (.ref h), none, none, none, none, none, some (.long x6), none, some (.int x8), some (.int (x9 + 1))] _ 0 0 kd _ _ mr _
      refine wp_goto (tgt := 125) (pc := 164) dX12_gather_164 (by decide) ?_
      exact wp_less (L' := [some (.ref h), none, none, none, none, none, some (.long x6), none, some (.int x8), some (.int (x9 + 1))]) ⟨rfl, ⟨rfl, ⟨rfl, ⟨rfl, trivial⟩⟩⟩⟩ F
    · have F := F.2 c42
      refine wp_iload (pc := 158) dX12_gather_158 rfl ?_
      exact r_I (pc := 160) dX12_gather_160 rfl F
/-- gather(IIIIZ)I -/
theorem w_X12_gather {l : Launch} {d : Nat} {kd : pm_K} {mr : pm_R} {h : Nat} {x1 : Int32} {x2 : Int32} {x3 : Int32} {x4 : Int32} {x5 : Bool} {mi : pm_I} {ml : pm_L} {K : Int32 → pm_I → pm_L → Prop} (th : TX12s kd mr h)
    (F : wB l M_X12_hand d [.ref h, .int x1] kd mr (pm_up mi h 0 0) ml (fun r1 mi2 ml3 => ((r1 = false → K (-1) mi2 ml3) ∧ (r1 = true → wB l M_X12_isPlayer d [.ref h, .int x2] kd mr mi2 ml3 (fun r5 mi6 ml7 => ((r5 = false → K (-1) mi6 ml7) ∧ (r5 = true → wB l M_X12_isPerson d [.ref h, .int x3] kd mr mi6 ml7 (fun r9 mi10 ml11 => ((r9 = false → K (-1) mi10 ml11) ∧ (r9 = true → wB l M_X12_isPerson d [.ref h, .int x4] kd mr mi10 ml11 (fun r13 mi14 ml15 => ((r13 = false → K (-1) mi14 ml15) ∧ (r13 = true → ((¬ x3 = x4 → wI l M_X12_cellOf d [.ref h, .int 9, .int x2] kd mr mi14 ml15 (fun r18 mi19 ml20 => wI l M_X12_of d [.ref h, .int (9 + x2)] kd mr mi19 ml20 (fun r21 mi22 ml23 => wL l M_X12_heardFrom d [.ref h, .int r18, .int r21] kd mr mi22 ml23 (fun r24 mi25 ml26 => wV l M_X12_findMarches d [.ref h, .long r24] kd mr mi25 ml26 (fun mi28 ml29 => wI l M_X12_cellOf d [.ref h, .int 27, .int x3] kd mr mi28 ml29 (fun r30 mi31 ml32 => wI l M_X12_cellOf d [.ref h, .int 27, .int x4] kd mr mi31 ml32 (fun r33 mi34 ml35 => vp_in ((64 * r30) + r33) 4096 ∧ (((mi34 (h + 19) (Int32.toNatClampNeg ((64 * r30) + r33))) < 1000000 → ((x5 = true → c_X12_gather_125 l (d + 1) kd mr h r24 ((64 * r30) + r33) 0 mi34 ml35 K) ∧ (x5 = false → vp_in ((64 * r30) + r33) 4096 ∧ K (mi34 (h + 19) (Int32.toNatClampNeg ((64 * r30) + r33))) mi34 ml35))) ∧ (¬ (mi34 (h + 19) (Int32.toNatClampNeg ((64 * r30) + r33))) < 1000000 → K (-1) mi34 ml35))))))))) ∧ (x3 = x4 → K (-1) mi14 ml15))))))))))))))) :
    wI l M_X12_gather (d + 1) [.ref h, .int x1, .int x2, .int x3, .int x4, .int (b2i x5)] kd mr mi ml K := by
  show wp l M_X12_gather (d + 1) 0 0 0 [some (.ref h), some (.int x1), some (.int x2), some (.int x3), some (.int x4), some (.int (b2i x5)), none, none, none, none] [] 0 0 kd mi ml mr _
  refine wp_aload_n (pc := 0) dX12_gather_0 rfl ?_
  refine wp_iconst (v := 0) (pc := 1) dX12_gather_1 (by decide) ?_
  refine wp_putI (pc := 2) dX12_gather_2 fl_X12_107 rfl rfl (TX12s_k th) ?_
  refine wp_aload_n (pc := 5) dX12_gather_5 rfl ?_
  refine wp_iload_n (pc := 6) dX12_gather_6 rfl ?_
  refine cvB [.int x1] [] (pc := 7) dX12_gather_7 ml_X12_346 iv_X12_hand (TX12s_k th) (cl_X12 rfl) rfl rfl (Nat.le_of_ble_eq_true rfl) (Nat.le_of_ble_eq_true rfl) (wB.mono (fun r1 mi2 ml3 F => ?_) F)
  refine b_eq (tgt := 44) (pc := 10) dX12_gather_10 (by decide) (fun c4 => ?_) (fun c4 => ?_)
  · have F := F.1 c4
    refine wp_iconst (v := -1) (pc := 44) dX12_gather_44 (by decide) ?_
    exact r_I (pc := 45) dX12_gather_45 rfl F
  · have F := F.2 c4
    refine wp_aload_n (pc := 13) dX12_gather_13 rfl ?_
    refine wp_iload_n (pc := 14) dX12_gather_14 rfl ?_
    refine cvB [.int x2] [] (pc := 15) dX12_gather_15 ml_X12_349 iv_X12_isPlayer (TX12s_k th) (cl_X12 rfl) rfl rfl (Nat.le_of_ble_eq_true rfl) (Nat.le_of_ble_eq_true rfl) (wB.mono (fun r5 mi6 ml7 F => ?_) F)
    refine b_eq (tgt := 44) (pc := 18) dX12_gather_18 (by decide) (fun c8 => ?_) (fun c8 => ?_)
    · have F := F.1 c8
      refine wp_iconst (v := -1) (pc := 44) dX12_gather_44 (by decide) ?_
      exact r_I (pc := 45) dX12_gather_45 rfl F
    · have F := F.2 c8
      refine wp_aload_n (pc := 21) dX12_gather_21 rfl ?_
      refine wp_iload_n (pc := 22) dX12_gather_22 rfl ?_
      refine cvB [.int x3] [] (pc := 23) dX12_gather_23 ml_X12_355 iv_X12_isPerson (TX12s_k th) (cl_X12 rfl) rfl rfl (Nat.le_of_ble_eq_true rfl) (Nat.le_of_ble_eq_true rfl) (wB.mono (fun r9 mi10 ml11 F => ?_) F)
      refine b_eq (tgt := 44) (pc := 26) dX12_gather_26 (by decide) (fun c12 => ?_) (fun c12 => ?_)
      · have F := F.1 c12
        refine wp_iconst (v := -1) (pc := 44) dX12_gather_44 (by decide) ?_
        exact r_I (pc := 45) dX12_gather_45 rfl F
      · have F := F.2 c12
        refine wp_aload_n (pc := 29) dX12_gather_29 rfl ?_
        refine wp_iload (pc := 30) dX12_gather_30 rfl ?_
        refine cvB [.int x4] [] (pc := 32) dX12_gather_32 ml_X12_355 iv_X12_isPerson (TX12s_k th) (cl_X12 rfl) rfl rfl (Nat.le_of_ble_eq_true rfl) (Nat.le_of_ble_eq_true rfl) (wB.mono (fun r13 mi14 ml15 F => ?_) F)
        refine b_eq (tgt := 44) (pc := 35) dX12_gather_35 (by decide) (fun c16 => ?_) (fun c16 => ?_)
        · have F := F.1 c16
          refine wp_iconst (v := -1) (pc := 44) dX12_gather_44 (by decide) ?_
          exact r_I (pc := 45) dX12_gather_45 rfl F
        · have F := F.2 c16
          refine wp_iload_n (pc := 38) dX12_gather_38 rfl ?_
          refine wp_iload (pc := 39) dX12_gather_39 rfl ?_
          refine wp_icmp_ne (tgt := 46) (pc := 41) dX12_gather_41 (by decide) (fun c17 => ?_) (fun c17 => ?_)
          · have F := F.1 c17
            refine wp_aload_n (pc := 46) dX12_gather_46 rfl ?_
            refine wp_aload_n (pc := 47) dX12_gather_47 rfl ?_
            refine wp_bipush (v := 9) (pc := 48) dX12_gather_48 (by decide) ?_
            refine wp_iload_n (pc := 50) dX12_gather_50 rfl ?_
            refine cvI [.int 9, .int x2] [.ref h] (pc := 51) dX12_gather_51 ml_X12_352 iv_X12_cellOf (TX12s_k th) (cl_X12 rfl) rfl rfl (Nat.le_of_ble_eq_true rfl) (Nat.le_of_ble_eq_true rfl) (wI.mono (fun r18 mi19 ml20 F => ?_) F)
            refine wp_aload_n (pc := 54) dX12_gather_54 rfl ?_
            refine wp_bipush (v := 9) (pc := 55) dX12_gather_55 (by decide) ?_
            refine wp_iload_n (pc := 57) dX12_gather_57 rfl ?_
            refine wp_iadd (pc := 58) dX12_gather_58 ?_
            refine cvI [.int (9 + x2)] [.int r18, .ref h] (pc := 59) dX12_gather_59 ml_X12_324 iv_X12_of (TX12s_k th) (cl_X12 rfl) rfl rfl (Nat.le_of_ble_eq_true rfl) (Nat.le_of_ble_eq_true rfl) (wI.mono (fun r21 mi22 ml23 F => ?_) F)
            refine cvL [.int r18, .int r21] [] (pc := 62) dX12_gather_62 ml_X12_428 iv_X12_heardFrom (TX12s_k th) (cl_X12 rfl) rfl rfl (Nat.le_of_ble_eq_true rfl) (Nat.le_of_ble_eq_true rfl) (wL.mono (fun r24 mi25 ml26 F => ?_) F)
            refine wp_lstore (pc := 65) dX12_gather_65 (Nat.le_of_ble_eq_true rfl) rfl ?_
            show wp l M_X12_gather (d + 1) 0 0 _ [some (.ref h), some (.int x1), some (.int x2), some (.int x3), some (.int x4), some (.int (b2i x5)), some (.long r24), none, none, none] _ 0 0 kd _ _ mr _
            refine wp_aload_n (pc := 67) dX12_gather_67 rfl ?_
            refine wp_lload (pc := 68) dX12_gather_68 rfl ?_
            refine cvV [.long r24] [] (pc := 70) dX12_gather_70 ml_X12_472 iv_X12_findMarches (TX12s_k th) (cl_X12 rfl) rfl rfl (Nat.le_of_ble_eq_true rfl) (Nat.le_of_ble_eq_true rfl) (wV.mono (fun mi28 ml29 F => ?_) F)
            refine wp_bipush (v := 64) (pc := 73) dX12_gather_73 (by decide) ?_
            refine wp_aload_n (pc := 75) dX12_gather_75 rfl ?_
            refine wp_bipush (v := 27) (pc := 76) dX12_gather_76 (by decide) ?_
            refine wp_iload_n (pc := 78) dX12_gather_78 rfl ?_
            refine cvI [.int 27, .int x3] [.int 64] (pc := 79) dX12_gather_79 ml_X12_352 iv_X12_cellOf (TX12s_k th) (cl_X12 rfl) rfl rfl (Nat.le_of_ble_eq_true rfl) (Nat.le_of_ble_eq_true rfl) (wI.mono (fun r30 mi31 ml32 F => ?_) F)
            refine wp_imul (pc := 82) dX12_gather_82 ?_
            refine wp_aload_n (pc := 83) dX12_gather_83 rfl ?_
            refine wp_bipush (v := 27) (pc := 84) dX12_gather_84 (by decide) ?_
            refine wp_iload (pc := 86) dX12_gather_86 rfl ?_
            refine cvI [.int 27, .int x4] [.int (64 * r30)] (pc := 88) dX12_gather_88 ml_X12_352 iv_X12_cellOf (TX12s_k th) (cl_X12 rfl) rfl rfl (Nat.le_of_ble_eq_true rfl) (Nat.le_of_ble_eq_true rfl) (wI.mono (fun r33 mi34 ml35 F => ?_) F)
            refine wp_iadd (pc := 91) dX12_gather_91 ?_
            refine wp_istore (pc := 92) dX12_gather_92 (Nat.le_of_ble_eq_true rfl) rfl ?_
            show wp l M_X12_gather (d + 1) 0 0 _ [some (.ref h), some (.int x1), some (.int x2), some (.int x3), some (.int x4), some (.int (b2i x5)), some (.long r24), none, some (.int ((64 * r30) + r33)), none] _ 0 0 kd _ _ mr _
            refine wp_aload_n (pc := 94) dX12_gather_94 rfl ?_
            refine wp_getR (pc := 95) dX12_gather_95 fl_X12_66 rfl (TX12s_k th) (TX12s_r43 th) ?_
            refine wp_iload (pc := 98) dX12_gather_98 rfl ?_
            refine wp_iald (pc := 100) dX12_gather_100 (TX12s_a43 th) F.1 ?_
            have F := F.2
            refine wp_ldcw (v := 1000000) (pc := 101) dX12_gather_101 (tb_7 197 rfl rfl) ?_
            refine wp_icmp_lt (tgt := 109) (pc := 104) dX12_gather_104 (by decide) (fun c36 => ?_) (fun c36 => ?_)
            · have F := F.1 c36
              refine wp_iload (pc := 109) dX12_gather_109 rfl ?_
              refine b_ne (tgt := 122) (pc := 111) dX12_gather_111 (by decide) (fun c37 => ?_) (fun c37 => ?_)
              · have F := F.1 c37
                refine wp_iconst (v := 0) (pc := 122) dX12_gather_122 (by decide) ?_
                refine wp_istore (pc := 123) dX12_gather_123 (Nat.le_of_ble_eq_true rfl) rfl ?_
                show wp l M_X12_gather (d + 1) 0 0 _ [some (.ref h), some (.int x1), some (.int x2), some (.int x3), some (.int x4), some (.int (b2i x5)), some (.long r24), none, some (.int ((64 * r30) + r33)), some (.int 0)] _ 0 0 kd _ _ mr _
                exact wp_less (L' := [some (.ref h), none, none, none, none, none, some (.long r24), none, some (.int ((64 * r30) + r33)), some (.int 0)]) ⟨rfl, ⟨rfl, ⟨rfl, ⟨rfl, trivial⟩⟩⟩⟩ F
              · have F := F.2 c37
                refine wp_aload_n (pc := 114) dX12_gather_114 rfl ?_
                refine wp_getR (pc := 115) dX12_gather_115 fl_X12_66 rfl (TX12s_k th) (TX12s_r43 th) ?_
                refine wp_iload (pc := 118) dX12_gather_118 rfl ?_
                refine wp_iald (pc := 120) dX12_gather_120 (TX12s_a43 th) F.1 ?_
                have F := F.2
                exact r_I (pc := 121) dX12_gather_121 rfl F
            · have F := F.2 c36
              refine wp_iconst (v := -1) (pc := 107) dX12_gather_107 (by decide) ?_
              exact r_I (pc := 108) dX12_gather_108 rfl F
          · have F := F.2 c17
            refine wp_iconst (v := -1) (pc := 44) dX12_gather_44 (by decide) ?_
            exact r_I (pc := 45) dX12_gather_45 rfl F
def c_X12_findMarches_130 (l : Launch) (d : Nat) (kd : pm_K) (mr : pm_R) (h : Nat) (x1 : Int64) (x3 : Int32) (x4 : Int32) (mi : pm_I) (ml : pm_L) (K : pm_I → pm_L → Prop) : Prop := wp l M_X12_findMarches d 0 0 130 [some (.ref h), some (.long x1), none, some (.int x3), some (.int x4), none, none] [] 0 0 kd mi ml mr (qV kd mr K)
def c_X12_findMarches_124 (l : Launch) (d : Nat) (kd : pm_K) (mr : pm_R) (h : Nat) (x1 : Int64) (x3 : Int32) (x4 : Int32) (x5 : Int32) (mi : pm_I) (ml : pm_L) (K : pm_I → pm_L → Prop) : Prop := wp l M_X12_findMarches d 0 0 124 [some (.ref h), some (.long x1), none, some (.int x3), some (.int x4), some (.int x5), none] [] 0 0 kd mi ml mr (qV kd mr K)
def c_X12_findMarches_65 (l : Launch) (d : Nat) (kd : pm_K) (mr : pm_R) (h : Nat) (x1 : Int64) (x3 : Int32) (x4 : Int32) (x5 : Int32) (mi : pm_I) (ml : pm_L) (K : pm_I → pm_L → Prop) : Prop := wp l M_X12_findMarches d 0 0 65 [some (.ref h), some (.long x1), none, some (.int x3), some (.int x4), some (.int x5), none] [] 0 0 kd mi ml mr (qV kd mr K)
def c_X12_findMarches_50 (l : Launch) (d : Nat) (kd : pm_K) (mr : pm_R) (h : Nat) (x1 : Int64) (x3 : Int32) (x4 : Int32) (mi : pm_I) (ml : pm_L) (K : pm_I → pm_L → Prop) : Prop := wp l M_X12_findMarches d 0 0 50 [some (.ref h), some (.long x1), none, some (.int x3), some (.int x4), none, none] [] 0 0 kd mi ml mr (qV kd mr K)
def c_X12_findMarches_41 (l : Launch) (d : Nat) (kd : pm_K) (mr : pm_R) (h : Nat) (x1 : Int64) (x3 : Int32) (mi : pm_I) (ml : pm_L) (K : pm_I → pm_L → Prop) : Prop := wp l M_X12_findMarches d 0 0 41 [some (.ref h), some (.long x1), none, some (.int x3), none, none, none] [] 0 0 kd mi ml mr (qV kd mr K)
def c_X12_findMarches_2 (l : Launch) (d : Nat) (kd : pm_K) (mr : pm_R) (h : Nat) (x1 : Int64) (x3 : Int32) (mi : pm_I) (ml : pm_L) (K : pm_I → pm_L → Prop) : Prop := wp l M_X12_findMarches d 0 0 2 [some (.ref h), some (.long x1), none, some (.int x3), none, none, none] [] 0 0 kd mi ml mr (qV kd mr K)
theorem w_X12_findMarches_2 {l : Launch} {d : Nat} {kd : pm_K} {mr : pm_R} {h : Nat} {x1 : Int64} {x3 : Int32} {mi : pm_I} {ml : pm_L} {K : pm_I → pm_L → Prop} (th : TX12s kd mr h)
    (F : ((4096 ≤ x3 → c_X12_findMarches_41 l (d + 1) kd mr h x1 1 mi ml K) ∧ (¬ 4096 ≤ x3 → vp_in x3 4096 ∧ c_X12_findMarches_2 l (d + 1) kd mr h x1 (x3 + 1) (pm_up mi (h + 19) (Int32.toNatClampNeg x3) (if (x3 / 64) = (x3 - x3 / 64 * 64) then (0 : Int32) else (1000000 : Int32))) ml K))) :
    c_X12_findMarches_2 l (d + 1) kd mr h x1 x3 mi ml K := by
  show wp l M_X12_findMarches (d + 1) 0 0 2 [some (.ref h), some (.long x1), none, some (.int x3), none, none, none] [] 0 0 kd mi ml mr _
  refine wp_iload_n (pc := 2) dX12_findMarches_2 rfl ?_
  refine wp_sipush (v := 4096) (pc := 3) dX12_findMarches_3 (by decide) ?_
  refine wp_icmp_ge (tgt := 39) (pc := 6) dX12_findMarches_6 (by decide) (fun c1 => ?_) (fun c1 => ?_)
  · have F := F.1 c1
    refine wp_iconst (v := 1) (pc := 39) dX12_findMarches_39 (by decide) ?_
    refine wp_istore_n (pc := 40) dX12_findMarches_40 (Nat.le_of_ble_eq_true rfl) rfl ?_
    show wp l M_X12_findMarches (d + 1) 0 0 _ [some (.ref h), some (.long x1), none, some (.int 1), none, none, none] _ 0 0 kd _ _ mr _
    exact wp_less (L' := [some (.ref h), some (.long x1), none, some (.int 1), none, none, none]) ⟨rfl, ⟨rfl, ⟨rfl, trivial⟩⟩⟩ F
  · have F := F.2 c1
    refine wp_aload_n (pc := 9) dX12_findMarches_9 rfl ?_
    refine wp_getR (pc := 10) dX12_findMarches_10 fl_X12_66 rfl (TX12s_k th) (TX12s_r43 th) ?_
    refine wp_iload_n (pc := 13) dX12_findMarches_13 rfl ?_
    refine wp_iload_n (pc := 14) dX12_findMarches_14 rfl ?_
    refine wp_bipush (v := 64) (pc := 15) dX12_findMarches_15 (by decide) ?_
    refine wp_idiv (pc := 17) dX12_findMarches_17 (by decide) ?_
    refine wp_iload_n (pc := 18) dX12_findMarches_18 rfl ?_
    refine wp_bipush (v := 64) (pc := 19) dX12_findMarches_19 (by decide) ?_
    refine wp_irem (pc := 21) dX12_findMarches_21 (by decide) ?_
    suffices J2 : ∀ v3 : Int32, v3 = (if (x3 / 64) = (x3 - x3 / 64 * 64) then (0 : Int32) else (1000000 : Int32)) → wp l M_X12_findMarches (d + 1) 0 0 32 [some (.ref h), some (.long x1), none, some (.int x3), none, none, none] [.int v3, .int x3, .ref (h + 19)] 0 0 kd mi ml mr _ by
        refine wp_icmp_ne (tgt := 29) (pc := 22) dX12_findMarches_22 (by decide) (fun c4 => ?_) (fun c4 => ?_)
        · refine wp_ldcw (v := 1000000) (pc := 29) dX12_findMarches_29 (tb_7 197 rfl rfl) ?_
          exact J2 _ (by simp only [c4, if_true, if_false, decide_true, decide_false, Bool.not_true, Bool.not_false, Bool.true_and, Bool.false_and, Bool.true_or, Bool.false_or, b2i_t, b2i_f, ite_true, ite_false, not_true_eq_false, not_false_eq_true, reduceCtorEq, decide_eq_true_eq])
        · refine wp_iconst (v := 0) (pc := 25) dX12_findMarches_25 (by decide) ?_
          refine wp_goto (tgt := 32) (pc := 26) dX12_findMarches_26 (by decide) ?_
          exact J2 _ (by simp only [eq_true c4, if_true, if_false, decide_true, decide_false, Bool.not_true, Bool.not_false, Bool.true_and, Bool.false_and, Bool.true_or, Bool.false_or, b2i_t, b2i_f, ite_true, ite_false, not_true_eq_false, not_false_eq_true, reduceCtorEq, decide_eq_true_eq])
    intro v3 ev3
    subst ev3
    refine wp_iast (pc := 32) dX12_findMarches_32 (TX12s_a43 th) F.1 ?_
    have F := F.2
    refine wp_iinc (v := (x3 + 1)) (pc := 33) dX12_findMarches_33 rfl rfl rfl ?_
    show wp l M_X12_findMarches (d + 1) 0 0 _ [some (.ref h), some (.long x1), none, some (.int (x3 + 1)), none, none, none] _ 0 0 kd _ _ mr _
    refine wp_goto (tgt := 2) (pc := 36) dX12_findMarches_36 (by decide) ?_
    exact wp_less (L' := [some (.ref h), some (.long x1), none, some (.int (x3 + 1)), none, none, none]) ⟨rfl, ⟨rfl, ⟨rfl, trivial⟩⟩⟩ F
theorem w_X12_findMarches_41 {l : Launch} {d : Nat} {kd : pm_K} {mr : pm_R} {h : Nat} {x1 : Int64} {x3 : Int32} {mi : pm_I} {ml : pm_L} {K : pm_I → pm_L → Prop} (th : TX12s kd mr h)
    (F : ((x3 = 0 → K mi ml) ∧ (¬ x3 = 0 → c_X12_findMarches_50 l (d + 1) kd mr h x1 0 0 mi ml K))) :
    c_X12_findMarches_41 l (d + 1) kd mr h x1 x3 mi ml K := by
  show wp l M_X12_findMarches (d + 1) 0 0 41 [some (.ref h), some (.long x1), none, some (.int x3), none, none, none] [] 0 0 kd mi ml mr _
  refine wp_iload_n (pc := 41) dX12_findMarches_41 rfl ?_
  refine wp_if_eq (tgt := 139) (pc := 42) dX12_findMarches_42 (by decide) (fun c5 => ?_) (fun c5 => ?_)
  · have F := F.1 c5
    exact r_V (pc := 139) dX12_findMarches_139 rfl F
  · have F := F.2 c5
    refine wp_iconst (v := 0) (pc := 45) dX12_findMarches_45 (by decide) ?_
    refine wp_istore_n (pc := 46) dX12_findMarches_46 (Nat.le_of_ble_eq_true rfl) rfl ?_
    show wp l M_X12_findMarches (d + 1) 0 0 _ [some (.ref h), some (.long x1), none, some (.int 0), none, none, none] _ 0 0 kd _ _ mr _
    refine wp_iconst (v := 0) (pc := 47) dX12_findMarches_47 (by decide) ?_
    refine wp_istore (pc := 48) dX12_findMarches_48 (Nat.le_of_ble_eq_true rfl) rfl ?_
    show wp l M_X12_findMarches (d + 1) 0 0 _ [some (.ref h), some (.long x1), none, some (.int 0), some (.int 0), none, none] _ 0 0 kd _ _ mr _
    exact wp_less (L' := [some (.ref h), some (.long x1), none, some (.int 0), some (.int 0), none, none]) ⟨rfl, ⟨rfl, ⟨rfl, ⟨rfl, trivial⟩⟩⟩⟩ F
theorem w_X12_findMarches_50 {l : Launch} {d : Nat} {kd : pm_K} {mr : pm_R} {h : Nat} {x1 : Int64} {x3 : Int32} {x4 : Int32} {mi : pm_I} {ml : pm_L} {K : pm_I → pm_L → Prop} (th : TX12s kd mr h)
    (F : (((64 * (mi h 27)) ≤ x4 → c_X12_findMarches_41 l (d + 1) kd mr h x1 x3 mi ml K) ∧ (¬ (64 * (mi h 27)) ≤ x4 → c_X12_findMarches_65 l (d + 1) kd mr h x1 x3 x4 0 mi ml K))) :
    c_X12_findMarches_50 l (d + 1) kd mr h x1 x3 x4 mi ml K := by
  show wp l M_X12_findMarches (d + 1) 0 0 50 [some (.ref h), some (.long x1), none, some (.int x3), some (.int x4), none, none] [] 0 0 kd mi ml mr _
  refine wp_iload (pc := 50) dX12_findMarches_50 rfl ?_
  refine wp_bipush (v := 64) (pc := 52) dX12_findMarches_52 (by decide) ?_
  refine wp_aload_n (pc := 54) dX12_findMarches_54 rfl ?_
  refine wp_getI (pc := 55) dX12_findMarches_55 fl_X12_331 rfl (TX12s_k th) ?_
  refine wp_imul (pc := 58) dX12_findMarches_58 ?_
  refine wp_icmp_ge (tgt := 136) (pc := 59) dX12_findMarches_59 (by decide) (fun c6 => ?_) (fun c6 => ?_)
  · have F := F.1 c6
    refine wp_goto (tgt := 41) (pc := 136) dX12_findMarches_136 (by decide) ?_
    exact wp_less (L' := [some (.ref h), some (.long x1), none, some (.int x3), none, none, none]) ⟨rfl, ⟨rfl, ⟨rfl, trivial⟩⟩⟩ F
  · have F := F.2 c6
    refine wp_iconst (v := 0) (pc := 62) dX12_findMarches_62 (by decide) ?_
    refine wp_istore (pc := 63) dX12_findMarches_63 (Nat.le_of_ble_eq_true rfl) rfl ?_
    show wp l M_X12_findMarches (d + 1) 0 0 _ [some (.ref h), some (.long x1), none, some (.int x3), some (.int x4), some (.int 0), none] _ 0 0 kd _ _ mr _
    exact wp_less (L' := [some (.ref h), some (.long x1), none, some (.int x3), some (.int x4), some (.int 0), none]) ⟨rfl, ⟨rfl, ⟨rfl, ⟨rfl, ⟨rfl, trivial⟩⟩⟩⟩⟩ F
theorem w_X12_findMarches_65 {l : Launch} {d : Nat} {kd : pm_K} {mr : pm_R} {h : Nat} {x1 : Int64} {x3 : Int32} {x4 : Int32} {x5 : Int32} {mi : pm_I} {ml : pm_L} {K : pm_I → pm_L → Prop} (th : TX12s kd mr h)
    (F : ((4 ≤ x5 → c_X12_findMarches_130 l (d + 1) kd mr h x1 x3 x4 mi ml K) ∧ (¬ 4 ≤ x5 → (((mi h 27) ≤ (x4 - x4 / 64 * 64) → c_X12_findMarches_130 l (d + 1) kd mr h x1 x3 x4 mi ml K) ∧ (¬ (mi h 27) ≤ (x4 - x4 / 64 * 64) → wI l M_X12_nextOf d [.ref h, .int x4, .long x1, .int x5] kd mr mi ml (fun r9 mi10 ml11 => vp_in r9 4096 ∧ vp_in x4 4096 ∧ (((mi10 (h + 19) (Int32.toNatClampNeg x4)) ≤ ((mi10 (h + 19) (Int32.toNatClampNeg r9)) + 1) → c_X12_findMarches_124 l (d + 1) kd mr h x1 x3 x4 x5 mi10 ml11 K) ∧ (¬ (mi10 (h + 19) (Int32.toNatClampNeg x4)) ≤ ((mi10 (h + 19) (Int32.toNatClampNeg r9)) + 1) → vp_in x4 4096 ∧ c_X12_findMarches_124 l (d + 1) kd mr h x1 1 x4 x5 (pm_up mi10 (h + 19) (Int32.toNatClampNeg x4) ((mi10 (h + 19) (Int32.toNatClampNeg r9)) + 1)) ml11 K)))))))) :
    c_X12_findMarches_65 l (d + 1) kd mr h x1 x3 x4 x5 mi ml K := by
  show wp l M_X12_findMarches (d + 1) 0 0 65 [some (.ref h), some (.long x1), none, some (.int x3), some (.int x4), some (.int x5), none] [] 0 0 kd mi ml mr _
  refine wp_iload (pc := 65) dX12_findMarches_65 rfl ?_
  refine wp_iconst (v := 4) (pc := 67) dX12_findMarches_67 (by decide) ?_
  refine wp_icmp_ge (tgt := 130) (pc := 68) dX12_findMarches_68 (by decide) (fun c7 => ?_) (fun c7 => ?_)
  · have F := F.1 c7
    exact wp_less (L' := [some (.ref h), some (.long x1), none, some (.int x3), some (.int x4), none, none]) ⟨rfl, ⟨rfl, ⟨rfl, ⟨rfl, trivial⟩⟩⟩⟩ F
  · have F := F.2 c7
    refine wp_iload (pc := 71) dX12_findMarches_71 rfl ?_
    refine wp_bipush (v := 64) (pc := 73) dX12_findMarches_73 (by decide) ?_
    refine wp_irem (pc := 75) dX12_findMarches_75 (by decide) ?_
    refine wp_aload_n (pc := 76) dX12_findMarches_76 rfl ?_
    refine wp_getI (pc := 77) dX12_findMarches_77 fl_X12_331 rfl (TX12s_k th) ?_
    refine wp_icmp_ge (tgt := 130) (pc := 80) dX12_findMarches_80 (by decide) (fun c8 => ?_) (fun c8 => ?_)
    · have F := F.1 c8
      exact wp_less (L' := [some (.ref h), some (.long x1), none, some (.int x3), some (.int x4), none, none]) ⟨rfl, ⟨rfl, ⟨rfl, ⟨rfl, trivial⟩⟩⟩⟩ F
    · have F := F.2 c8
      refine wp_aload_n (pc := 83) dX12_findMarches_83 rfl ?_
      refine wp_getR (pc := 84) dX12_findMarches_84 fl_X12_66 rfl (TX12s_k th) (TX12s_r43 th) ?_
      refine wp_aload_n (pc := 87) dX12_findMarches_87 rfl ?_
      refine wp_iload (pc := 88) dX12_findMarches_88 rfl ?_
      refine wp_lload_n (pc := 90) dX12_findMarches_90 rfl ?_
      refine wp_iload (pc := 91) dX12_findMarches_91 rfl ?_
      refine cvI [.int x4, .long x1, .int x5] [.ref (h + 19)] (pc := 93) dX12_findMarches_93 ml_X12_469 iv_X12_nextOf (TX12s_k th) (cl_X12 rfl) rfl rfl (Nat.le_of_ble_eq_true rfl) (Nat.le_of_ble_eq_true rfl) (wI.mono (fun r9 mi10 ml11 F => ?_) F)
      refine wp_iald (pc := 96) dX12_findMarches_96 (TX12s_a43 th) F.1 ?_
      have F := F.2
      refine wp_iconst (v := 1) (pc := 97) dX12_findMarches_97 (by decide) ?_
      refine wp_iadd (pc := 98) dX12_findMarches_98 ?_
      refine wp_istore (pc := 99) dX12_findMarches_99 (Nat.le_of_ble_eq_true rfl) rfl ?_
      show wp l M_X12_findMarches (d + 1) 0 0 _ [some (.ref h), some (.long x1), none, some (.int x3), some (.int x4), some (.int x5), some (.int ((mi10 (h + 19) (Int32.toNatClampNeg r9)) + 1))] _ 0 0 kd _ _ mr _
      refine wp_iload (pc := 101) dX12_findMarches_101 rfl ?_
      refine wp_aload_n (pc := 103) dX12_findMarches_103 rfl ?_
      refine wp_getR (pc := 104) dX12_findMarches_104 fl_X12_66 rfl (TX12s_k th) (TX12s_r43 th) ?_
      refine wp_iload (pc := 107) dX12_findMarches_107 rfl ?_
      refine wp_iald (pc := 109) dX12_findMarches_109 (TX12s_a43 th) F.1 ?_
      have F := F.2
      refine wp_icmp_ge (tgt := 124) (pc := 110) dX12_findMarches_110 (by decide) (fun c12 => ?_) (fun c12 => ?_)
      · have F := F.1 c12
        exact wp_less (L' := [some (.ref h), some (.long x1), none, some (.int x3), some (.int x4), some (.int x5), none]) ⟨rfl, ⟨rfl, ⟨rfl, ⟨rfl, ⟨rfl, trivial⟩⟩⟩⟩⟩ F
      · have F := F.2 c12
        refine wp_aload_n (pc := 113) dX12_findMarches_113 rfl ?_
        refine wp_getR (pc := 114) dX12_findMarches_114 fl_X12_66 rfl (TX12s_k th) (TX12s_r43 th) ?_
        refine wp_iload (pc := 117) dX12_findMarches_117 rfl ?_
        refine wp_iload (pc := 119) dX12_findMarches_119 rfl ?_
        refine wp_iast (pc := 121) dX12_findMarches_121 (TX12s_a43 th) F.1 ?_
        have F := F.2
        refine wp_iconst (v := 1) (pc := 122) dX12_findMarches_122 (by decide) ?_
        refine wp_istore_n (pc := 123) dX12_findMarches_123 (Nat.le_of_ble_eq_true rfl) rfl ?_
        show wp l M_X12_findMarches (d + 1) 0 0 _ [some (.ref h), some (.long x1), none, some (.int 1), some (.int x4), some (.int x5), some (.int ((mi10 (h + 19) (Int32.toNatClampNeg r9)) + 1))] _ 0 0 kd _ _ mr _
        exact wp_less (L' := [some (.ref h), some (.long x1), none, some (.int 1), some (.int x4), some (.int x5), none]) ⟨rfl, ⟨rfl, ⟨rfl, ⟨rfl, ⟨rfl, trivial⟩⟩⟩⟩⟩ F
theorem w_X12_findMarches_124 {l : Launch} {d : Nat} {kd : pm_K} {mr : pm_R} {h : Nat} {x1 : Int64} {x3 : Int32} {x4 : Int32} {x5 : Int32} {mi : pm_I} {ml : pm_L} {K : pm_I → pm_L → Prop} (th : TX12s kd mr h)
    (F : c_X12_findMarches_65 l (d + 1) kd mr h x1 x3 x4 (x5 + 1) mi ml K) :
    c_X12_findMarches_124 l (d + 1) kd mr h x1 x3 x4 x5 mi ml K := by
  show wp l M_X12_findMarches (d + 1) 0 0 124 [some (.ref h), some (.long x1), none, some (.int x3), some (.int x4), some (.int x5), none] [] 0 0 kd mi ml mr _
  refine wp_iinc (v := (x5 + 1)) (pc := 124) dX12_findMarches_124 rfl rfl rfl ?_
  show wp l M_X12_findMarches (d + 1) 0 0 _ [some (.ref h), some (.long x1), none, some (.int x3), some (.int x4), some (.int (x5 + 1)), none] _ 0 0 kd _ _ mr _
  refine wp_goto (tgt := 65) (pc := 127) dX12_findMarches_127 (by decide) ?_
  exact wp_less (L' := [some (.ref h), some (.long x1), none, some (.int x3), some (.int x4), some (.int (x5 + 1)), none]) ⟨rfl, ⟨rfl, ⟨rfl, ⟨rfl, ⟨rfl, trivial⟩⟩⟩⟩⟩ F
theorem w_X12_findMarches_130 {l : Launch} {d : Nat} {kd : pm_K} {mr : pm_R} {h : Nat} {x1 : Int64} {x3 : Int32} {x4 : Int32} {mi : pm_I} {ml : pm_L} {K : pm_I → pm_L → Prop} (th : TX12s kd mr h)
    (F : c_X12_findMarches_50 l (d + 1) kd mr h x1 x3 (x4 + 1) mi ml K) :
    c_X12_findMarches_130 l (d + 1) kd mr h x1 x3 x4 mi ml K := by
  show wp l M_X12_findMarches (d + 1) 0 0 130 [some (.ref h), some (.long x1), none, some (.int x3), some (.int x4), none, none] [] 0 0 kd mi ml mr _
  refine wp_iinc (v := (x4 + 1)) (pc := 130) dX12_findMarches_130 rfl rfl rfl ?_
  show wp l M_X12_findMarches (d + 1) 0 0 _ [some (.ref h), some (.long x1), none, some (.int x3), some (.int (x4 + 1)), none, none] _ 0 0 kd _ _ mr _
  refine wp_goto (tgt := 50) (pc := 133) dX12_findMarches_133 (by decide) ?_
  exact wp_less (L' := [some (.ref h), some (.long x1), none, some (.int x3), some (.int (x4 + 1)), none, none]) ⟨rfl, ⟨rfl, ⟨rfl, ⟨rfl, trivial⟩⟩⟩⟩ F
/-- findMarches(J)V -/
theorem w_X12_findMarches {l : Launch} {d : Nat} {kd : pm_K} {mr : pm_R} {h : Nat} {x1 : Int64} {mi : pm_I} {ml : pm_L} {K : pm_I → pm_L → Prop} (th : TX12s kd mr h)
    (F : c_X12_findMarches_2 l (d + 1) kd mr h x1 0 mi ml K) :
    wV l M_X12_findMarches (d + 1) [.ref h, .long x1] kd mr mi ml K := by
  show wp l M_X12_findMarches (d + 1) 0 0 0 [some (.ref h), some (.long x1), none, none, none, none, none] [] 0 0 kd mi ml mr _
  refine wp_iconst (v := 0) (pc := 0) dX12_findMarches_0 (by decide) ?_
  refine wp_istore_n (pc := 1) dX12_findMarches_1 (Nat.le_of_ble_eq_true rfl) rfl ?_
  show wp l M_X12_findMarches (d + 1) 0 0 _ [some (.ref h), some (.long x1), none, some (.int 0), none, none, none] _ 0 0 kd _ _ mr _
  exact wp_less (L' := [some (.ref h), some (.long x1), none, some (.int 0), none, none, none]) ⟨rfl, ⟨rfl, ⟨rfl, trivial⟩⟩⟩ F
/-- nextOf(IJI)I -/
theorem w_X12_nextOf {l : Launch} {d : Nat} {kd : pm_K} {mr : pm_R} {h : Nat} {x1 : Int32} {x2 : Int64} {x4 : Int32} {mi : pm_I} {ml : pm_L} {K : Int32 → pm_I → pm_L → Prop} (th : TX12s kd mr h)
    (F : wI l M_X12_marched d [.ref h, .int (x1 / 64), .long x2, .int x4] kd mr mi ml (fun r1 mi2 ml3 => wI l M_X12_marched d [.ref h, .int (x1 - x1 / 64 * 64), .long x2, .int x4] kd mr mi2 ml3 (fun r4 mi5 ml6 => K ((64 * r1) + r4) mi5 ml6))) :
    wI l M_X12_nextOf (d + 1) [.ref h, .int x1, .long x2, .int x4] kd mr mi ml K := by
  show wp l M_X12_nextOf (d + 1) 0 0 0 [some (.ref h), some (.int x1), some (.long x2), none, some (.int x4)] [] 0 0 kd mi ml mr _
  refine wp_bipush (v := 64) (pc := 0) dX12_nextOf_0 (by decide) ?_
  refine wp_aload_n (pc := 2) dX12_nextOf_2 rfl ?_
  refine wp_iload_n (pc := 3) dX12_nextOf_3 rfl ?_
  refine wp_bipush (v := 64) (pc := 4) dX12_nextOf_4 (by decide) ?_
  refine wp_idiv (pc := 6) dX12_nextOf_6 (by decide) ?_
  refine wp_lload_n (pc := 7) dX12_nextOf_7 rfl ?_
  refine wp_iload (pc := 8) dX12_nextOf_8 rfl ?_
  refine cvI [.int (x1 / 64), .long x2, .int x4] [.int 64] (pc := 10) dX12_nextOf_10 ml_X12_465 iv_X12_marched (TX12s_k th) (cl_X12 rfl) rfl rfl (Nat.le_of_ble_eq_true rfl) (Nat.le_of_ble_eq_true rfl) (wI.mono (fun r1 mi2 ml3 F => ?_) F)
  refine wp_imul (pc := 13) dX12_nextOf_13 ?_
  refine wp_aload_n (pc := 14) dX12_nextOf_14 rfl ?_
  refine wp_iload_n (pc := 15) dX12_nextOf_15 rfl ?_
  refine wp_bipush (v := 64) (pc := 16) dX12_nextOf_16 (by decide) ?_
  refine wp_irem (pc := 18) dX12_nextOf_18 (by decide) ?_
  refine wp_lload_n (pc := 19) dX12_nextOf_19 rfl ?_
  refine wp_iload (pc := 20) dX12_nextOf_20 rfl ?_
  refine cvI [.int (x1 - x1 / 64 * 64), .long x2, .int x4] [.int (64 * r1)] (pc := 22) dX12_nextOf_22 ml_X12_465 iv_X12_marched (TX12s_k th) (cl_X12 rfl) rfl rfl (Nat.le_of_ble_eq_true rfl) (Nat.le_of_ble_eq_true rfl) (wI.mono (fun r4 mi5 ml6 F => ?_) F)
  refine wp_iadd (pc := 25) dX12_nextOf_25 ?_
  exact r_I (pc := 26) dX12_nextOf_26 rfl F
/-- marched(IJI)I -/
theorem w_X12_marched {l : Launch} {d : Nat} {kd : pm_K} {mr : pm_R} {h : Nat} {x1 : Int32} {x2 : Int64} {x4 : Int32} {mi : pm_I} {ml : pm_L} {K : Int32 → pm_I → pm_L → Prop} (th : TX12s kd mr h)
    (F : wI l M_X12_free d [.ref h, .int x1, .int x4] kd mr mi ml (fun r1 mi2 ml3 => ((r1 = (-1) → K x1 mi2 ml3) ∧ (¬ r1 = (-1) → wB l M_X12_isIn d [.long x2, .int x1] kd mr mi2 ml3 (fun r5 mi6 ml7 => K (if r5 = true then r1 else x1) mi6 ml7))))) :
    wI l M_X12_marched (d + 1) [.ref h, .int x1, .long x2, .int x4] kd mr mi ml K := by
  show wp l M_X12_marched (d + 1) 0 0 0 [some (.ref h), some (.int x1), some (.long x2), none, some (.int x4), none] [] 0 0 kd mi ml mr _
  refine wp_aload_n (pc := 0) dX12_marched_0 rfl ?_
  refine wp_iload_n (pc := 1) dX12_marched_1 rfl ?_
  refine wp_iload (pc := 2) dX12_marched_2 rfl ?_
  refine cvI [.int x1, .int x4] [] (pc := 4) dX12_marched_4 ml_X12_383 iv_X12_free (TX12s_k th) (cl_X12 rfl) rfl rfl (Nat.le_of_ble_eq_true rfl) (Nat.le_of_ble_eq_true rfl) (wI.mono (fun r1 mi2 ml3 F => ?_) F)
  refine wp_istore (pc := 7) dX12_marched_7 (Nat.le_of_ble_eq_true rfl) rfl ?_
  show wp l M_X12_marched (d + 1) 0 0 _ [some (.ref h), some (.int x1), some (.long x2), none, some (.int x4), some (.int r1)] _ 0 0 kd _ _ mr _
  refine wp_iload (pc := 9) dX12_marched_9 rfl ?_
  refine wp_iconst (v := -1) (pc := 11) dX12_marched_11 (by decide) ?_
  refine wp_icmp_eq (tgt := 23) (pc := 12) dX12_marched_12 (by decide) (fun c4 => ?_) (fun c4 => ?_)
  · have F := F.1 c4
    refine wp_iload_n (pc := 23) dX12_marched_23 rfl ?_
    refine wp_goto (tgt := 29) (pc := 24) dX12_marched_24 (by decide) ?_
    exact r_I (pc := 29) dX12_marched_29 rfl F
  · have F := F.2 c4
    refine wp_lload_n (pc := 15) dX12_marched_15 rfl ?_
    refine wp_iload_n (pc := 16) dX12_marched_16 rfl ?_
    refine csB [.long x2, .int x1] [] (pc := 17) dX12_marched_17 ml_X12_462 st_X12_isIn rfl rfl (Nat.le_of_ble_eq_true rfl) (Nat.le_of_ble_eq_true rfl) (wB.mono (fun r5 mi6 ml7 F => ?_) F)
    suffices J8 : ∀ v9 : Int32, v9 = (if r5 = true then r1 else x1) → wp l M_X12_marched (d + 1) 0 0 29 [some (.ref h), some (.int x1), some (.long x2), none, some (.int x4), some (.int r1)] [.int v9] 0 0 kd mi6 ml7 mr _ by
        refine b_ne (tgt := 27) (pc := 20) dX12_marched_20 (by decide) (fun c10 => ?_) (fun c10 => ?_)
        · refine wp_iload (pc := 27) dX12_marched_27 rfl ?_
          exact J8 _ (by simp only [c10, if_true, if_false, decide_true, decide_false, Bool.not_true, Bool.not_false, Bool.true_and, Bool.false_and, Bool.true_or, Bool.false_or, b2i_t, b2i_f, ite_true, ite_false, not_true_eq_false, not_false_eq_true, reduceCtorEq, decide_eq_true_eq])
        · refine wp_iload_n (pc := 23) dX12_marched_23 rfl ?_
          refine wp_goto (tgt := 29) (pc := 24) dX12_marched_24 (by decide) ?_
          exact J8 _ (by simp only [c10, if_true, if_false, decide_true, decide_false, Bool.not_true, Bool.not_false, Bool.true_and, Bool.false_and, Bool.true_or, Bool.false_or, b2i_t, b2i_f, ite_true, ite_false, not_true_eq_false, not_false_eq_true, reduceCtorEq, decide_eq_true_eq])
    intro v9 ev9
    subst ev9
    exact r_I (pc := 29) dX12_marched_29 rfl F
/-- isIn(JI)Z -/
theorem w_X12_isIn {l : Launch} {d : Nat} {kd : pm_K} {mr : pm_R}  {x0 : Int64} {x2 : Int32} {mi : pm_I} {ml : pm_L} {K : Bool → pm_I → pm_L → Prop} 
    (F : K (decide ((lg_cmp ((x0 >>> ((Int32.toInt64 x2) &&& 63)) &&& 1) 1) = 0)) mi ml) :
    wB l M_X12_isIn d [.long x0, .int x2] kd mr mi ml K := by
  show wp l M_X12_isIn d 0 0 0 [some (.long x0), none, some (.int x2)] [] 0 0 kd mi ml mr _
  refine wp_lload_n (pc := 0) dX12_isIn_0 rfl ?_
  refine wp_iload_n (pc := 1) dX12_isIn_1 rfl ?_
  refine wp_lshr (pc := 2) dX12_isIn_2 ?_
  refine wp_lconst (v := 1) (pc := 3) dX12_isIn_3 (by decide) ?_
  refine wp_land (pc := 4) dX12_isIn_4 ?_
  refine wp_lconst (v := 1) (pc := 5) dX12_isIn_5 (by decide) ?_
  refine wp_lcmp (pc := 6) dX12_isIn_6 ?_
  suffices J1 : ∀ v2 : Int32, v2 = (b2i (decide ((lg_cmp ((x0 >>> ((Int32.toInt64 x2) &&& 63)) &&& 1) 1) = 0))) → wp l M_X12_isIn d 0 0 15 [some (.long x0), none, some (.int x2)] [.int v2] 0 0 kd mi ml mr _ by
      refine wp_if_ne (tgt := 14) (pc := 7) dX12_isIn_7 (by decide) (fun c3 => ?_) (fun c3 => ?_)
      · refine wp_iconst (v := 0) (pc := 14) dX12_isIn_14 (by decide) ?_
        exact J1 _ (by simp only [c3, if_true, if_false, decide_true, decide_false, Bool.not_true, Bool.not_false, Bool.true_and, Bool.false_and, Bool.true_or, Bool.false_or, b2i_t, b2i_f, ite_true, ite_false, not_true_eq_false, not_false_eq_true, reduceCtorEq, decide_eq_true_eq])
      · refine wp_iconst (v := 1) (pc := 10) dX12_isIn_10 (by decide) ?_
        refine wp_goto (tgt := 15) (pc := 11) dX12_isIn_11 (by decide) ?_
        exact J1 _ (by simp only [eq_true c3, if_true, if_false, decide_true, decide_false, Bool.not_true, Bool.not_false, Bool.true_and, Bool.false_and, Bool.true_or, Bool.false_or, b2i_t, b2i_f, ite_true, ite_false, not_true_eq_false, not_false_eq_true, reduceCtorEq, decide_eq_true_eq])
  intro v2 ev2
  subst ev2
  exact r_B (pc := 15) dX12_isIn_15 rfl F
/-- chase(III)I -/
theorem w_X12_chase {l : Launch} {d : Nat} {kd : pm_K} {mr : pm_R} {h : Nat} {x1 : Int32} {x2 : Int32} {x3 : Int32} {mi : pm_I} {ml : pm_L} {K : Int32 → pm_I → pm_L → Prop} (th : TX12s kd mr h)
    (F : wB l M_X12_hand d [.ref h, .int x1] kd mr (pm_up mi h 0 0) ml (fun r1 mi2 ml3 => ((r1 = false → K (-1) mi2 ml3) ∧ (r1 = true → wB l M_X12_isPlayer d [.ref h, .int x2] kd mr mi2 ml3 (fun r5 mi6 ml7 => ((r5 = false → K (-1) mi6 ml7) ∧ (r5 = true → wB l M_X12_isPerson d [.ref h, .int x3] kd mr mi6 ml7 (fun r9 mi10 ml11 => ((r9 = true → wV l M_X12_findChase d [.ref h] kd mr mi10 ml11 (fun mi14 ml15 => wI l M_X12_cellOf d [.ref h, .int 9, .int x2] kd mr mi14 ml15 (fun r16 mi17 ml18 => wI l M_X12_cellOf d [.ref h, .int 27, .int x3] kd mr mi17 ml18 (fun r19 mi20 ml21 => vp_in ((64 * r16) + r19) 4096 ∧ K (if (mi20 (h + 19) (Int32.toNatClampNeg ((64 * r16) + r19))) < 1000000 then (mi20 (h + 19) (Int32.toNatClampNeg ((64 * r16) + r19))) else ((-1) : Int32)) mi20 ml21)))) ∧ (r9 = false → K (-1) mi10 ml11)))))))))) :
    wI l M_X12_chase (d + 1) [.ref h, .int x1, .int x2, .int x3] kd mr mi ml K := by
  show wp l M_X12_chase (d + 1) 0 0 0 [some (.ref h), some (.int x1), some (.int x2), some (.int x3), none] [] 0 0 kd mi ml mr _
  refine wp_aload_n (pc := 0) dX12_chase_0 rfl ?_
  refine wp_iconst (v := 0) (pc := 1) dX12_chase_1 (by decide) ?_
  refine wp_putI (pc := 2) dX12_chase_2 fl_X12_107 rfl rfl (TX12s_k th) ?_
  refine wp_aload_n (pc := 5) dX12_chase_5 rfl ?_
  refine wp_iload_n (pc := 6) dX12_chase_6 rfl ?_
  refine cvB [.int x1] [] (pc := 7) dX12_chase_7 ml_X12_346 iv_X12_hand (TX12s_k th) (cl_X12 rfl) rfl rfl (Nat.le_of_ble_eq_true rfl) (Nat.le_of_ble_eq_true rfl) (wB.mono (fun r1 mi2 ml3 F => ?_) F)
  refine b_eq (tgt := 29) (pc := 10) dX12_chase_10 (by decide) (fun c4 => ?_) (fun c4 => ?_)
  · have F := F.1 c4
    refine wp_iconst (v := -1) (pc := 29) dX12_chase_29 (by decide) ?_
    exact r_I (pc := 30) dX12_chase_30 rfl F
  · have F := F.2 c4
    refine wp_aload_n (pc := 13) dX12_chase_13 rfl ?_
    refine wp_iload_n (pc := 14) dX12_chase_14 rfl ?_
    refine cvB [.int x2] [] (pc := 15) dX12_chase_15 ml_X12_349 iv_X12_isPlayer (TX12s_k th) (cl_X12 rfl) rfl rfl (Nat.le_of_ble_eq_true rfl) (Nat.le_of_ble_eq_true rfl) (wB.mono (fun r5 mi6 ml7 F => ?_) F)
    refine b_eq (tgt := 29) (pc := 18) dX12_chase_18 (by decide) (fun c8 => ?_) (fun c8 => ?_)
    · have F := F.1 c8
      refine wp_iconst (v := -1) (pc := 29) dX12_chase_29 (by decide) ?_
      exact r_I (pc := 30) dX12_chase_30 rfl F
    · have F := F.2 c8
      refine wp_aload_n (pc := 21) dX12_chase_21 rfl ?_
      refine wp_iload_n (pc := 22) dX12_chase_22 rfl ?_
      refine cvB [.int x3] [] (pc := 23) dX12_chase_23 ml_X12_355 iv_X12_isPerson (TX12s_k th) (cl_X12 rfl) rfl rfl (Nat.le_of_ble_eq_true rfl) (Nat.le_of_ble_eq_true rfl) (wB.mono (fun r9 mi10 ml11 F => ?_) F)
      refine b_ne (tgt := 31) (pc := 26) dX12_chase_26 (by decide) (fun c12 => ?_) (fun c12 => ?_)
      · have F := F.1 c12
        refine wp_aload_n (pc := 31) dX12_chase_31 rfl ?_
        refine cvV [] [] (pc := 32) dX12_chase_32 ml_X12_485 iv_X12_findChase (TX12s_k th) (cl_X12 rfl) rfl rfl (Nat.le_of_ble_eq_true rfl) (Nat.le_of_ble_eq_true rfl) (wV.mono (fun mi14 ml15 F => ?_) F)
        refine wp_aload_n (pc := 35) dX12_chase_35 rfl ?_
        refine wp_getR (pc := 36) dX12_chase_36 fl_X12_66 rfl (TX12s_k th) (TX12s_r43 th) ?_
        refine wp_bipush (v := 64) (pc := 39) dX12_chase_39 (by decide) ?_
        refine wp_aload_n (pc := 41) dX12_chase_41 rfl ?_
        refine wp_bipush (v := 9) (pc := 42) dX12_chase_42 (by decide) ?_
        refine wp_iload_n (pc := 44) dX12_chase_44 rfl ?_
        refine cvI [.int 9, .int x2] [.int 64, .ref (h + 19)] (pc := 45) dX12_chase_45 ml_X12_352 iv_X12_cellOf (TX12s_k th) (cl_X12 rfl) rfl rfl (Nat.le_of_ble_eq_true rfl) (Nat.le_of_ble_eq_true rfl) (wI.mono (fun r16 mi17 ml18 F => ?_) F)
        refine wp_imul (pc := 48) dX12_chase_48 ?_
        refine wp_aload_n (pc := 49) dX12_chase_49 rfl ?_
        refine wp_bipush (v := 27) (pc := 50) dX12_chase_50 (by decide) ?_
        refine wp_iload_n (pc := 52) dX12_chase_52 rfl ?_
        refine cvI [.int 27, .int x3] [.int (64 * r16), .ref (h + 19)] (pc := 53) dX12_chase_53 ml_X12_352 iv_X12_cellOf (TX12s_k th) (cl_X12 rfl) rfl rfl (Nat.le_of_ble_eq_true rfl) (Nat.le_of_ble_eq_true rfl) (wI.mono (fun r19 mi20 ml21 F => ?_) F)
        refine wp_iadd (pc := 56) dX12_chase_56 ?_
        refine wp_iald (pc := 57) dX12_chase_57 (TX12s_a43 th) F.1 ?_
        have F := F.2
        refine wp_istore (pc := 58) dX12_chase_58 (Nat.le_of_ble_eq_true rfl) rfl ?_
        show wp l M_X12_chase (d + 1) 0 0 _ [some (.ref h), some (.int x1), some (.int x2), some (.int x3), some (.int (mi20 (h + 19) (Int32.toNatClampNeg ((64 * r16) + r19))))] _ 0 0 kd _ _ mr _
        refine wp_iload (pc := 60) dX12_chase_60 rfl ?_
        refine wp_ldcw (v := 1000000) (pc := 62) dX12_chase_62 (tb_7 197 rfl rfl) ?_
        suffices J22 : ∀ v23 : Int32, v23 = (if (mi20 (h + 19) (Int32.toNatClampNeg ((64 * r16) + r19))) < 1000000 then (mi20 (h + 19) (Int32.toNatClampNeg ((64 * r16) + r19))) else ((-1) : Int32)) → wp l M_X12_chase (d + 1) 0 0 74 [some (.ref h), some (.int x1), some (.int x2), some (.int x3), some (.int (mi20 (h + 19) (Int32.toNatClampNeg ((64 * r16) + r19))))] [.int v23] 0 0 kd mi20 ml21 mr _ by
            refine wp_icmp_lt (tgt := 72) (pc := 65) dX12_chase_65 (by decide) (fun c24 => ?_) (fun c24 => ?_)
            · refine wp_iload (pc := 72) dX12_chase_72 rfl ?_
              exact J22 _ (by simp only [eq_true c24, if_true, if_false, decide_true, decide_false, Bool.not_true, Bool.not_false, Bool.true_and, Bool.false_and, Bool.true_or, Bool.false_or, b2i_t, b2i_f, ite_true, ite_false, not_true_eq_false, not_false_eq_true, reduceCtorEq, decide_eq_true_eq])
            · refine wp_iconst (v := -1) (pc := 68) dX12_chase_68 (by decide) ?_
              refine wp_goto (tgt := 74) (pc := 69) dX12_chase_69 (by decide) ?_
              exact J22 _ (by simp only [c24, if_true, if_false, decide_true, decide_false, Bool.not_true, Bool.not_false, Bool.true_and, Bool.false_and, Bool.true_or, Bool.false_or, b2i_t, b2i_f, ite_true, ite_false, not_true_eq_false, not_false_eq_true, reduceCtorEq, decide_eq_true_eq])
        intro v23 ev23
        subst ev23
        exact r_I (pc := 74) dX12_chase_74 rfl F
      · have F := F.2 c12
        refine wp_iconst (v := -1) (pc := 29) dX12_chase_29 (by decide) ?_
        exact r_I (pc := 30) dX12_chase_30 rfl F
def c_X12_findChase_149 (l : Launch) (d : Nat) (kd : pm_K) (mr : pm_R) (h : Nat) (x1 : Int32) (x2 : Int32) (mi : pm_I) (ml : pm_L) (K : pm_I → pm_L → Prop) : Prop := wp l M_X12_findChase d 0 0 149 [some (.ref h), some (.int x1), some (.int x2), none] [] 0 0 kd mi ml mr (qV kd mr K)
def c_X12_findChase_175 (l : Launch) (d : Nat) (kd : pm_K) (mr : pm_R) (h : Nat) (x2 : Int32) (x3 : Int32) (s0 : Int32) (mi : pm_I) (ml : pm_L) (K : pm_I → pm_L → Prop) : Prop := wp l M_X12_findChase d 0 0 175 [some (.ref h), none, some (.int x2), some (.int x3)] [.int s0] 0 0 kd mi ml mr (qV kd mr K)
def c_X12_findChase_170 (l : Launch) (d : Nat) (kd : pm_K) (mr : pm_R) (h : Nat) (x2 : Int32) (x3 : Int32) (mi : pm_I) (ml : pm_L) (K : pm_I → pm_L → Prop) : Prop := wp l M_X12_findChase d 0 0 170 [some (.ref h), none, some (.int x2), some (.int x3)] [] 0 0 kd mi ml mr (qV kd mr K)
def c_X12_findChase_155 (l : Launch) (d : Nat) (kd : pm_K) (mr : pm_R) (h : Nat) (x1 : Int32) (x2 : Int32) (s0 : Int32) (mi : pm_I) (ml : pm_L) (K : pm_I → pm_L → Prop) : Prop := wp l M_X12_findChase d 0 0 155 [some (.ref h), some (.int x1), some (.int x2), none] [.int s0] 0 0 kd mi ml mr (qV kd mr K)
def c_X12_findChase_103 (l : Launch) (d : Nat) (kd : pm_K) (mr : pm_R) (h : Nat) (x1 : Int32) (x2 : Int32) (mi : pm_I) (ml : pm_L) (K : pm_I → pm_L → Prop) : Prop := wp l M_X12_findChase d 0 0 103 [some (.ref h), some (.int x1), some (.int x2), none] [] 0 0 kd mi ml mr (qV kd mr K)
def c_X12_findChase_94 (l : Launch) (d : Nat) (kd : pm_K) (mr : pm_R) (h : Nat) (x1 : Int32) (x2 : Int32) (s0 : Int32) (s1 : Int32) (mi : pm_I) (ml : pm_L) (K : pm_I → pm_L → Prop) : Prop := wp l M_X12_findChase d 0 0 94 [some (.ref h), some (.int x1), some (.int x2), none] [.int s0, .int s1, .ref (h + 20)] 0 0 kd mi ml mr (qV kd mr K)
def c_X12_findChase_49 (l : Launch) (d : Nat) (kd : pm_K) (mr : pm_R) (h : Nat) (x1 : Int32) (x2 : Int32) (mi : pm_I) (ml : pm_L) (K : pm_I → pm_L → Prop) : Prop := wp l M_X12_findChase d 0 0 49 [some (.ref h), some (.int x1), some (.int x2), none] [] 0 0 kd mi ml mr (qV kd mr K)
def c_X12_findChase_41 (l : Launch) (d : Nat) (kd : pm_K) (mr : pm_R) (h : Nat) (x1 : Int32) (mi : pm_I) (ml : pm_L) (K : pm_I → pm_L → Prop) : Prop := wp l M_X12_findChase d 0 0 41 [some (.ref h), some (.int x1), none, none] [] 0 0 kd mi ml mr (qV kd mr K)
def c_X12_findChase_2 (l : Launch) (d : Nat) (kd : pm_K) (mr : pm_R) (h : Nat) (x1 : Int32) (mi : pm_I) (ml : pm_L) (K : pm_I → pm_L → Prop) : Prop := wp l M_X12_findChase d 0 0 2 [some (.ref h), some (.int x1), none, none] [] 0 0 kd mi ml mr (qV kd mr K)
theorem w_X12_findChase_2 {l : Launch} {d : Nat} {kd : pm_K} {mr : pm_R} {h : Nat} {x1 : Int32} {mi : pm_I} {ml : pm_L} {K : pm_I → pm_L → Prop} (th : TX12s kd mr h)
    (F : ((4096 ≤ x1 → c_X12_findChase_41 l (d + 1) kd mr h 1 mi ml K) ∧ (¬ 4096 ≤ x1 → vp_in x1 4096 ∧ c_X12_findChase_2 l (d + 1) kd mr h (x1 + 1) (pm_up mi (h + 19) (Int32.toNatClampNeg x1) (if (x1 / 64) = (x1 - x1 / 64 * 64) then (0 : Int32) else (1000000 : Int32))) ml K))) :
    c_X12_findChase_2 l (d + 1) kd mr h x1 mi ml K := by
  show wp l M_X12_findChase (d + 1) 0 0 2 [some (.ref h), some (.int x1), none, none] [] 0 0 kd mi ml mr _
  refine wp_iload_n (pc := 2) dX12_findChase_2 rfl ?_
  refine wp_sipush (v := 4096) (pc := 3) dX12_findChase_3 (by decide) ?_
  refine wp_icmp_ge (tgt := 39) (pc := 6) dX12_findChase_6 (by decide) (fun c1 => ?_) (fun c1 => ?_)
  · have F := F.1 c1
    refine wp_iconst (v := 1) (pc := 39) dX12_findChase_39 (by decide) ?_
    refine wp_istore_n (pc := 40) dX12_findChase_40 (Nat.le_of_ble_eq_true rfl) rfl ?_
    show wp l M_X12_findChase (d + 1) 0 0 _ [some (.ref h), some (.int 1), none, none] _ 0 0 kd _ _ mr _
    exact wp_less (L' := [some (.ref h), some (.int 1), none, none]) ⟨rfl, ⟨rfl, trivial⟩⟩ F
  · have F := F.2 c1
    refine wp_aload_n (pc := 9) dX12_findChase_9 rfl ?_
    refine wp_getR (pc := 10) dX12_findChase_10 fl_X12_66 rfl (TX12s_k th) (TX12s_r43 th) ?_
    refine wp_iload_n (pc := 13) dX12_findChase_13 rfl ?_
    refine wp_iload_n (pc := 14) dX12_findChase_14 rfl ?_
    refine wp_bipush (v := 64) (pc := 15) dX12_findChase_15 (by decide) ?_
    refine wp_idiv (pc := 17) dX12_findChase_17 (by decide) ?_
    refine wp_iload_n (pc := 18) dX12_findChase_18 rfl ?_
    refine wp_bipush (v := 64) (pc := 19) dX12_findChase_19 (by decide) ?_
    refine wp_irem (pc := 21) dX12_findChase_21 (by decide) ?_
    suffices J2 : ∀ v3 : Int32, v3 = (if (x1 / 64) = (x1 - x1 / 64 * 64) then (0 : Int32) else (1000000 : Int32)) → wp l M_X12_findChase (d + 1) 0 0 32 [some (.ref h), some (.int x1), none, none] [.int v3, .int x1, .ref (h + 19)] 0 0 kd mi ml mr _ by
        refine wp_icmp_ne (tgt := 29) (pc := 22) dX12_findChase_22 (by decide) (fun c4 => ?_) (fun c4 => ?_)
        · refine wp_ldcw (v := 1000000) (pc := 29) dX12_findChase_29 (tb_7 197 rfl rfl) ?_
          exact J2 _ (by simp only [c4, if_true, if_false, decide_true, decide_false, Bool.not_true, Bool.not_false, Bool.true_and, Bool.false_and, Bool.true_or, Bool.false_or, b2i_t, b2i_f, ite_true, ite_false, not_true_eq_false, not_false_eq_true, reduceCtorEq, decide_eq_true_eq])
        · refine wp_iconst (v := 0) (pc := 25) dX12_findChase_25 (by decide) ?_
          refine wp_goto (tgt := 32) (pc := 26) dX12_findChase_26 (by decide) ?_
          exact J2 _ (by simp only [eq_true c4, if_true, if_false, decide_true, decide_false, Bool.not_true, Bool.not_false, Bool.true_and, Bool.false_and, Bool.true_or, Bool.false_or, b2i_t, b2i_f, ite_true, ite_false, not_true_eq_false, not_false_eq_true, reduceCtorEq, decide_eq_true_eq])
    intro v3 ev3
    subst ev3
    refine wp_iast (pc := 32) dX12_findChase_32 (TX12s_a43 th) F.1 ?_
    have F := F.2
    refine wp_iinc (v := (x1 + 1)) (pc := 33) dX12_findChase_33 rfl rfl rfl ?_
    show wp l M_X12_findChase (d + 1) 0 0 _ [some (.ref h), some (.int (x1 + 1)), none, none] _ 0 0 kd _ _ mr _
    refine wp_goto (tgt := 2) (pc := 36) dX12_findChase_36 (by decide) ?_
    exact wp_less (L' := [some (.ref h), some (.int (x1 + 1)), none, none]) ⟨rfl, ⟨rfl, trivial⟩⟩ F
theorem w_X12_findChase_41 {l : Launch} {d : Nat} {kd : pm_K} {mr : pm_R} {h : Nat} {x1 : Int32} {mi : pm_I} {ml : pm_L} {K : pm_I → pm_L → Prop} (th : TX12s kd mr h)
    (F : ((x1 = 0 → K mi ml) ∧ (¬ x1 = 0 → c_X12_findChase_49 l (d + 1) kd mr h 0 0 mi ml K))) :
    c_X12_findChase_41 l (d + 1) kd mr h x1 mi ml K := by
  show wp l M_X12_findChase (d + 1) 0 0 41 [some (.ref h), some (.int x1), none, none] [] 0 0 kd mi ml mr _
  refine wp_iload_n (pc := 41) dX12_findChase_41 rfl ?_
  refine wp_if_eq (tgt := 201) (pc := 42) dX12_findChase_42 (by decide) (fun c5 => ?_) (fun c5 => ?_)
  · have F := F.1 c5
    exact r_V (pc := 201) dX12_findChase_201 rfl F
  · have F := F.2 c5
    refine wp_iconst (v := 0) (pc := 45) dX12_findChase_45 (by decide) ?_
    refine wp_istore_n (pc := 46) dX12_findChase_46 (Nat.le_of_ble_eq_true rfl) rfl ?_
    show wp l M_X12_findChase (d + 1) 0 0 _ [some (.ref h), some (.int 0), none, none] _ 0 0 kd _ _ mr _
    refine wp_iconst (v := 0) (pc := 47) dX12_findChase_47 (by decide) ?_
    refine wp_istore_n (pc := 48) dX12_findChase_48 (Nat.le_of_ble_eq_true rfl) rfl ?_
    show wp l M_X12_findChase (d + 1) 0 0 _ [some (.ref h), some (.int 0), some (.int 0), none] _ 0 0 kd _ _ mr _
    exact wp_less (L' := [some (.ref h), some (.int 0), some (.int 0), none]) ⟨rfl, ⟨rfl, ⟨rfl, trivial⟩⟩⟩ F
theorem w_X12_findChase_49 {l : Launch} {d : Nat} {kd : pm_K} {mr : pm_R} {h : Nat} {x1 : Int32} {x2 : Int32} {mi : pm_I} {ml : pm_L} {K : pm_I → pm_L → Prop} (th : TX12s kd mr h)
    (F : (((64 * (mi h 27)) ≤ x2 → c_X12_findChase_103 l (d + 1) kd mr h x1 0 mi ml K) ∧ (¬ (64 * (mi h 27)) ≤ x2 → (((mi h 27) ≤ (x2 - x2 / 64 * 64) → c_X12_findChase_94 l (d + 1) kd mr h x1 x2 1000000 x2 mi ml K) ∧ (¬ (mi h 27) ≤ (x2 - x2 / 64 * 64) → wI l M_X12_stay d [.ref h, .int (x2 / 64), .int (x2 - x2 / 64 * 64)] kd mr mi ml (fun r8 mi9 ml10 => c_X12_findChase_94 l (d + 1) kd mr h x1 x2 r8 x2 mi9 ml10 K)))))) :
    c_X12_findChase_49 l (d + 1) kd mr h x1 x2 mi ml K := by
  show wp l M_X12_findChase (d + 1) 0 0 49 [some (.ref h), some (.int x1), some (.int x2), none] [] 0 0 kd mi ml mr _
  refine wp_iload_n (pc := 49) dX12_findChase_49 rfl ?_
  refine wp_bipush (v := 64) (pc := 50) dX12_findChase_50 (by decide) ?_
  refine wp_aload_n (pc := 52) dX12_findChase_52 rfl ?_
  refine wp_getI (pc := 53) dX12_findChase_53 fl_X12_331 rfl (TX12s_k th) ?_
  refine wp_imul (pc := 56) dX12_findChase_56 ?_
  refine wp_icmp_ge (tgt := 101) (pc := 57) dX12_findChase_57 (by decide) (fun c6 => ?_) (fun c6 => ?_)
  · have F := F.1 c6
    refine wp_iconst (v := 0) (pc := 101) dX12_findChase_101 (by decide) ?_
    refine wp_istore_n (pc := 102) dX12_findChase_102 (Nat.le_of_ble_eq_true rfl) rfl ?_
    show wp l M_X12_findChase (d + 1) 0 0 _ [some (.ref h), some (.int x1), some (.int 0), none] _ 0 0 kd _ _ mr _
    exact wp_less (L' := [some (.ref h), some (.int x1), some (.int 0), none]) ⟨rfl, ⟨rfl, ⟨rfl, trivial⟩⟩⟩ F
  · have F := F.2 c6
    refine wp_aload_n (pc := 60) dX12_findChase_60 rfl ?_
    refine wp_getR (pc := 61) dX12_findChase_61 fl_X12_69 rfl (TX12s_k th) (TX12s_r44 th) ?_
    refine wp_iload_n (pc := 64) dX12_findChase_64 rfl ?_
    refine wp_iload_n (pc := 65) dX12_findChase_65 rfl ?_
    refine wp_bipush (v := 64) (pc := 66) dX12_findChase_66 (by decide) ?_
    refine wp_irem (pc := 68) dX12_findChase_68 (by decide) ?_
    refine wp_aload_n (pc := 69) dX12_findChase_69 rfl ?_
    refine wp_getI (pc := 70) dX12_findChase_70 fl_X12_331 rfl (TX12s_k th) ?_
    refine wp_icmp_ge (tgt := 91) (pc := 73) dX12_findChase_73 (by decide) (fun c7 => ?_) (fun c7 => ?_)
    · have F := F.1 c7
      refine wp_ldcw (v := 1000000) (pc := 91) dX12_findChase_91 (tb_7 197 rfl rfl) ?_
      exact wp_less (L' := [some (.ref h), some (.int x1), some (.int x2), none]) ⟨rfl, ⟨rfl, ⟨rfl, trivial⟩⟩⟩ F
    · have F := F.2 c7
      refine wp_aload_n (pc := 76) dX12_findChase_76 rfl ?_
      refine wp_iload_n (pc := 77) dX12_findChase_77 rfl ?_
      refine wp_bipush (v := 64) (pc := 78) dX12_findChase_78 (by decide) ?_
      refine wp_idiv (pc := 80) dX12_findChase_80 (by decide) ?_
      refine wp_iload_n (pc := 81) dX12_findChase_81 rfl ?_
      refine wp_bipush (v := 64) (pc := 82) dX12_findChase_82 (by decide) ?_
      refine wp_irem (pc := 84) dX12_findChase_84 (by decide) ?_
      refine cvI [.int (x2 / 64), .int (x2 - x2 / 64 * 64)] [.int x2, .ref (h + 20)] (pc := 85) dX12_findChase_85 ml_X12_479 iv_X12_stay (TX12s_k th) (cl_X12 rfl) rfl rfl (Nat.le_of_ble_eq_true rfl) (Nat.le_of_ble_eq_true rfl) (wI.mono (fun r8 mi9 ml10 F => ?_) F)
      refine wp_goto (tgt := 94) (pc := 88) dX12_findChase_88 (by decide) ?_
      exact wp_less (L' := [some (.ref h), some (.int x1), some (.int x2), none]) ⟨rfl, ⟨rfl, ⟨rfl, trivial⟩⟩⟩ F
theorem w_X12_findChase_94 {l : Launch} {d : Nat} {kd : pm_K} {mr : pm_R} {h : Nat} {x1 : Int32} {x2 : Int32} {s0 : Int32} {s1 : Int32} {mi : pm_I} {ml : pm_L} {K : pm_I → pm_L → Prop} (th : TX12s kd mr h)
    (F : vp_in s1 4096 ∧ c_X12_findChase_49 l (d + 1) kd mr h x1 (x2 + 1) (pm_up mi (h + 20) (Int32.toNatClampNeg s1) s0) ml K) :
    c_X12_findChase_94 l (d + 1) kd mr h x1 x2 s0 s1 mi ml K := by
  show wp l M_X12_findChase (d + 1) 0 0 94 [some (.ref h), some (.int x1), some (.int x2), none] [.int s0, .int s1, .ref (h + 20)] 0 0 kd mi ml mr _
  refine wp_iast (pc := 94) dX12_findChase_94 (TX12s_a44 th) F.1 ?_
  have F := F.2
  refine wp_iinc (v := (x2 + 1)) (pc := 95) dX12_findChase_95 rfl rfl rfl ?_
  show wp l M_X12_findChase (d + 1) 0 0 _ [some (.ref h), some (.int x1), some (.int (x2 + 1)), none] _ 0 0 kd _ _ mr _
  refine wp_goto (tgt := 49) (pc := 98) dX12_findChase_98 (by decide) ?_
  exact wp_less (L' := [some (.ref h), some (.int x1), some (.int (x2 + 1)), none]) ⟨rfl, ⟨rfl, ⟨rfl, trivial⟩⟩⟩ F
theorem w_X12_findChase_103 {l : Launch} {d : Nat} {kd : pm_K} {mr : pm_R} {h : Nat} {x1 : Int32} {x2 : Int32} {mi : pm_I} {ml : pm_L} {K : pm_I → pm_L → Prop} (th : TX12s kd mr h)
    (F : (((64 * (mi h 27)) ≤ x2 → c_X12_findChase_41 l (d + 1) kd mr h x1 mi ml K) ∧ (¬ (64 * (mi h 27)) ≤ x2 → (((mi h 27) ≤ (x2 - x2 / 64 * 64) → c_X12_findChase_149 l (d + 1) kd mr h x1 x2 mi ml K) ∧ (¬ (mi h 27) ≤ (x2 - x2 / 64 * 64) → vp_in x2 4096 ∧ (((mi (h + 19) (Int32.toNatClampNeg x2)) ≤ 0 → c_X12_findChase_149 l (d + 1) kd mr h x1 x2 mi ml K) ∧ (¬ (mi (h + 19) (Int32.toNatClampNeg x2)) ≤ 0 → wI l M_X12_sooner d [.ref h, .int (x2 / 64), .int (x2 - x2 / 64 * 64)] kd mr mi ml (fun r14 mi15 ml16 => c_X12_findChase_155 l (d + 1) kd mr h x1 x2 r14 mi15 ml16 K)))))))) :
    c_X12_findChase_103 l (d + 1) kd mr h x1 x2 mi ml K := by
  show wp l M_X12_findChase (d + 1) 0 0 103 [some (.ref h), some (.int x1), some (.int x2), none] [] 0 0 kd mi ml mr _
  refine wp_iload_n (pc := 103) dX12_findChase_103 rfl ?_
  refine wp_bipush (v := 64) (pc := 104) dX12_findChase_104 (by decide) ?_
  refine wp_aload_n (pc := 106) dX12_findChase_106 rfl ?_
  refine wp_getI (pc := 107) dX12_findChase_107 fl_X12_331 rfl (TX12s_k th) ?_
  refine wp_imul (pc := 110) dX12_findChase_110 ?_
  refine wp_icmp_ge (tgt := 198) (pc := 111) dX12_findChase_111 (by decide) (fun c11 => ?_) (fun c11 => ?_)
  · have F := F.1 c11
    refine wp_goto (tgt := 41) (pc := 198) dX12_findChase_198 (by decide) ?_
    exact wp_less (L' := [some (.ref h), some (.int x1), none, none]) ⟨rfl, ⟨rfl, trivial⟩⟩ F
  · have F := F.2 c11
    refine wp_iload_n (pc := 114) dX12_findChase_114 rfl ?_
    refine wp_bipush (v := 64) (pc := 115) dX12_findChase_115 (by decide) ?_
    refine wp_irem (pc := 117) dX12_findChase_117 (by decide) ?_
    refine wp_aload_n (pc := 118) dX12_findChase_118 rfl ?_
    refine wp_getI (pc := 119) dX12_findChase_119 fl_X12_331 rfl (TX12s_k th) ?_
    refine wp_icmp_ge (tgt := 149) (pc := 122) dX12_findChase_122 (by decide) (fun c12 => ?_) (fun c12 => ?_)
    · have F := F.1 c12
      exact wp_less (L' := [some (.ref h), some (.int x1), some (.int x2), none]) ⟨rfl, ⟨rfl, ⟨rfl, trivial⟩⟩⟩ F
    · have F := F.2 c12
      refine wp_aload_n (pc := 125) dX12_findChase_125 rfl ?_
      refine wp_getR (pc := 126) dX12_findChase_126 fl_X12_66 rfl (TX12s_k th) (TX12s_r43 th) ?_
      refine wp_iload_n (pc := 129) dX12_findChase_129 rfl ?_
      refine wp_iald (pc := 130) dX12_findChase_130 (TX12s_a43 th) F.1 ?_
      have F := F.2
      refine wp_if_le (tgt := 149) (pc := 131) dX12_findChase_131 (by decide) (fun c13 => ?_) (fun c13 => ?_)
      · have F := F.1 c13
        exact wp_less (L' := [some (.ref h), some (.int x1), some (.int x2), none]) ⟨rfl, ⟨rfl, ⟨rfl, trivial⟩⟩⟩ F
      · have F := F.2 c13
        refine wp_aload_n (pc := 134) dX12_findChase_134 rfl ?_
        refine wp_iload_n (pc := 135) dX12_findChase_135 rfl ?_
        refine wp_bipush (v := 64) (pc := 136) dX12_findChase_136 (by decide) ?_
        refine wp_idiv (pc := 138) dX12_findChase_138 (by decide) ?_
        refine wp_iload_n (pc := 139) dX12_findChase_139 rfl ?_
        refine wp_bipush (v := 64) (pc := 140) dX12_findChase_140 (by decide) ?_
        refine wp_irem (pc := 142) dX12_findChase_142 (by decide) ?_
        refine cvI [.int (x2 / 64), .int (x2 - x2 / 64 * 64)] [] (pc := 143) dX12_findChase_143 ml_X12_482 iv_X12_sooner (TX12s_k th) (cl_X12 rfl) rfl rfl (Nat.le_of_ble_eq_true rfl) (Nat.le_of_ble_eq_true rfl) (wI.mono (fun r14 mi15 ml16 F => ?_) F)
        refine wp_goto (tgt := 155) (pc := 146) dX12_findChase_146 (by decide) ?_
        exact wp_less (L' := [some (.ref h), some (.int x1), some (.int x2), none]) ⟨rfl, ⟨rfl, ⟨rfl, trivial⟩⟩⟩ F
theorem w_X12_findChase_155 {l : Launch} {d : Nat} {kd : pm_K} {mr : pm_R} {h : Nat} {x1 : Int32} {x2 : Int32} {s0 : Int32} {mi : pm_I} {ml : pm_L} {K : pm_I → pm_L → Prop} (th : TX12s kd mr h)
    (F : ((¬ x1 = 0 → c_X12_findChase_170 l (d + 1) kd mr h x2 s0 mi ml K) ∧ (x1 = 0 → vp_in x2 4096 ∧ vp_in x2 4096 ∧ wI l M_X12_lesser d [.int (mi (h + 19) (Int32.toNatClampNeg x2)), .int s0] kd mr mi ml (fun r21 mi22 ml23 => vp_in x2 4096 ∧ c_X12_findChase_103 l (d + 1) kd mr h (b2i (!decide ((mi (h + 19) (Int32.toNatClampNeg x2)) ≤ s0))) (x2 + 1) (pm_up mi22 (h + 19) (Int32.toNatClampNeg x2) r21) ml23 K)))) :
    c_X12_findChase_155 l (d + 1) kd mr h x1 x2 s0 mi ml K := by
  show wp l M_X12_findChase (d + 1) 0 0 155 [some (.ref h), some (.int x1), some (.int x2), none] [.int s0] 0 0 kd mi ml mr _
  refine wp_istore_n (pc := 155) dX12_findChase_155 (Nat.le_of_ble_eq_true rfl) rfl ?_
  show wp l M_X12_findChase (d + 1) 0 0 _ [some (.ref h), some (.int x1), some (.int x2), some (.int s0)] _ 0 0 kd _ _ mr _
  refine wp_iload_n (pc := 156) dX12_findChase_156 rfl ?_
  refine wp_if_ne (tgt := 170) (pc := 157) dX12_findChase_157 (by decide) (fun c17 => ?_) (fun c17 => ?_)
  · have F := F.1 c17
    exact wp_less (L' := [some (.ref h), none, some (.int x2), some (.int s0)]) ⟨rfl, ⟨rfl, ⟨rfl, trivial⟩⟩⟩ F
  · have F := F.2 c17
    refine wp_iload_n (pc := 160) dX12_findChase_160 rfl ?_
    refine wp_aload_n (pc := 161) dX12_findChase_161 rfl ?_
    refine wp_getR (pc := 162) dX12_findChase_162 fl_X12_66 rfl (TX12s_k th) (TX12s_r43 th) ?_
    refine wp_iload_n (pc := 165) dX12_findChase_165 rfl ?_
    refine wp_iald (pc := 166) dX12_findChase_166 (TX12s_a43 th) F.1 ?_
    have F := F.2
    suffices J18 : ∀ v19 : Int32, v19 = (b2i (!decide ((mi (h + 19) (Int32.toNatClampNeg x2)) ≤ s0))) → wp l M_X12_findChase (d + 1) 0 0 175 [some (.ref h), some (.int x1), some (.int x2), some (.int s0)] [.int v19] 0 0 kd mi ml mr _ by
        refine wp_icmp_ge (tgt := 174) (pc := 167) dX12_findChase_167 (by decide) (fun c20 => ?_) (fun c20 => ?_)
        · refine wp_iconst (v := 0) (pc := 174) dX12_findChase_174 (by decide) ?_
          exact J18 _ (by simp only [eq_true c20, if_true, if_false, decide_true, decide_false, Bool.not_true, Bool.not_false, Bool.true_and, Bool.false_and, Bool.true_or, Bool.false_or, b2i_t, b2i_f, ite_true, ite_false, not_true_eq_false, not_false_eq_true, reduceCtorEq, decide_eq_true_eq])
        · refine wp_iconst (v := 1) (pc := 170) dX12_findChase_170 (by decide) ?_
          refine wp_goto (tgt := 175) (pc := 171) dX12_findChase_171 (by decide) ?_
          exact J18 _ (by simp only [c20, if_true, if_false, decide_true, decide_false, Bool.not_true, Bool.not_false, Bool.true_and, Bool.false_and, Bool.true_or, Bool.false_or, b2i_t, b2i_f, ite_true, ite_false, not_true_eq_false, not_false_eq_true, reduceCtorEq, decide_eq_true_eq])
    intro v19 ev19
    subst ev19
    refine wp_istore_n (pc := 175) dX12_findChase_175 (Nat.le_of_ble_eq_true rfl) rfl ?_
    show wp l M_X12_findChase (d + 1) 0 0 _ [some (.ref h), some (.int (b2i (!decide ((mi (h + 19) (Int32.toNatClampNeg x2)) ≤ s0)))), some (.int x2), some (.int s0)] _ 0 0 kd _ _ mr _
    refine wp_aload_n (pc := 176) dX12_findChase_176 rfl ?_
    refine wp_getR (pc := 177) dX12_findChase_177 fl_X12_66 rfl (TX12s_k th) (TX12s_r43 th) ?_
    refine wp_iload_n (pc := 180) dX12_findChase_180 rfl ?_
    refine wp_aload_n (pc := 181) dX12_findChase_181 rfl ?_
    refine wp_getR (pc := 182) dX12_findChase_182 fl_X12_66 rfl (TX12s_k th) (TX12s_r43 th) ?_
    refine wp_iload_n (pc := 185) dX12_findChase_185 rfl ?_
    refine wp_iald (pc := 186) dX12_findChase_186 (TX12s_a43 th) F.1 ?_
    have F := F.2
    refine wp_iload_n (pc := 187) dX12_findChase_187 rfl ?_
    refine csI [.int (mi (h + 19) (Int32.toNatClampNeg x2)), .int s0] [.int x2, .ref (h + 19)] (pc := 188) dX12_findChase_188 ml_X12_476 st_X12_lesser rfl rfl (Nat.le_of_ble_eq_true rfl) (Nat.le_of_ble_eq_true rfl) (wI.mono (fun r21 mi22 ml23 F => ?_) F)
    refine wp_iast (pc := 191) dX12_findChase_191 (TX12s_a43 th) F.1 ?_
    have F := F.2
    refine wp_iinc (v := (x2 + 1)) (pc := 192) dX12_findChase_192 rfl rfl rfl ?_
    show wp l M_X12_findChase (d + 1) 0 0 _ [some (.ref h), some (.int (b2i (!decide ((mi (h + 19) (Int32.toNatClampNeg x2)) ≤ s0)))), some (.int (x2 + 1)), some (.int s0)] _ 0 0 kd _ _ mr _
    refine wp_goto (tgt := 103) (pc := 195) dX12_findChase_195 (by decide) ?_
    exact wp_less (L' := [some (.ref h), some (.int (b2i (!decide ((mi (h + 19) (Int32.toNatClampNeg x2)) ≤ s0)))), some (.int (x2 + 1)), none]) ⟨rfl, ⟨rfl, ⟨rfl, trivial⟩⟩⟩ F
theorem w_X12_findChase_170 {l : Launch} {d : Nat} {kd : pm_K} {mr : pm_R} {h : Nat} {x2 : Int32} {x3 : Int32} {mi : pm_I} {ml : pm_L} {K : pm_I → pm_L → Prop} (th : TX12s kd mr h)
    (F : c_X12_findChase_175 l (d + 1) kd mr h x2 x3 1 mi ml K) :
    c_X12_findChase_170 l (d + 1) kd mr h x2 x3 mi ml K := by
  show wp l M_X12_findChase (d + 1) 0 0 170 [some (.ref h), none, some (.int x2), some (.int x3)] [] 0 0 kd mi ml mr _
  refine wp_iconst (v := 1) (pc := 170) dX12_findChase_170 (by decide) ?_
  refine wp_goto (tgt := 175) (pc := 171) dX12_findChase_171 (by decide) ?_
  exact wp_less (L' := [some (.ref h), none, some (.int x2), some (.int x3)]) ⟨rfl, ⟨rfl, ⟨rfl, trivial⟩⟩⟩ F
theorem w_X12_findChase_175 {l : Launch} {d : Nat} {kd : pm_K} {mr : pm_R} {h : Nat} {x2 : Int32} {x3 : Int32} {s0 : Int32} {mi : pm_I} {ml : pm_L} {K : pm_I → pm_L → Prop} (th : TX12s kd mr h)
    (F : vp_in x2 4096 ∧ wI l M_X12_lesser d [.int (mi (h + 19) (Int32.toNatClampNeg x2)), .int x3] kd mr mi ml (fun r24 mi25 ml26 => vp_in x2 4096 ∧ c_X12_findChase_103 l (d + 1) kd mr h s0 (x2 + 1) (pm_up mi25 (h + 19) (Int32.toNatClampNeg x2) r24) ml26 K)) :
    c_X12_findChase_175 l (d + 1) kd mr h x2 x3 s0 mi ml K := by
  show wp l M_X12_findChase (d + 1) 0 0 175 [some (.ref h), none, some (.int x2), some (.int x3)] [.int s0] 0 0 kd mi ml mr _
  refine wp_istore_n (pc := 175) dX12_findChase_175 (Nat.le_of_ble_eq_true rfl) rfl ?_
  show wp l M_X12_findChase (d + 1) 0 0 _ [some (.ref h), some (.int s0), some (.int x2), some (.int x3)] _ 0 0 kd _ _ mr _
  refine wp_aload_n (pc := 176) dX12_findChase_176 rfl ?_
  refine wp_getR (pc := 177) dX12_findChase_177 fl_X12_66 rfl (TX12s_k th) (TX12s_r43 th) ?_
  refine wp_iload_n (pc := 180) dX12_findChase_180 rfl ?_
  refine wp_aload_n (pc := 181) dX12_findChase_181 rfl ?_
  refine wp_getR (pc := 182) dX12_findChase_182 fl_X12_66 rfl (TX12s_k th) (TX12s_r43 th) ?_
  refine wp_iload_n (pc := 185) dX12_findChase_185 rfl ?_
  refine wp_iald (pc := 186) dX12_findChase_186 (TX12s_a43 th) F.1 ?_
  have F := F.2
  refine wp_iload_n (pc := 187) dX12_findChase_187 rfl ?_
  refine csI [.int (mi (h + 19) (Int32.toNatClampNeg x2)), .int x3] [.int x2, .ref (h + 19)] (pc := 188) dX12_findChase_188 ml_X12_476 st_X12_lesser rfl rfl (Nat.le_of_ble_eq_true rfl) (Nat.le_of_ble_eq_true rfl) (wI.mono (fun r24 mi25 ml26 F => ?_) F)
  refine wp_iast (pc := 191) dX12_findChase_191 (TX12s_a43 th) F.1 ?_
  have F := F.2
  refine wp_iinc (v := (x2 + 1)) (pc := 192) dX12_findChase_192 rfl rfl rfl ?_
  show wp l M_X12_findChase (d + 1) 0 0 _ [some (.ref h), some (.int s0), some (.int (x2 + 1)), some (.int x3)] _ 0 0 kd _ _ mr _
  refine wp_goto (tgt := 103) (pc := 195) dX12_findChase_195 (by decide) ?_
  exact wp_less (L' := [some (.ref h), some (.int s0), some (.int (x2 + 1)), none]) ⟨rfl, ⟨rfl, ⟨rfl, trivial⟩⟩⟩ F
theorem w_X12_findChase_149 {l : Launch} {d : Nat} {kd : pm_K} {mr : pm_R} {h : Nat} {x1 : Int32} {x2 : Int32} {mi : pm_I} {ml : pm_L} {K : pm_I → pm_L → Prop} (th : TX12s kd mr h)
    (F : vp_in x2 4096 ∧ c_X12_findChase_155 l (d + 1) kd mr h x1 x2 (mi (h + 19) (Int32.toNatClampNeg x2)) mi ml K) :
    c_X12_findChase_149 l (d + 1) kd mr h x1 x2 mi ml K := by
  show wp l M_X12_findChase (d + 1) 0 0 149 [some (.ref h), some (.int x1), some (.int x2), none] [] 0 0 kd mi ml mr _
  refine wp_aload_n (pc := 149) dX12_findChase_149 rfl ?_
  refine wp_getR (pc := 150) dX12_findChase_150 fl_X12_66 rfl (TX12s_k th) (TX12s_r43 th) ?_
  refine wp_iload_n (pc := 153) dX12_findChase_153 rfl ?_
  refine wp_iald (pc := 154) dX12_findChase_154 (TX12s_a43 th) F.1 ?_
  have F := F.2
  exact wp_less (L' := [some (.ref h), some (.int x1), some (.int x2), none]) ⟨rfl, ⟨rfl, ⟨rfl, trivial⟩⟩⟩ F
/-- findChase()V -/
theorem w_X12_findChase {l : Launch} {d : Nat} {kd : pm_K} {mr : pm_R} {h : Nat}  {mi : pm_I} {ml : pm_L} {K : pm_I → pm_L → Prop} (th : TX12s kd mr h)
    (F : c_X12_findChase_2 l (d + 1) kd mr h 0 mi ml K) :
    wV l M_X12_findChase (d + 1) [.ref h] kd mr mi ml K := by
  show wp l M_X12_findChase (d + 1) 0 0 0 [some (.ref h), none, none, none] [] 0 0 kd mi ml mr _
  refine wp_iconst (v := 0) (pc := 0) dX12_findChase_0 (by decide) ?_
  refine wp_istore_n (pc := 1) dX12_findChase_1 (Nat.le_of_ble_eq_true rfl) rfl ?_
  show wp l M_X12_findChase (d + 1) 0 0 _ [some (.ref h), some (.int 0), none, none] _ 0 0 kd _ _ mr _
  exact wp_less (L' := [some (.ref h), some (.int 0), none, none]) ⟨rfl, ⟨rfl, trivial⟩⟩ F
def c_X12_stay_53 (l : Launch) (d : Nat) (kd : pm_K) (mr : pm_R) (h : Nat) (x1 : Int32) (x2 : Int32) (x4 : Int32) (s0 : Int32) (mi : pm_I) (ml : pm_L) (K : Int32 → pm_I → pm_L → Prop) : Prop := wp l M_X12_stay d 0 0 53 [some (.ref h), some (.int x1), some (.int x2), none, some (.int x4), none] [.int s0] 0 0 kd mi ml mr (qI kd mr K)
def c_X12_stay_12 (l : Launch) (d : Nat) (kd : pm_K) (mr : pm_R) (h : Nat) (x1 : Int32) (x2 : Int32) (x3 : Int32) (x4 : Int32) (mi : pm_I) (ml : pm_L) (K : Int32 → pm_I → pm_L → Prop) : Prop := wp l M_X12_stay d 0 0 12 [some (.ref h), some (.int x1), some (.int x2), some (.int x3), some (.int x4), none] [] 0 0 kd mi ml mr (qI kd mr K)
theorem w_X12_stay_12 {l : Launch} {d : Nat} {kd : pm_K} {mr : pm_R} {h : Nat} {x1 : Int32} {x2 : Int32} {x3 : Int32} {x4 : Int32} {mi : pm_I} {ml : pm_L} {K : Int32 → pm_I → pm_L → Prop} (th : TX12s kd mr h)
    (F : ((4 < x4 → K x3 mi ml) ∧ (¬ 4 < x4 → wI l M_X12_free d [.ref h, .int x2, .int x4] kd mr mi ml (fun r3 mi4 ml5 => ((¬ r3 = (-1) → vp_in ((64 * x1) + r3) 4096 ∧ wI l M_X12_greater d [.int x3, .int (mi4 (h + 19) (Int32.toNatClampNeg ((64 * x1) + r3)))] kd mr mi4 ml5 (fun r7 mi8 ml9 => c_X12_stay_53 l (d + 1) kd mr h x1 x2 x4 r7 mi8 ml9 K)) ∧ (r3 = (-1) → c_X12_stay_53 l (d + 1) kd mr h x1 x2 x4 x3 mi4 ml5 K)))))) :
    c_X12_stay_12 l (d + 1) kd mr h x1 x2 x3 x4 mi ml K := by
  show wp l M_X12_stay (d + 1) 0 0 12 [some (.ref h), some (.int x1), some (.int x2), some (.int x3), some (.int x4), none] [] 0 0 kd mi ml mr _
  refine wp_iload (pc := 12) dX12_stay_12 rfl ?_
  refine wp_iconst (v := 4) (pc := 14) dX12_stay_14 (by decide) ?_
  refine wp_icmp_gt (tgt := 60) (pc := 15) dX12_stay_15 (by decide) (fun c2 => ?_) (fun c2 => ?_)
  · have F := F.1 c2
    refine wp_iload_n (pc := 60) dX12_stay_60 rfl ?_
    exact r_I (pc := 61) dX12_stay_61 rfl F
  · have F := F.2 c2
    refine wp_aload_n (pc := 18) dX12_stay_18 rfl ?_
    refine wp_iload_n (pc := 19) dX12_stay_19 rfl ?_
    refine wp_iload (pc := 20) dX12_stay_20 rfl ?_
    refine cvI [.int x2, .int x4] [] (pc := 22) dX12_stay_22 ml_X12_383 iv_X12_free (TX12s_k th) (cl_X12 rfl) rfl rfl (Nat.le_of_ble_eq_true rfl) (Nat.le_of_ble_eq_true rfl) (wI.mono (fun r3 mi4 ml5 F => ?_) F)
    refine wp_istore (pc := 25) dX12_stay_25 (Nat.le_of_ble_eq_true rfl) rfl ?_
    show wp l M_X12_stay (d + 1) 0 0 _ [some (.ref h), some (.int x1), some (.int x2), some (.int x3), some (.int x4), some (.int r3)] _ 0 0 kd _ _ mr _
    refine wp_iload (pc := 27) dX12_stay_27 rfl ?_
    refine wp_iconst (v := -1) (pc := 29) dX12_stay_29 (by decide) ?_
    refine wp_icmp_ne (tgt := 37) (pc := 30) dX12_stay_30 (by decide) (fun c6 => ?_) (fun c6 => ?_)
    · have F := F.1 c6
      refine wp_iload_n (pc := 37) dX12_stay_37 rfl ?_
      refine wp_aload_n (pc := 38) dX12_stay_38 rfl ?_
      refine wp_getR (pc := 39) dX12_stay_39 fl_X12_66 rfl (TX12s_k th) (TX12s_r43 th) ?_
      refine wp_bipush (v := 64) (pc := 42) dX12_stay_42 (by decide) ?_
      refine wp_iload_n (pc := 44) dX12_stay_44 rfl ?_
      refine wp_imul (pc := 45) dX12_stay_45 ?_
      refine wp_iload (pc := 46) dX12_stay_46 rfl ?_
      refine wp_iadd (pc := 48) dX12_stay_48 ?_
      refine wp_iald (pc := 49) dX12_stay_49 (TX12s_a43 th) F.1 ?_
      have F := F.2
      refine csI [.int x3, .int (mi4 (h + 19) (Int32.toNatClampNeg ((64 * x1) + r3)))] [] (pc := 50) dX12_stay_50 ml_X12_180 st_X12_greater rfl rfl (Nat.le_of_ble_eq_true rfl) (Nat.le_of_ble_eq_true rfl) (wI.mono (fun r7 mi8 ml9 F => ?_) F)
      exact wp_less (L' := [some (.ref h), some (.int x1), some (.int x2), none, some (.int x4), none]) ⟨rfl, ⟨rfl, ⟨rfl, ⟨rfl, trivial⟩⟩⟩⟩ F
    · have F := F.2 c6
      refine wp_iload_n (pc := 33) dX12_stay_33 rfl ?_
      refine wp_goto (tgt := 53) (pc := 34) dX12_stay_34 (by decide) ?_
      exact wp_less (L' := [some (.ref h), some (.int x1), some (.int x2), none, some (.int x4), none]) ⟨rfl, ⟨rfl, ⟨rfl, ⟨rfl, trivial⟩⟩⟩⟩ F
theorem w_X12_stay_53 {l : Launch} {d : Nat} {kd : pm_K} {mr : pm_R} {h : Nat} {x1 : Int32} {x2 : Int32} {x4 : Int32} {s0 : Int32} {mi : pm_I} {ml : pm_L} {K : Int32 → pm_I → pm_L → Prop} (th : TX12s kd mr h)
    (F : c_X12_stay_12 l (d + 1) kd mr h x1 x2 s0 (x4 + 1) mi ml K) :
    c_X12_stay_53 l (d + 1) kd mr h x1 x2 x4 s0 mi ml K := by
  show wp l M_X12_stay (d + 1) 0 0 53 [some (.ref h), some (.int x1), some (.int x2), none, some (.int x4), none] [.int s0] 0 0 kd mi ml mr _
  refine wp_istore_n (pc := 53) dX12_stay_53 (Nat.le_of_ble_eq_true rfl) rfl ?_
  show wp l M_X12_stay (d + 1) 0 0 _ [some (.ref h), some (.int x1), some (.int x2), some (.int s0), some (.int x4), none] _ 0 0 kd _ _ mr _
  refine wp_iinc (v := (x4 + 1)) (pc := 54) dX12_stay_54 rfl rfl rfl ?_
  show wp l M_X12_stay (d + 1) 0 0 _ [some (.ref h), some (.int x1), some (.int x2), some (.int s0), some (.int (x4 + 1)), none] _ 0 0 kd _ _ mr _
  refine wp_goto (tgt := 12) (pc := 57) dX12_stay_57 (by decide) ?_
  exact wp_less (L' := [some (.ref h), some (.int x1), some (.int x2), some (.int s0), some (.int (x4 + 1)), none]) ⟨rfl, ⟨rfl, ⟨rfl, ⟨rfl, ⟨rfl, trivial⟩⟩⟩⟩⟩ F
/-- stay(II)I -/
theorem w_X12_stay {l : Launch} {d : Nat} {kd : pm_K} {mr : pm_R} {h : Nat} {x1 : Int32} {x2 : Int32} {mi : pm_I} {ml : pm_L} {K : Int32 → pm_I → pm_L → Prop} (th : TX12s kd mr h)
    (F : ((¬ x1 = x2 → c_X12_stay_12 l (d + 1) kd mr h x1 x2 (-1) 0 mi ml K) ∧ (x1 = x2 → K 0 mi ml))) :
    wI l M_X12_stay (d + 1) [.ref h, .int x1, .int x2] kd mr mi ml K := by
  show wp l M_X12_stay (d + 1) 0 0 0 [some (.ref h), some (.int x1), some (.int x2), none, none, none] [] 0 0 kd mi ml mr _
  refine wp_iload_n (pc := 0) dX12_stay_0 rfl ?_
  refine wp_iload_n (pc := 1) dX12_stay_1 rfl ?_
  refine wp_icmp_ne (tgt := 7) (pc := 2) dX12_stay_2 (by decide) (fun c1 => ?_) (fun c1 => ?_)
  · have F := F.1 c1
    refine wp_iconst (v := -1) (pc := 7) dX12_stay_7 (by decide) ?_
    refine wp_istore_n (pc := 8) dX12_stay_8 (Nat.le_of_ble_eq_true rfl) rfl ?_
    show wp l M_X12_stay (d + 1) 0 0 _ [some (.ref h), some (.int x1), some (.int x2), some (.int (-1)), none, none] _ 0 0 kd _ _ mr _
    refine wp_iconst (v := 0) (pc := 9) dX12_stay_9 (by decide) ?_
    refine wp_istore (pc := 10) dX12_stay_10 (Nat.le_of_ble_eq_true rfl) rfl ?_
    show wp l M_X12_stay (d + 1) 0 0 _ [some (.ref h), some (.int x1), some (.int x2), some (.int (-1)), some (.int 0), none] _ 0 0 kd _ _ mr _
    exact wp_less (L' := [some (.ref h), some (.int x1), some (.int x2), some (.int (-1)), some (.int 0), none]) ⟨rfl, ⟨rfl, ⟨rfl, ⟨rfl, ⟨rfl, trivial⟩⟩⟩⟩⟩ F
  · have F := F.2 c1
    refine wp_iconst (v := 0) (pc := 5) dX12_stay_5 (by decide) ?_
    exact r_I (pc := 6) dX12_stay_6 rfl F
def c_X12_sooner_50 (l : Launch) (d : Nat) (kd : pm_K) (mr : pm_R) (h : Nat) (x1 : Int32) (x2 : Int32) (x4 : Int32) (s0 : Int32) (mi : pm_I) (ml : pm_L) (K : Int32 → pm_I → pm_L → Prop) : Prop := wp l M_X12_sooner d 0 0 50 [some (.ref h), some (.int x1), some (.int x2), none, some (.int x4), none] [.int s0] 0 0 kd mi ml mr (qI kd mr K)
def c_X12_sooner_7 (l : Launch) (d : Nat) (kd : pm_K) (mr : pm_R) (h : Nat) (x1 : Int32) (x2 : Int32) (x3 : Int32) (x4 : Int32) (mi : pm_I) (ml : pm_L) (K : Int32 → pm_I → pm_L → Prop) : Prop := wp l M_X12_sooner d 0 0 7 [some (.ref h), some (.int x1), some (.int x2), some (.int x3), some (.int x4), none] [] 0 0 kd mi ml mr (qI kd mr K)
theorem w_X12_sooner_7 {l : Launch} {d : Nat} {kd : pm_K} {mr : pm_R} {h : Nat} {x1 : Int32} {x2 : Int32} {x3 : Int32} {x4 : Int32} {mi : pm_I} {ml : pm_L} {K : Int32 → pm_I → pm_L → Prop} (th : TX12s kd mr h)
    (F : ((4 < x4 → K x3 mi ml) ∧ (¬ 4 < x4 → wI l M_X12_free d [.ref h, .int x1, .int x4] kd mr mi ml (fun r2 mi3 ml4 => ((¬ r2 = (-1) → vp_in ((64 * r2) + x2) 4096 ∧ wI l M_X12_lesser d [.int x3, .int ((mi3 (h + 20) (Int32.toNatClampNeg ((64 * r2) + x2))) + 1)] kd mr mi3 ml4 (fun r6 mi7 ml8 => c_X12_sooner_50 l (d + 1) kd mr h x1 x2 x4 r6 mi7 ml8 K)) ∧ (r2 = (-1) → c_X12_sooner_50 l (d + 1) kd mr h x1 x2 x4 x3 mi3 ml4 K)))))) :
    c_X12_sooner_7 l (d + 1) kd mr h x1 x2 x3 x4 mi ml K := by
  show wp l M_X12_sooner (d + 1) 0 0 7 [some (.ref h), some (.int x1), some (.int x2), some (.int x3), some (.int x4), none] [] 0 0 kd mi ml mr _
  refine wp_iload (pc := 7) dX12_sooner_7 rfl ?_
  refine wp_iconst (v := 4) (pc := 9) dX12_sooner_9 (by decide) ?_
  refine wp_icmp_gt (tgt := 57) (pc := 10) dX12_sooner_10 (by decide) (fun c1 => ?_) (fun c1 => ?_)
  · have F := F.1 c1
    refine wp_iload_n (pc := 57) dX12_sooner_57 rfl ?_
    exact r_I (pc := 58) dX12_sooner_58 rfl F
  · have F := F.2 c1
    refine wp_aload_n (pc := 13) dX12_sooner_13 rfl ?_
    refine wp_iload_n (pc := 14) dX12_sooner_14 rfl ?_
    refine wp_iload (pc := 15) dX12_sooner_15 rfl ?_
    refine cvI [.int x1, .int x4] [] (pc := 17) dX12_sooner_17 ml_X12_383 iv_X12_free (TX12s_k th) (cl_X12 rfl) rfl rfl (Nat.le_of_ble_eq_true rfl) (Nat.le_of_ble_eq_true rfl) (wI.mono (fun r2 mi3 ml4 F => ?_) F)
    refine wp_istore (pc := 20) dX12_sooner_20 (Nat.le_of_ble_eq_true rfl) rfl ?_
    show wp l M_X12_sooner (d + 1) 0 0 _ [some (.ref h), some (.int x1), some (.int x2), some (.int x3), some (.int x4), some (.int r2)] _ 0 0 kd _ _ mr _
    refine wp_iload (pc := 22) dX12_sooner_22 rfl ?_
    refine wp_iconst (v := -1) (pc := 24) dX12_sooner_24 (by decide) ?_
    refine wp_icmp_ne (tgt := 32) (pc := 25) dX12_sooner_25 (by decide) (fun c5 => ?_) (fun c5 => ?_)
    · have F := F.1 c5
      refine wp_iload_n (pc := 32) dX12_sooner_32 rfl ?_
      refine wp_aload_n (pc := 33) dX12_sooner_33 rfl ?_
      refine wp_getR (pc := 34) dX12_sooner_34 fl_X12_69 rfl (TX12s_k th) (TX12s_r44 th) ?_
      refine wp_bipush (v := 64) (pc := 37) dX12_sooner_37 (by decide) ?_
      refine wp_iload (pc := 39) dX12_sooner_39 rfl ?_
      refine wp_imul (pc := 41) dX12_sooner_41 ?_
      refine wp_iload_n (pc := 42) dX12_sooner_42 rfl ?_
      refine wp_iadd (pc := 43) dX12_sooner_43 ?_
      refine wp_iald (pc := 44) dX12_sooner_44 (TX12s_a44 th) F.1 ?_
      have F := F.2
      refine wp_iconst (v := 1) (pc := 45) dX12_sooner_45 (by decide) ?_
      refine wp_iadd (pc := 46) dX12_sooner_46 ?_
      refine csI [.int x3, .int ((mi3 (h + 20) (Int32.toNatClampNeg ((64 * r2) + x2))) + 1)] [] (pc := 47) dX12_sooner_47 ml_X12_476 st_X12_lesser rfl rfl (Nat.le_of_ble_eq_true rfl) (Nat.le_of_ble_eq_true rfl) (wI.mono (fun r6 mi7 ml8 F => ?_) F)
      exact wp_less (L' := [some (.ref h), some (.int x1), some (.int x2), none, some (.int x4), none]) ⟨rfl, ⟨rfl, ⟨rfl, ⟨rfl, trivial⟩⟩⟩⟩ F
    · have F := F.2 c5
      refine wp_iload_n (pc := 28) dX12_sooner_28 rfl ?_
      refine wp_goto (tgt := 50) (pc := 29) dX12_sooner_29 (by decide) ?_
      exact wp_less (L' := [some (.ref h), some (.int x1), some (.int x2), none, some (.int x4), none]) ⟨rfl, ⟨rfl, ⟨rfl, ⟨rfl, trivial⟩⟩⟩⟩ F
theorem w_X12_sooner_50 {l : Launch} {d : Nat} {kd : pm_K} {mr : pm_R} {h : Nat} {x1 : Int32} {x2 : Int32} {x4 : Int32} {s0 : Int32} {mi : pm_I} {ml : pm_L} {K : Int32 → pm_I → pm_L → Prop} (th : TX12s kd mr h)
    (F : c_X12_sooner_7 l (d + 1) kd mr h x1 x2 s0 (x4 + 1) mi ml K) :
    c_X12_sooner_50 l (d + 1) kd mr h x1 x2 x4 s0 mi ml K := by
  show wp l M_X12_sooner (d + 1) 0 0 50 [some (.ref h), some (.int x1), some (.int x2), none, some (.int x4), none] [.int s0] 0 0 kd mi ml mr _
  refine wp_istore_n (pc := 50) dX12_sooner_50 (Nat.le_of_ble_eq_true rfl) rfl ?_
  show wp l M_X12_sooner (d + 1) 0 0 _ [some (.ref h), some (.int x1), some (.int x2), some (.int s0), some (.int x4), none] _ 0 0 kd _ _ mr _
  refine wp_iinc (v := (x4 + 1)) (pc := 51) dX12_sooner_51 rfl rfl rfl ?_
  show wp l M_X12_sooner (d + 1) 0 0 _ [some (.ref h), some (.int x1), some (.int x2), some (.int s0), some (.int (x4 + 1)), none] _ 0 0 kd _ _ mr _
  refine wp_goto (tgt := 7) (pc := 54) dX12_sooner_54 (by decide) ?_
  exact wp_less (L' := [some (.ref h), some (.int x1), some (.int x2), some (.int s0), some (.int (x4 + 1)), none]) ⟨rfl, ⟨rfl, ⟨rfl, ⟨rfl, ⟨rfl, trivial⟩⟩⟩⟩⟩ F
/-- sooner(II)I -/
theorem w_X12_sooner {l : Launch} {d : Nat} {kd : pm_K} {mr : pm_R} {h : Nat} {x1 : Int32} {x2 : Int32} {mi : pm_I} {ml : pm_L} {K : Int32 → pm_I → pm_L → Prop} (th : TX12s kd mr h)
    (F : c_X12_sooner_7 l (d + 1) kd mr h x1 x2 1000000 0 mi ml K) :
    wI l M_X12_sooner (d + 1) [.ref h, .int x1, .int x2] kd mr mi ml K := by
  show wp l M_X12_sooner (d + 1) 0 0 0 [some (.ref h), some (.int x1), some (.int x2), none, none, none] [] 0 0 kd mi ml mr _
  refine wp_ldcw (v := 1000000) (pc := 0) dX12_sooner_0 (tb_7 197 rfl rfl) ?_
  refine wp_istore_n (pc := 3) dX12_sooner_3 (Nat.le_of_ble_eq_true rfl) rfl ?_
  show wp l M_X12_sooner (d + 1) 0 0 _ [some (.ref h), some (.int x1), some (.int x2), some (.int 1000000), none, none] _ 0 0 kd _ _ mr _
  refine wp_iconst (v := 0) (pc := 4) dX12_sooner_4 (by decide) ?_
  refine wp_istore (pc := 5) dX12_sooner_5 (Nat.le_of_ble_eq_true rfl) rfl ?_
  show wp l M_X12_sooner (d + 1) 0 0 _ [some (.ref h), some (.int x1), some (.int x2), some (.int 1000000), some (.int 0), none] _ 0 0 kd _ _ mr _
  exact wp_less (L' := [some (.ref h), some (.int x1), some (.int x2), some (.int 1000000), some (.int 0), none]) ⟨rfl, ⟨rfl, ⟨rfl, ⟨rfl, ⟨rfl, trivial⟩⟩⟩⟩⟩ F
/-- lesser(II)I -/
theorem w_X12_lesser {l : Launch} {d : Nat} {kd : pm_K} {mr : pm_R}  {x0 : Int32} {x1 : Int32} {mi : pm_I} {ml : pm_L} {K : Int32 → pm_I → pm_L → Prop} 
    (F : K (if x1 ≤ x0 then x1 else x0) mi ml) :
    wI l M_X12_lesser d [.int x0, .int x1] kd mr mi ml K := by
  show wp l M_X12_lesser d 0 0 0 [some (.int x0), some (.int x1)] [] 0 0 kd mi ml mr _
  refine wp_iload_n (pc := 0) dX12_lesser_0 rfl ?_
  refine wp_iload_n (pc := 1) dX12_lesser_1 rfl ?_
  suffices J1 : ∀ v2 : Int32, v2 = (if x1 ≤ x0 then x1 else x0) → wp l M_X12_lesser d 0 0 10 [some (.int x0), some (.int x1)] [.int v2] 0 0 kd mi ml mr _ by
      refine wp_icmp_ge (tgt := 9) (pc := 2) dX12_lesser_2 (by decide) (fun c3 => ?_) (fun c3 => ?_)
      · refine wp_iload_n (pc := 9) dX12_lesser_9 rfl ?_
        exact J1 _ (by simp only [eq_true c3, if_true, if_false, decide_true, decide_false, Bool.not_true, Bool.not_false, Bool.true_and, Bool.false_and, Bool.true_or, Bool.false_or, b2i_t, b2i_f, ite_true, ite_false, not_true_eq_false, not_false_eq_true, reduceCtorEq, decide_eq_true_eq])
      · refine wp_iload_n (pc := 5) dX12_lesser_5 rfl ?_
        refine wp_goto (tgt := 10) (pc := 6) dX12_lesser_6 (by decide) ?_
        exact J1 _ (by simp only [c3, if_true, if_false, decide_true, decide_false, Bool.not_true, Bool.not_false, Bool.true_and, Bool.false_and, Bool.true_or, Bool.false_or, b2i_t, b2i_f, ite_true, ite_false, not_true_eq_false, not_false_eq_true, reduceCtorEq, decide_eq_true_eq])
  intro v2 ev2
  subst ev2
  exact r_I (pc := 10) dX12_lesser_10 rfl F
/-- programme(III)I -/
theorem w_X12_programme {l : Launch} {d : Nat} {kd : pm_K} {mr : pm_R} {h : Nat} {x1 : Int32} {x2 : Int32} {x3 : Int32} {mi : pm_I} {ml : pm_L} {K : Int32 → pm_I → pm_L → Prop} (th : TX12s kd mr h)
    (F : wB l M_X12_in d [.int x2, .int 0, .int 12] kd mr (pm_up mi h 0 0) ml (fun r1 mi2 ml3 => ((r1 = false → K (-1) mi2 ml3) ∧ (r1 = true → wB l M_X12_in d [.int x3, .int (-2), .int (x2 - 1)] kd mr mi2 ml3 (fun r5 mi6 ml7 => ((r5 = false → K (-1) mi6 ml7) ∧ (r5 = true → wB l M_X12_hand d [.ref h, .int x1] kd mr mi6 ml7 (fun r9 mi10 ml11 => ((r9 = true → wV l M_X12_findBrings d [.ref h, .int x2, .int (b2i (decide (x3 = (-2))))] kd mr mi10 ml11 (fun mi17 ml18 => ((0 ≤ x3 → wI l M_X12_commandAt d [.ref h, .int x2, .int x3] kd mr mi17 ml18 (fun r20 mi21 ml22 => K r20 mi21 ml22)) ∧ (¬ 0 ≤ x3 → wI l M_X12_cell d [.int x2, .int 0, .int 4] kd mr mi17 ml18 (fun r23 mi24 ml25 => vp_in r23 40625 ∧ K (mi24 (h + 21) (Int32.toNatClampNeg r23)) mi24 ml25))))) ∧ (r9 = false → K (-1) mi10 ml11)))))))))) :
    wI l M_X12_programme (d + 1) [.ref h, .int x1, .int x2, .int x3] kd mr mi ml K := by
  show wp l M_X12_programme (d + 1) 0 0 0 [some (.ref h), some (.int x1), some (.int x2), some (.int x3)] [] 0 0 kd mi ml mr _
  refine wp_aload_n (pc := 0) dX12_programme_0 rfl ?_
  refine wp_iconst (v := 0) (pc := 1) dX12_programme_1 (by decide) ?_
  refine wp_putI (pc := 2) dX12_programme_2 fl_X12_107 rfl rfl (TX12s_k th) ?_
  refine wp_iload_n (pc := 5) dX12_programme_5 rfl ?_
  refine wp_iconst (v := 0) (pc := 6) dX12_programme_6 (by decide) ?_
  refine wp_bipush (v := 12) (pc := 7) dX12_programme_7 (by decide) ?_
  refine csB [.int x2, .int 0, .int 12] [] (pc := 9) dX12_programme_9 ml_X12_119 st_X12_in rfl rfl (Nat.le_of_ble_eq_true rfl) (Nat.le_of_ble_eq_true rfl) (wB.mono (fun r1 mi2 ml3 F => ?_) F)
  refine b_eq (tgt := 35) (pc := 12) dX12_programme_12 (by decide) (fun c4 => ?_) (fun c4 => ?_)
  · have F := F.1 c4
    refine wp_iconst (v := -1) (pc := 35) dX12_programme_35 (by decide) ?_
    exact r_I (pc := 36) dX12_programme_36 rfl F
  · have F := F.2 c4
    refine wp_iload_n (pc := 15) dX12_programme_15 rfl ?_
    refine wp_bipush (v := -2) (pc := 16) dX12_programme_16 (by decide) ?_
    refine wp_iload_n (pc := 18) dX12_programme_18 rfl ?_
    refine wp_iconst (v := 1) (pc := 19) dX12_programme_19 (by decide) ?_
    refine wp_isub (pc := 20) dX12_programme_20 ?_
    refine csB [.int x3, .int (-2), .int (x2 - 1)] [] (pc := 21) dX12_programme_21 ml_X12_119 st_X12_in rfl rfl (Nat.le_of_ble_eq_true rfl) (Nat.le_of_ble_eq_true rfl) (wB.mono (fun r5 mi6 ml7 F => ?_) F)
    refine b_eq (tgt := 35) (pc := 24) dX12_programme_24 (by decide) (fun c8 => ?_) (fun c8 => ?_)
    · have F := F.1 c8
      refine wp_iconst (v := -1) (pc := 35) dX12_programme_35 (by decide) ?_
      exact r_I (pc := 36) dX12_programme_36 rfl F
    · have F := F.2 c8
      refine wp_aload_n (pc := 27) dX12_programme_27 rfl ?_
      refine wp_iload_n (pc := 28) dX12_programme_28 rfl ?_
      refine cvB [.int x1] [] (pc := 29) dX12_programme_29 ml_X12_346 iv_X12_hand (TX12s_k th) (cl_X12 rfl) rfl rfl (Nat.le_of_ble_eq_true rfl) (Nat.le_of_ble_eq_true rfl) (wB.mono (fun r9 mi10 ml11 F => ?_) F)
      refine b_ne (tgt := 37) (pc := 32) dX12_programme_32 (by decide) (fun c12 => ?_) (fun c12 => ?_)
      · have F := F.1 c12
        refine wp_aload_n (pc := 37) dX12_programme_37 rfl ?_
        refine wp_iload_n (pc := 38) dX12_programme_38 rfl ?_
        refine wp_iload_n (pc := 39) dX12_programme_39 rfl ?_
        refine wp_bipush (v := -2) (pc := 40) dX12_programme_40 (by decide) ?_
        suffices J13 : ∀ v14 : Int32, v14 = (b2i (decide (x3 = (-2)))) → wp l M_X12_programme (d + 1) 0 0 50 [some (.ref h), some (.int x1), some (.int x2), some (.int x3)] [.int v14, .int x2, .ref h] 0 0 kd mi10 ml11 mr _ by
            refine wp_icmp_ne (tgt := 49) (pc := 42) dX12_programme_42 (by decide) (fun c15 => ?_) (fun c15 => ?_)
            · refine wp_iconst (v := 0) (pc := 49) dX12_programme_49 (by decide) ?_
              exact J13 _ (by simp only [c15, if_true, if_false, decide_true, decide_false, Bool.not_true, Bool.not_false, Bool.true_and, Bool.false_and, Bool.true_or, Bool.false_or, b2i_t, b2i_f, ite_true, ite_false, not_true_eq_false, not_false_eq_true, reduceCtorEq, decide_eq_true_eq])
            · refine wp_iconst (v := 1) (pc := 45) dX12_programme_45 (by decide) ?_
              refine wp_goto (tgt := 50) (pc := 46) dX12_programme_46 (by decide) ?_
              exact J13 _ (by simp only [eq_true c15, if_true, if_false, decide_true, decide_false, Bool.not_true, Bool.not_false, Bool.true_and, Bool.false_and, Bool.true_or, Bool.false_or, b2i_t, b2i_f, ite_true, ite_false, not_true_eq_false, not_false_eq_true, reduceCtorEq, decide_eq_true_eq])
        intro v14 ev14
        subst ev14
        refine cvV [.int x2, .int (b2i (decide (x3 = (-2))))] [] (pc := 50) dX12_programme_50 ml_X12_501 iv_X12_findBrings (TX12s_k th) (cl_X12 rfl) rfl rfl (Nat.le_of_ble_eq_true rfl) (Nat.le_of_ble_eq_true rfl) (wV.mono (fun mi17 ml18 F => ?_) F)
        refine wp_iload_n (pc := 53) dX12_programme_53 rfl ?_
        refine wp_if_ge (tgt := 71) (pc := 54) dX12_programme_54 (by decide) (fun c19 => ?_) (fun c19 => ?_)
        · have F := F.1 c19
          refine wp_aload_n (pc := 71) dX12_programme_71 rfl ?_
          refine wp_iload_n (pc := 72) dX12_programme_72 rfl ?_
          refine wp_iload_n (pc := 73) dX12_programme_73 rfl ?_
          refine cvI [.int x2, .int x3] [] (pc := 74) dX12_programme_74 ml_X12_505 iv_X12_commandAt (TX12s_k th) (cl_X12 rfl) rfl rfl (Nat.le_of_ble_eq_true rfl) (Nat.le_of_ble_eq_true rfl) (wI.mono (fun r20 mi21 ml22 F => ?_) F)
          exact r_I (pc := 77) dX12_programme_77 rfl F
        · have F := F.2 c19
          refine wp_aload_n (pc := 57) dX12_programme_57 rfl ?_
          refine wp_getR (pc := 58) dX12_programme_58 fl_X12_73 rfl (TX12s_k th) (TX12s_r45 th) ?_
          refine wp_iload_n (pc := 61) dX12_programme_61 rfl ?_
          refine wp_iconst (v := 0) (pc := 62) dX12_programme_62 (by decide) ?_
          refine wp_iconst (v := 4) (pc := 63) dX12_programme_63 (by decide) ?_
          refine csI [.int x2, .int 0, .int 4] [.ref (h + 21)] (pc := 64) dX12_programme_64 ml_X12_497 st_X12_cell rfl rfl (Nat.le_of_ble_eq_true rfl) (Nat.le_of_ble_eq_true rfl) (wI.mono (fun r23 mi24 ml25 F => ?_) F)
          refine wp_iald (pc := 67) dX12_programme_67 (TX12s_a45 th) F.1 ?_
          have F := F.2
          refine wp_goto (tgt := 77) (pc := 68) dX12_programme_68 (by decide) ?_
          exact r_I (pc := 77) dX12_programme_77 rfl F
      · have F := F.2 c12
        refine wp_iconst (v := -1) (pc := 35) dX12_programme_35 (by decide) ?_
        exact r_I (pc := 36) dX12_programme_36 rfl F
def c_X12_findBrings_109 (l : Launch) (d : Nat) (kd : pm_K) (mr : pm_R) (h : Nat) (x1 : Int32) (x2 : Int32) (x3 : Int32) (x4 : Int32) (x5 : Int32) (x6 : Int32) (mi : pm_I) (ml : pm_L) (K : pm_I → pm_L → Prop) : Prop := wp l M_X12_findBrings d 0 0 109 [some (.ref h), some (.int x1), some (.int x2), some (.int x3), some (.int x4), some (.int x5), some (.int x6), none] [] 0 0 kd mi ml mr (qV kd mr K)
def c_X12_findBrings_67 (l : Launch) (d : Nat) (kd : pm_K) (mr : pm_R) (h : Nat) (x1 : Int32) (x2 : Int32) (x3 : Int32) (x4 : Int32) (x5 : Int32) (x6 : Int32) (x7 : Int32) (mi : pm_I) (ml : pm_L) (K : pm_I → pm_L → Prop) : Prop := wp l M_X12_findBrings d 0 0 67 [some (.ref h), some (.int x1), some (.int x2), some (.int x3), some (.int x4), some (.int x5), some (.int x6), some (.int x7)] [] 0 0 kd mi ml mr (qV kd mr K)
def c_X12_findBrings_101 (l : Launch) (d : Nat) (kd : pm_K) (mr : pm_R) (h : Nat) (x1 : Int32) (x2 : Int32) (x3 : Int32) (x4 : Int32) (x5 : Int32) (x7 : Int32) (s0 : Int32) (mi : pm_I) (ml : pm_L) (K : pm_I → pm_L → Prop) : Prop := wp l M_X12_findBrings d 0 0 101 [some (.ref h), some (.int x1), some (.int x2), some (.int x3), some (.int x4), some (.int x5), none, some (.int x7)] [.int s0] 0 0 kd mi ml mr (qV kd mr K)
def c_X12_findBrings_41 (l : Launch) (d : Nat) (kd : pm_K) (mr : pm_R) (h : Nat) (x1 : Int32) (x2 : Int32) (x3 : Int32) (x4 : Int32) (x5 : Int32) (x6 : Int32) (x7 : Int32) (mi : pm_I) (ml : pm_L) (K : pm_I → pm_L → Prop) : Prop := wp l M_X12_findBrings d 0 0 41 [some (.ref h), some (.int x1), some (.int x2), some (.int x3), some (.int x4), some (.int x5), some (.int x6), some (.int x7)] [] 0 0 kd mi ml mr (qV kd mr K)
def c_X12_findBrings_21 (l : Launch) (d : Nat) (kd : pm_K) (mr : pm_R) (h : Nat) (x1 : Int32) (x2 : Int32) (x3 : Int32) (x4 : Int32) (x5 : Int32) (mi : pm_I) (ml : pm_L) (K : pm_I → pm_L → Prop) : Prop := wp l M_X12_findBrings d 0 0 21 [some (.ref h), some (.int x1), some (.int x2), some (.int x3), some (.int x4), some (.int x5), none, none] [] 0 0 kd mi ml mr (qV kd mr K)
def c_X12_findBrings_10 (l : Launch) (d : Nat) (kd : pm_K) (mr : pm_R) (h : Nat) (x1 : Int32) (x2 : Int32) (x3 : Int32) (x4 : Int32) (mi : pm_I) (ml : pm_L) (K : pm_I → pm_L → Prop) : Prop := wp l M_X12_findBrings d 0 0 10 [some (.ref h), some (.int x1), some (.int x2), some (.int x3), some (.int x4), none, none, none] [] 0 0 kd mi ml mr (qV kd mr K)
def c_X12_findBrings_2 (l : Launch) (d : Nat) (kd : pm_K) (mr : pm_R) (h : Nat) (x1 : Int32) (x2 : Int32) (x3 : Int32) (mi : pm_I) (ml : pm_L) (K : pm_I → pm_L → Prop) : Prop := wp l M_X12_findBrings d 0 0 2 [some (.ref h), some (.int x1), some (.int x2), some (.int x3), none, none, none, none] [] 0 0 kd mi ml mr (qV kd mr K)
theorem w_X12_findBrings_2 {l : Launch} {d : Nat} {kd : pm_K} {mr : pm_R} {h : Nat} {x1 : Int32} {x2 : Int32} {x3 : Int32} {mi : pm_I} {ml : pm_L} {K : pm_I → pm_L → Prop} (th : TX12s kd mr h)
    (F : ((x1 < x3 → K mi ml) ∧ (¬ x1 < x3 → c_X12_findBrings_10 l (d + 1) kd mr h x1 x2 x3 0 mi ml K))) :
    c_X12_findBrings_2 l (d + 1) kd mr h x1 x2 x3 mi ml K := by
  show wp l M_X12_findBrings (d + 1) 0 0 2 [some (.ref h), some (.int x1), some (.int x2), some (.int x3), none, none, none, none] [] 0 0 kd mi ml mr _
  refine wp_iload_n (pc := 2) dX12_findBrings_2 rfl ?_
  refine wp_iload_n (pc := 3) dX12_findBrings_3 rfl ?_
  refine wp_icmp_gt (tgt := 142) (pc := 4) dX12_findBrings_4 (by decide) (fun c1 => ?_) (fun c1 => ?_)
  · have F := F.1 c1
    exact r_V (pc := 142) dX12_findBrings_142 rfl F
  · have F := F.2 c1
    refine wp_iconst (v := 0) (pc := 7) dX12_findBrings_7 (by decide) ?_
    refine wp_istore (pc := 8) dX12_findBrings_8 (Nat.le_of_ble_eq_true rfl) rfl ?_
    show wp l M_X12_findBrings (d + 1) 0 0 _ [some (.ref h), some (.int x1), some (.int x2), some (.int x3), some (.int 0), none, none, none] _ 0 0 kd _ _ mr _
    exact wp_less (L' := [some (.ref h), some (.int x1), some (.int x2), some (.int x3), some (.int 0), none, none, none]) ⟨rfl, ⟨rfl, ⟨rfl, ⟨rfl, ⟨rfl, trivial⟩⟩⟩⟩⟩ F
theorem w_X12_findBrings_10 {l : Launch} {d : Nat} {kd : pm_K} {mr : pm_R} {h : Nat} {x1 : Int32} {x2 : Int32} {x3 : Int32} {x4 : Int32} {mi : pm_I} {ml : pm_L} {K : pm_I → pm_L → Prop} (th : TX12s kd mr h)
    (F : ((625 ≤ x4 → c_X12_findBrings_2 l (d + 1) kd mr h x1 x2 (x3 + 1) mi ml K) ∧ (¬ 625 ≤ x4 → c_X12_findBrings_21 l (d + 1) kd mr h x1 x2 x3 x4 0 mi ml K))) :
    c_X12_findBrings_10 l (d + 1) kd mr h x1 x2 x3 x4 mi ml K := by
  show wp l M_X12_findBrings (d + 1) 0 0 10 [some (.ref h), some (.int x1), some (.int x2), some (.int x3), some (.int x4), none, none, none] [] 0 0 kd mi ml mr _
  refine wp_iload (pc := 10) dX12_findBrings_10 rfl ?_
  refine wp_sipush (v := 625) (pc := 12) dX12_findBrings_12 (by decide) ?_
  refine wp_icmp_ge (tgt := 136) (pc := 15) dX12_findBrings_15 (by decide) (fun c2 => ?_) (fun c2 => ?_)
  · have F := F.1 c2
    refine wp_iinc (v := (x3 + 1)) (pc := 136) dX12_findBrings_136 rfl rfl rfl ?_
    show wp l M_X12_findBrings (d + 1) 0 0 _ [some (.ref h), some (.int x1), some (.int x2), some (.int (x3 + 1)), some (.int x4), none, none, none] _ 0 0 kd _ _ mr _
    refine wp_goto (tgt := 2) (pc := 139) dX12_findBrings_139 (by decide) ?_
    exact wp_less (L' := [some (.ref h), some (.int x1), some (.int x2), some (.int (x3 + 1)), none, none, none, none]) ⟨rfl, ⟨rfl, ⟨rfl, ⟨rfl, trivial⟩⟩⟩⟩ F
  · have F := F.2 c2
    refine wp_iconst (v := 0) (pc := 18) dX12_findBrings_18 (by decide) ?_
    refine wp_istore (pc := 19) dX12_findBrings_19 (Nat.le_of_ble_eq_true rfl) rfl ?_
    show wp l M_X12_findBrings (d + 1) 0 0 _ [some (.ref h), some (.int x1), some (.int x2), some (.int x3), some (.int x4), some (.int 0), none, none] _ 0 0 kd _ _ mr _
    exact wp_less (L' := [some (.ref h), some (.int x1), some (.int x2), some (.int x3), some (.int x4), some (.int 0), none, none]) ⟨rfl, ⟨rfl, ⟨rfl, ⟨rfl, ⟨rfl, ⟨rfl, trivial⟩⟩⟩⟩⟩⟩ F
theorem w_X12_findBrings_21 {l : Launch} {d : Nat} {kd : pm_K} {mr : pm_R} {h : Nat} {x1 : Int32} {x2 : Int32} {x3 : Int32} {x4 : Int32} {x5 : Int32} {mi : pm_I} {ml : pm_L} {K : pm_I → pm_L → Prop} (th : TX12s kd mr h)
    (F : ((4 < x5 → c_X12_findBrings_10 l (d + 1) kd mr h x1 x2 x3 (x4 + 1) mi ml K) ∧ (¬ 4 < x5 → c_X12_findBrings_41 l (d + 1) kd mr h x1 x2 x3 x4 x5 (if x3 = 0 then (0 : Int32) else ((-1) : Int32)) 0 mi ml K))) :
    c_X12_findBrings_21 l (d + 1) kd mr h x1 x2 x3 x4 x5 mi ml K := by
  show wp l M_X12_findBrings (d + 1) 0 0 21 [some (.ref h), some (.int x1), some (.int x2), some (.int x3), some (.int x4), some (.int x5), none, none] [] 0 0 kd mi ml mr _
  refine wp_iload (pc := 21) dX12_findBrings_21 rfl ?_
  refine wp_iconst (v := 4) (pc := 23) dX12_findBrings_23 (by decide) ?_
  refine wp_icmp_gt (tgt := 130) (pc := 24) dX12_findBrings_24 (by decide) (fun c3 => ?_) (fun c3 => ?_)
  · have F := F.1 c3
    refine wp_iinc (v := (x4 + 1)) (pc := 130) dX12_findBrings_130 rfl rfl rfl ?_
    show wp l M_X12_findBrings (d + 1) 0 0 _ [some (.ref h), some (.int x1), some (.int x2), some (.int x3), some (.int (x4 + 1)), some (.int x5), none, none] _ 0 0 kd _ _ mr _
    refine wp_goto (tgt := 10) (pc := 133) dX12_findBrings_133 (by decide) ?_
    exact wp_less (L' := [some (.ref h), some (.int x1), some (.int x2), some (.int x3), some (.int (x4 + 1)), none, none, none]) ⟨rfl, ⟨rfl, ⟨rfl, ⟨rfl, ⟨rfl, trivial⟩⟩⟩⟩⟩ F
  · have F := F.2 c3
    refine wp_iload_n (pc := 27) dX12_findBrings_27 rfl ?_
    suffices J4 : ∀ v5 : Int32, v5 = (if x3 = 0 then (0 : Int32) else ((-1) : Int32)) → wp l M_X12_findBrings (d + 1) 0 0 36 [some (.ref h), some (.int x1), some (.int x2), some (.int x3), some (.int x4), some (.int x5), none, none] [.int v5] 0 0 kd mi ml mr _ by
        refine wp_if_ne (tgt := 35) (pc := 28) dX12_findBrings_28 (by decide) (fun c6 => ?_) (fun c6 => ?_)
        · refine wp_iconst (v := -1) (pc := 35) dX12_findBrings_35 (by decide) ?_
          exact J4 _ (by simp only [c6, if_true, if_false, decide_true, decide_false, Bool.not_true, Bool.not_false, Bool.true_and, Bool.false_and, Bool.true_or, Bool.false_or, b2i_t, b2i_f, ite_true, ite_false, not_true_eq_false, not_false_eq_true, reduceCtorEq, decide_eq_true_eq])
        · refine wp_iconst (v := 0) (pc := 31) dX12_findBrings_31 (by decide) ?_
          refine wp_goto (tgt := 36) (pc := 32) dX12_findBrings_32 (by decide) ?_
          exact J4 _ (by simp only [eq_true c6, if_true, if_false, decide_true, decide_false, Bool.not_true, Bool.not_false, Bool.true_and, Bool.false_and, Bool.true_or, Bool.false_or, b2i_t, b2i_f, ite_true, ite_false, not_true_eq_false, not_false_eq_true, reduceCtorEq, decide_eq_true_eq])
    intro v5 ev5
    subst ev5
    refine wp_istore (pc := 36) dX12_findBrings_36 (Nat.le_of_ble_eq_true rfl) rfl ?_
    show wp l M_X12_findBrings (d + 1) 0 0 _ [some (.ref h), some (.int x1), some (.int x2), some (.int x3), some (.int x4), some (.int x5), some (.int (if x3 = 0 then (0 : Int32) else ((-1) : Int32))), none] _ 0 0 kd _ _ mr _
    refine wp_iconst (v := 0) (pc := 38) dX12_findBrings_38 (by decide) ?_
    refine wp_istore (pc := 39) dX12_findBrings_39 (Nat.le_of_ble_eq_true rfl) rfl ?_
    show wp l M_X12_findBrings (d + 1) 0 0 _ [some (.ref h), some (.int x1), some (.int x2), some (.int x3), some (.int x4), some (.int x5), some (.int (if x3 = 0 then (0 : Int32) else ((-1) : Int32))), some (.int 0)] _ 0 0 kd _ _ mr _
    exact wp_less (L' := [some (.ref h), some (.int x1), some (.int x2), some (.int x3), some (.int x4), some (.int x5), some (.int (if x3 = 0 then (0 : Int32) else ((-1) : Int32))), some (.int 0)]) ⟨rfl, ⟨rfl, ⟨rfl, ⟨rfl, ⟨rfl, ⟨rfl, ⟨rfl, ⟨rfl, trivial⟩⟩⟩⟩⟩⟩⟩⟩ F
theorem w_X12_findBrings_41 {l : Launch} {d : Nat} {kd : pm_K} {mr : pm_R} {h : Nat} {x1 : Int32} {x2 : Int32} {x3 : Int32} {x4 : Int32} {x5 : Int32} {x6 : Int32} {x7 : Int32} {mi : pm_I} {ml : pm_L} {K : pm_I → pm_L → Prop} (th : TX12s kd mr h)
    (F : ((4 ≤ x7 → c_X12_findBrings_109 l (d + 1) kd mr h x1 x2 x3 x4 x5 x6 mi ml K) ∧ (¬ 4 ≤ x7 → ((x3 ≤ 0 → c_X12_findBrings_109 l (d + 1) kd mr h x1 x2 x3 x4 x5 x6 mi ml K) ∧ (¬ x3 ≤ 0 → ((x2 = 0 → c_X12_findBrings_67 l (d + 1) kd mr h x1 x2 x3 x4 x5 x6 x7 mi ml K) ∧ (¬ x2 = 0 → ((¬ x7 = x5 → c_X12_findBrings_67 l (d + 1) kd mr h x1 x2 x3 x4 x5 x6 x7 mi ml K) ∧ (x7 = x5 → c_X12_findBrings_101 l (d + 1) kd mr h x1 x2 x3 x4 x5 x7 x6 mi ml K))))))))) :
    c_X12_findBrings_41 l (d + 1) kd mr h x1 x2 x3 x4 x5 x6 x7 mi ml K := by
  show wp l M_X12_findBrings (d + 1) 0 0 41 [some (.ref h), some (.int x1), some (.int x2), some (.int x3), some (.int x4), some (.int x5), some (.int x6), some (.int x7)] [] 0 0 kd mi ml mr _
  refine wp_iload (pc := 41) dX12_findBrings_41 rfl ?_
  refine wp_iconst (v := 4) (pc := 43) dX12_findBrings_43 (by decide) ?_
  refine wp_icmp_ge (tgt := 109) (pc := 44) dX12_findBrings_44 (by decide) (fun c7 => ?_) (fun c7 => ?_)
  · have F := F.1 c7
    exact wp_less (L' := [some (.ref h), some (.int x1), some (.int x2), some (.int x3), some (.int x4), some (.int x5), some (.int x6), none]) ⟨rfl, ⟨rfl, ⟨rfl, ⟨rfl, ⟨rfl, ⟨rfl, ⟨rfl, trivial⟩⟩⟩⟩⟩⟩⟩ F
  · have F := F.2 c7
    refine wp_iload_n (pc := 47) dX12_findBrings_47 rfl ?_
    refine wp_if_le (tgt := 109) (pc := 48) dX12_findBrings_48 (by decide) (fun c8 => ?_) (fun c8 => ?_)
    · have F := F.1 c8
      exact wp_less (L' := [some (.ref h), some (.int x1), some (.int x2), some (.int x3), some (.int x4), some (.int x5), some (.int x6), none]) ⟨rfl, ⟨rfl, ⟨rfl, ⟨rfl, ⟨rfl, ⟨rfl, ⟨rfl, trivial⟩⟩⟩⟩⟩⟩⟩ F
    · have F := F.2 c8
      refine wp_iload_n (pc := 51) dX12_findBrings_51 rfl ?_
      refine wp_if_eq (tgt := 67) (pc := 52) dX12_findBrings_52 (by decide) (fun c9 => ?_) (fun c9 => ?_)
      · have F := F.1 c9
        exact wp_less (L' := [some (.ref h), some (.int x1), some (.int x2), some (.int x3), some (.int x4), some (.int x5), some (.int x6), some (.int x7)]) ⟨rfl, ⟨rfl, ⟨rfl, ⟨rfl, ⟨rfl, ⟨rfl, ⟨rfl, ⟨rfl, trivial⟩⟩⟩⟩⟩⟩⟩⟩ F
      · have F := F.2 c9
        refine wp_iload (pc := 55) dX12_findBrings_55 rfl ?_
        refine wp_iload (pc := 57) dX12_findBrings_57 rfl ?_
        refine wp_icmp_ne (tgt := 67) (pc := 59) dX12_findBrings_59 (by decide) (fun c10 => ?_) (fun c10 => ?_)
        · have F := F.1 c10
          exact wp_less (L' := [some (.ref h), some (.int x1), some (.int x2), some (.int x3), some (.int x4), some (.int x5), some (.int x6), some (.int x7)]) ⟨rfl, ⟨rfl, ⟨rfl, ⟨rfl, ⟨rfl, ⟨rfl, ⟨rfl, ⟨rfl, trivial⟩⟩⟩⟩⟩⟩⟩⟩ F
        · have F := F.2 c10
          refine wp_iload (pc := 62) dX12_findBrings_62 rfl ?_
          refine wp_goto (tgt := 101) (pc := 64) dX12_findBrings_64 (by decide) ?_
          exact wp_less (L' := [some (.ref h), some (.int x1), some (.int x2), some (.int x3), some (.int x4), some (.int x5), none, some (.int x7)]) ⟨rfl, ⟨rfl, ⟨rfl, ⟨rfl, ⟨rfl, ⟨rfl, ⟨rfl, trivial⟩⟩⟩⟩⟩⟩⟩ F
theorem w_X12_findBrings_101 {l : Launch} {d : Nat} {kd : pm_K} {mr : pm_R} {h : Nat} {x1 : Int32} {x2 : Int32} {x3 : Int32} {x4 : Int32} {x5 : Int32} {x7 : Int32} {s0 : Int32} {mi : pm_I} {ml : pm_L} {K : pm_I → pm_L → Prop} (th : TX12s kd mr h)
    (F : c_X12_findBrings_41 l (d + 1) kd mr h x1 x2 x3 x4 x5 s0 (x7 + 1) mi ml K) :
    c_X12_findBrings_101 l (d + 1) kd mr h x1 x2 x3 x4 x5 x7 s0 mi ml K := by
  show wp l M_X12_findBrings (d + 1) 0 0 101 [some (.ref h), some (.int x1), some (.int x2), some (.int x3), some (.int x4), some (.int x5), none, some (.int x7)] [.int s0] 0 0 kd mi ml mr _
  refine wp_istore (pc := 101) dX12_findBrings_101 (Nat.le_of_ble_eq_true rfl) rfl ?_
  show wp l M_X12_findBrings (d + 1) 0 0 _ [some (.ref h), some (.int x1), some (.int x2), some (.int x3), some (.int x4), some (.int x5), some (.int s0), some (.int x7)] _ 0 0 kd _ _ mr _
  refine wp_iinc (v := (x7 + 1)) (pc := 103) dX12_findBrings_103 rfl rfl rfl ?_
  show wp l M_X12_findBrings (d + 1) 0 0 _ [some (.ref h), some (.int x1), some (.int x2), some (.int x3), some (.int x4), some (.int x5), some (.int s0), some (.int (x7 + 1))] _ 0 0 kd _ _ mr _
  refine wp_goto (tgt := 41) (pc := 106) dX12_findBrings_106 (by decide) ?_
  exact wp_less (L' := [some (.ref h), some (.int x1), some (.int x2), some (.int x3), some (.int x4), some (.int x5), some (.int s0), some (.int (x7 + 1))]) ⟨rfl, ⟨rfl, ⟨rfl, ⟨rfl, ⟨rfl, ⟨rfl, ⟨rfl, ⟨rfl, trivial⟩⟩⟩⟩⟩⟩⟩⟩ F
theorem w_X12_findBrings_67 {l : Launch} {d : Nat} {kd : pm_K} {mr : pm_R} {h : Nat} {x1 : Int32} {x2 : Int32} {x3 : Int32} {x4 : Int32} {x5 : Int32} {x6 : Int32} {x7 : Int32} {mi : pm_I} {ml : pm_L} {K : pm_I → pm_L → Prop} (th : TX12s kd mr h)
    (F : wI l M_X12_gain d [.ref h, .int x4, .int x7] kd mr mi ml (fun r11 mi12 ml13 => wI l M_X12_wears d [.int x4, .int x7] kd mr mi12 ml13 (fun r14 mi15 ml16 => wI l M_X12_cell d [.int (x3 - 1), .int r14, .int x7] kd mr mi15 ml16 (fun r17 mi18 ml19 => vp_in r17 40625 ∧ wI l M_X12_greater d [.int x6, .int (r11 + (mi18 (h + 21) (Int32.toNatClampNeg r17)))] kd mr mi18 ml19 (fun r20 mi21 ml22 => c_X12_findBrings_101 l (d + 1) kd mr h x1 x2 x3 x4 x5 x7 r20 mi21 ml22 K))))) :
    c_X12_findBrings_67 l (d + 1) kd mr h x1 x2 x3 x4 x5 x6 x7 mi ml K := by
  show wp l M_X12_findBrings (d + 1) 0 0 67 [some (.ref h), some (.int x1), some (.int x2), some (.int x3), some (.int x4), some (.int x5), some (.int x6), some (.int x7)] [] 0 0 kd mi ml mr _
  refine wp_iload (pc := 67) dX12_findBrings_67 rfl ?_
  refine wp_aload_n (pc := 69) dX12_findBrings_69 rfl ?_
  refine wp_iload (pc := 70) dX12_findBrings_70 rfl ?_
  refine wp_iload (pc := 72) dX12_findBrings_72 rfl ?_
  refine cvI [.int x4, .int x7] [.int x6] (pc := 74) dX12_findBrings_74 ml_X12_491 iv_X12_gain (TX12s_k th) (cl_X12 rfl) rfl rfl (Nat.le_of_ble_eq_true rfl) (Nat.le_of_ble_eq_true rfl) (wI.mono (fun r11 mi12 ml13 F => ?_) F)
  refine wp_aload_n (pc := 77) dX12_findBrings_77 rfl ?_
  refine wp_getR (pc := 78) dX12_findBrings_78 fl_X12_73 rfl (TX12s_k th) (TX12s_r45 th) ?_
  refine wp_iload_n (pc := 81) dX12_findBrings_81 rfl ?_
  refine wp_iconst (v := 1) (pc := 82) dX12_findBrings_82 (by decide) ?_
  refine wp_isub (pc := 83) dX12_findBrings_83 ?_
  refine wp_iload (pc := 84) dX12_findBrings_84 rfl ?_
  refine wp_iload (pc := 86) dX12_findBrings_86 rfl ?_
  refine csI [.int x4, .int x7] [.int (x3 - 1), .ref (h + 21), .int r11, .int x6] (pc := 88) dX12_findBrings_88 ml_X12_494 st_X12_wears rfl rfl (Nat.le_of_ble_eq_true rfl) (Nat.le_of_ble_eq_true rfl) (wI.mono (fun r14 mi15 ml16 F => ?_) F)
  refine wp_iload (pc := 91) dX12_findBrings_91 rfl ?_
  refine csI [.int (x3 - 1), .int r14, .int x7] [.ref (h + 21), .int r11, .int x6] (pc := 93) dX12_findBrings_93 ml_X12_497 st_X12_cell rfl rfl (Nat.le_of_ble_eq_true rfl) (Nat.le_of_ble_eq_true rfl) (wI.mono (fun r17 mi18 ml19 F => ?_) F)
  refine wp_iald (pc := 96) dX12_findBrings_96 (TX12s_a45 th) F.1 ?_
  have F := F.2
  refine wp_iadd (pc := 97) dX12_findBrings_97 ?_
  refine csI [.int x6, .int (r11 + (mi18 (h + 21) (Int32.toNatClampNeg r17)))] [] (pc := 98) dX12_findBrings_98 ml_X12_180 st_X12_greater rfl rfl (Nat.le_of_ble_eq_true rfl) (Nat.le_of_ble_eq_true rfl) (wI.mono (fun r20 mi21 ml22 F => ?_) F)
  exact wp_less (L' := [some (.ref h), some (.int x1), some (.int x2), some (.int x3), some (.int x4), some (.int x5), none, some (.int x7)]) ⟨rfl, ⟨rfl, ⟨rfl, ⟨rfl, ⟨rfl, ⟨rfl, ⟨rfl, trivial⟩⟩⟩⟩⟩⟩⟩ F
theorem w_X12_findBrings_109 {l : Launch} {d : Nat} {kd : pm_K} {mr : pm_R} {h : Nat} {x1 : Int32} {x2 : Int32} {x3 : Int32} {x4 : Int32} {x5 : Int32} {x6 : Int32} {mi : pm_I} {ml : pm_L} {K : pm_I → pm_L → Prop} (th : TX12s kd mr h)
    (F : wI l M_X12_cell d [.int x3, .int x4, .int x5] kd mr mi ml (fun r23 mi24 ml25 => vp_in r23 40625 ∧ c_X12_findBrings_21 l (d + 1) kd mr h x1 x2 x3 x4 (x5 + 1) (pm_up mi24 (h + 21) (Int32.toNatClampNeg r23) x6) ml25 K)) :
    c_X12_findBrings_109 l (d + 1) kd mr h x1 x2 x3 x4 x5 x6 mi ml K := by
  show wp l M_X12_findBrings (d + 1) 0 0 109 [some (.ref h), some (.int x1), some (.int x2), some (.int x3), some (.int x4), some (.int x5), some (.int x6), none] [] 0 0 kd mi ml mr _
  refine wp_aload_n (pc := 109) dX12_findBrings_109 rfl ?_
  refine wp_getR (pc := 110) dX12_findBrings_110 fl_X12_73 rfl (TX12s_k th) (TX12s_r45 th) ?_
  refine wp_iload_n (pc := 113) dX12_findBrings_113 rfl ?_
  refine wp_iload (pc := 114) dX12_findBrings_114 rfl ?_
  refine wp_iload (pc := 116) dX12_findBrings_116 rfl ?_
  refine csI [.int x3, .int x4, .int x5] [.ref (h + 21)] (pc := 118) dX12_findBrings_118 ml_X12_497 st_X12_cell rfl rfl (Nat.le_of_ble_eq_true rfl) (Nat.le_of_ble_eq_true rfl) (wI.mono (fun r23 mi24 ml25 F => ?_) F)
  refine wp_iload (pc := 121) dX12_findBrings_121 rfl ?_
  refine wp_iast (pc := 123) dX12_findBrings_123 (TX12s_a45 th) F.1 ?_
  have F := F.2
  refine wp_iinc (v := (x5 + 1)) (pc := 124) dX12_findBrings_124 rfl rfl rfl ?_
  show wp l M_X12_findBrings (d + 1) 0 0 _ [some (.ref h), some (.int x1), some (.int x2), some (.int x3), some (.int x4), some (.int (x5 + 1)), some (.int x6), none] _ 0 0 kd _ _ mr _
  refine wp_goto (tgt := 21) (pc := 127) dX12_findBrings_127 (by decide) ?_
  exact wp_less (L' := [some (.ref h), some (.int x1), some (.int x2), some (.int x3), some (.int x4), some (.int (x5 + 1)), none, none]) ⟨rfl, ⟨rfl, ⟨rfl, ⟨rfl, ⟨rfl, ⟨rfl, trivial⟩⟩⟩⟩⟩⟩ F
/-- findBrings(IZ)V -/
theorem w_X12_findBrings {l : Launch} {d : Nat} {kd : pm_K} {mr : pm_R} {h : Nat} {x1 : Int32} {x2 : Bool} {mi : pm_I} {ml : pm_L} {K : pm_I → pm_L → Prop} (th : TX12s kd mr h)
    (F : c_X12_findBrings_2 l (d + 1) kd mr h x1 (b2i x2) 0 mi ml K) :
    wV l M_X12_findBrings (d + 1) [.ref h, .int x1, .int (b2i x2)] kd mr mi ml K := by
  show wp l M_X12_findBrings (d + 1) 0 0 0 [some (.ref h), some (.int x1), some (.int (b2i x2)), none, none, none, none, none] [] 0 0 kd mi ml mr _
  refine wp_iconst (v := 0) (pc := 0) dX12_findBrings_0 (by decide) ?_
  refine wp_istore_n (pc := 1) dX12_findBrings_1 (Nat.le_of_ble_eq_true rfl) rfl ?_
  show wp l M_X12_findBrings (d + 1) 0 0 _ [some (.ref h), some (.int x1), some (.int (b2i x2)), some (.int 0), none, none, none, none] _ 0 0 kd _ _ mr _
  exact wp_less (L' := [some (.ref h), some (.int x1), some (.int (b2i x2)), some (.int 0), none, none, none, none]) ⟨rfl, ⟨rfl, ⟨rfl, ⟨rfl, trivial⟩⟩⟩⟩ F
/-- gain(II)I -/
theorem w_X12_gain {l : Launch} {d : Nat} {kd : pm_K} {mr : pm_R} {h : Nat} {x1 : Int32} {x2 : Int32} {mi : pm_I} {ml : pm_L} {K : Int32 → pm_I → pm_L → Prop} (th : TX12s kd mr h)
    (F : wI l M_X12_of d [.ref h, .int (5 + x2)] kd mr mi ml (fun r1 mi2 ml3 => wI l M_X12_wornOf d [.int x1, .int x2] kd mr mi2 ml3 (fun r4 mi5 ml6 => wI l M_X12_greater d [.int 0, .int (r1 - r4)] kd mr mi5 ml6 (fun r7 mi8 ml9 => K r7 mi8 ml9)))) :
    wI l M_X12_gain (d + 1) [.ref h, .int x1, .int x2] kd mr mi ml K := by
  show wp l M_X12_gain (d + 1) 0 0 0 [some (.ref h), some (.int x1), some (.int x2)] [] 0 0 kd mi ml mr _
  refine wp_iconst (v := 0) (pc := 0) dX12_gain_0 (by decide) ?_
  refine wp_aload_n (pc := 1) dX12_gain_1 rfl ?_
  refine wp_iconst (v := 5) (pc := 2) dX12_gain_2 (by decide) ?_
  refine wp_iload_n (pc := 3) dX12_gain_3 rfl ?_
  refine wp_iadd (pc := 4) dX12_gain_4 ?_
  refine cvI [.int (5 + x2)] [.int 0] (pc := 5) dX12_gain_5 ml_X12_324 iv_X12_of (TX12s_k th) (cl_X12 rfl) rfl rfl (Nat.le_of_ble_eq_true rfl) (Nat.le_of_ble_eq_true rfl) (wI.mono (fun r1 mi2 ml3 F => ?_) F)
  refine wp_iload_n (pc := 8) dX12_gain_8 rfl ?_
  refine wp_iload_n (pc := 9) dX12_gain_9 rfl ?_
  refine csI [.int x1, .int x2] [.int r1, .int 0] (pc := 10) dX12_gain_10 ml_X12_488 st_X12_wornOf rfl rfl (Nat.le_of_ble_eq_true rfl) (Nat.le_of_ble_eq_true rfl) (wI.mono (fun r4 mi5 ml6 F => ?_) F)
  refine wp_isub (pc := 13) dX12_gain_13 ?_
  refine csI [.int 0, .int (r1 - r4)] [] (pc := 14) dX12_gain_14 ml_X12_180 st_X12_greater rfl rfl (Nat.le_of_ble_eq_true rfl) (Nat.le_of_ble_eq_true rfl) (wI.mono (fun r7 mi8 ml9 F => ?_) F)
  exact r_I (pc := 17) dX12_gain_17 rfl F
def c_X12_wornOf_4 (l : Launch) (d : Nat) (kd : pm_K) (mr : pm_R)  (x1 : Int32) (x2 : Int32) (x3 : Int32) (mi : pm_I) (ml : pm_L) (K : Int32 → pm_I → pm_L → Prop) : Prop := wp l M_X12_wornOf d 0 0 4 [none, some (.int x1), some (.int x2), some (.int x3)] [] 0 0 kd mi ml mr (qI kd mr K)
theorem w_X12_wornOf_4 {l : Launch} {d : Nat} {kd : pm_K} {mr : pm_R}  {x1 : Int32} {x2 : Int32} {x3 : Int32} {mi : pm_I} {ml : pm_L} {K : Int32 → pm_I → pm_L → Prop} 
    (F : ((x1 ≤ x3 → K (x2 - x2 / 5 * 5) mi ml) ∧ (¬ x1 ≤ x3 → c_X12_wornOf_4 l d kd mr  x1 (x2 / 5) (x3 + 1) mi ml K))) :
    c_X12_wornOf_4 l d kd mr x1 x2 x3 mi ml K := by
  show wp l M_X12_wornOf d 0 0 4 [none, some (.int x1), some (.int x2), some (.int x3)] [] 0 0 kd mi ml mr _
  refine wp_iload_n (pc := 4) dX12_wornOf_4 rfl ?_
  refine wp_iload_n (pc := 5) dX12_wornOf_5 rfl ?_
  refine wp_icmp_ge (tgt := 19) (pc := 6) dX12_wornOf_6 (by decide) (fun c1 => ?_) (fun c1 => ?_)
  · have F := F.1 c1
    refine wp_iload_n (pc := 19) dX12_wornOf_19 rfl ?_
    refine wp_iconst (v := 5) (pc := 20) dX12_wornOf_20 (by decide) ?_
    refine wp_irem (pc := 21) dX12_wornOf_21 (by decide) ?_
    exact r_I (pc := 22) dX12_wornOf_22 rfl F
  · have F := F.2 c1
    refine wp_iload_n (pc := 9) dX12_wornOf_9 rfl ?_
    refine wp_iconst (v := 5) (pc := 10) dX12_wornOf_10 (by decide) ?_
    refine wp_idiv (pc := 11) dX12_wornOf_11 (by decide) ?_
    refine wp_istore_n (pc := 12) dX12_wornOf_12 (Nat.le_of_ble_eq_true rfl) rfl ?_
    show wp l M_X12_wornOf d 0 0 _ [none, some (.int x1), some (.int (x2 / 5)), some (.int x3)] _ 0 0 kd _ _ mr _
    refine wp_iinc (v := (x3 + 1)) (pc := 13) dX12_wornOf_13 rfl rfl rfl ?_
    show wp l M_X12_wornOf d 0 0 _ [none, some (.int x1), some (.int (x2 / 5)), some (.int (x3 + 1))] _ 0 0 kd _ _ mr _
    refine wp_goto (tgt := 4) (pc := 16) dX12_wornOf_16 (by decide) ?_
    exact wp_less (L' := [none, some (.int x1), some (.int (x2 / 5)), some (.int (x3 + 1))]) ⟨rfl, ⟨rfl, ⟨rfl, trivial⟩⟩⟩ F
/-- wornOf(II)I -/
theorem w_X12_wornOf {l : Launch} {d : Nat} {kd : pm_K} {mr : pm_R}  {x0 : Int32} {x1 : Int32} {mi : pm_I} {ml : pm_L} {K : Int32 → pm_I → pm_L → Prop} 
    (F : c_X12_wornOf_4 l d kd mr  x1 x0 0 mi ml K) :
    wI l M_X12_wornOf d [.int x0, .int x1] kd mr mi ml K := by
  show wp l M_X12_wornOf d 0 0 0 [some (.int x0), some (.int x1), none, none] [] 0 0 kd mi ml mr _
  refine wp_iload_n (pc := 0) dX12_wornOf_0 rfl ?_
  refine wp_istore_n (pc := 1) dX12_wornOf_1 (Nat.le_of_ble_eq_true rfl) rfl ?_
  show wp l M_X12_wornOf d 0 0 _ [some (.int x0), some (.int x1), some (.int x0), none] _ 0 0 kd _ _ mr _
  refine wp_iconst (v := 0) (pc := 2) dX12_wornOf_2 (by decide) ?_
  refine wp_istore_n (pc := 3) dX12_wornOf_3 (Nat.le_of_ble_eq_true rfl) rfl ?_
  show wp l M_X12_wornOf d 0 0 _ [some (.int x0), some (.int x1), some (.int x0), some (.int 0)] _ 0 0 kd _ _ mr _
  exact wp_less (L' := [none, some (.int x1), some (.int x0), some (.int 0)]) ⟨rfl, ⟨rfl, ⟨rfl, trivial⟩⟩⟩ F
def c_X12_wears_48 (l : Launch) (d : Nat) (kd : pm_K) (mr : pm_R)  (x0 : Int32) (x1 : Int32) (x3 : Int32) (x4 : Int32) (s0 : Int32) (s1 : Int32) (s2 : Int32) (mi : pm_I) (ml : pm_L) (K : Int32 → pm_I → pm_L → Prop) : Prop := wp l M_X12_wears d 0 0 48 [some (.int x0), some (.int x1), none, some (.int x3), some (.int x4), none] [.int s0, .int s1, .int s2] 0 0 kd mi ml mr (qI kd mr K)
def c_X12_wears_7 (l : Launch) (d : Nat) (kd : pm_K) (mr : pm_R)  (x0 : Int32) (x1 : Int32) (x2 : Int32) (x3 : Int32) (x4 : Int32) (mi : pm_I) (ml : pm_L) (K : Int32 → pm_I → pm_L → Prop) : Prop := wp l M_X12_wears d 0 0 7 [some (.int x0), some (.int x1), some (.int x2), some (.int x3), some (.int x4), none] [] 0 0 kd mi ml mr (qI kd mr K)
theorem w_X12_wears_7 {l : Launch} {d : Nat} {kd : pm_K} {mr : pm_R}  {x0 : Int32} {x1 : Int32} {x2 : Int32} {x3 : Int32} {x4 : Int32} {mi : pm_I} {ml : pm_L} {K : Int32 → pm_I → pm_L → Prop} 
    (F : ((4 ≤ x4 → K x2 mi ml) ∧ (¬ 4 ≤ x4 → wI l M_X12_wornOf d [.int x0, .int x4] kd mr mi ml (fun r2 mi3 ml4 => ((¬ x4 = x1 → wI l M_X12_greater d [.int 0, .int (r2 - 1)] kd mr mi3 ml4 (fun r6 mi7 ml8 => c_X12_wears_48 l (d + 1) kd mr  x0 x1 x3 x4 r6 x3 x2 mi7 ml8 K)) ∧ (x4 = x1 → wI l M_X12_lesser d [.int 4, .int (r2 + 1)] kd mr mi3 ml4 (fun r9 mi10 ml11 => c_X12_wears_48 l (d + 1) kd mr  x0 x1 x3 x4 r9 x3 x2 mi10 ml11 K))))))) :
    c_X12_wears_7 l (d + 1) kd mr x0 x1 x2 x3 x4 mi ml K := by
  show wp l M_X12_wears (d + 1) 0 0 7 [some (.int x0), some (.int x1), some (.int x2), some (.int x3), some (.int x4), none] [] 0 0 kd mi ml mr _
  refine wp_iload (pc := 7) dX12_wears_7 rfl ?_
  refine wp_iconst (v := 4) (pc := 9) dX12_wears_9 (by decide) ?_
  refine wp_icmp_ge (tgt := 61) (pc := 10) dX12_wears_10 (by decide) (fun c1 => ?_) (fun c1 => ?_)
  · have F := F.1 c1
    refine wp_iload_n (pc := 61) dX12_wears_61 rfl ?_
    exact r_I (pc := 62) dX12_wears_62 rfl F
  · have F := F.2 c1
    refine wp_iload_n (pc := 13) dX12_wears_13 rfl ?_
    refine wp_iload (pc := 14) dX12_wears_14 rfl ?_
    refine csI [.int x0, .int x4] [] (pc := 16) dX12_wears_16 ml_X12_488 st_X12_wornOf rfl rfl (Nat.le_of_ble_eq_true rfl) (Nat.le_of_ble_eq_true rfl) (wI.mono (fun r2 mi3 ml4 F => ?_) F)
    refine wp_istore (pc := 19) dX12_wears_19 (Nat.le_of_ble_eq_true rfl) rfl ?_
    show wp l M_X12_wears (d + 1) 0 0 _ [some (.int x0), some (.int x1), some (.int x2), some (.int x3), some (.int x4), some (.int r2)] _ 0 0 kd _ _ mr _
    refine wp_iload_n (pc := 21) dX12_wears_21 rfl ?_
    refine wp_iload_n (pc := 22) dX12_wears_22 rfl ?_
    refine wp_iload (pc := 23) dX12_wears_23 rfl ?_
    refine wp_iload_n (pc := 25) dX12_wears_25 rfl ?_
    refine wp_icmp_ne (tgt := 40) (pc := 26) dX12_wears_26 (by decide) (fun c5 => ?_) (fun c5 => ?_)
    · have F := F.1 c5
      refine wp_iconst (v := 0) (pc := 40) dX12_wears_40 (by decide) ?_
      refine wp_iload (pc := 41) dX12_wears_41 rfl ?_
      refine wp_iconst (v := 1) (pc := 43) dX12_wears_43 (by decide) ?_
      refine wp_isub (pc := 44) dX12_wears_44 ?_
      refine csI [.int 0, .int (r2 - 1)] [.int x3, .int x2] (pc := 45) dX12_wears_45 ml_X12_180 st_X12_greater rfl rfl (Nat.le_of_ble_eq_true rfl) (Nat.le_of_ble_eq_true rfl) (wI.mono (fun r6 mi7 ml8 F => ?_) F)
      exact wp_less (L' := [some (.int x0), some (.int x1), none, some (.int x3), some (.int x4), none]) ⟨rfl, ⟨rfl, ⟨rfl, ⟨rfl, trivial⟩⟩⟩⟩ F
    · have F := F.2 c5
      refine wp_iconst (v := 4) (pc := 29) dX12_wears_29 (by decide) ?_
      refine wp_iload (pc := 30) dX12_wears_30 rfl ?_
      refine wp_iconst (v := 1) (pc := 32) dX12_wears_32 (by decide) ?_
      refine wp_iadd (pc := 33) dX12_wears_33 ?_
      refine csI [.int 4, .int (r2 + 1)] [.int x3, .int x2] (pc := 34) dX12_wears_34 ml_X12_476 st_X12_lesser rfl rfl (Nat.le_of_ble_eq_true rfl) (Nat.le_of_ble_eq_true rfl) (wI.mono (fun r9 mi10 ml11 F => ?_) F)
      refine wp_goto (tgt := 48) (pc := 37) dX12_wears_37 (by decide) ?_
      exact wp_less (L' := [some (.int x0), some (.int x1), none, some (.int x3), some (.int x4), none]) ⟨rfl, ⟨rfl, ⟨rfl, ⟨rfl, trivial⟩⟩⟩⟩ F
theorem w_X12_wears_48 {l : Launch} {d : Nat} {kd : pm_K} {mr : pm_R}  {x0 : Int32} {x1 : Int32} {x3 : Int32} {x4 : Int32} {s0 : Int32} {s1 : Int32} {s2 : Int32} {mi : pm_I} {ml : pm_L} {K : Int32 → pm_I → pm_L → Prop} 
    (F : c_X12_wears_7 l (d + 1) kd mr  x0 x1 (s2 + (s1 * s0)) (x3 * 5) (x4 + 1) mi ml K) :
    c_X12_wears_48 l (d + 1) kd mr x0 x1 x3 x4 s0 s1 s2 mi ml K := by
  show wp l M_X12_wears (d + 1) 0 0 48 [some (.int x0), some (.int x1), none, some (.int x3), some (.int x4), none] [.int s0, .int s1, .int s2] 0 0 kd mi ml mr _
  refine wp_imul (pc := 48) dX12_wears_48 ?_
  refine wp_iadd (pc := 49) dX12_wears_49 ?_
  refine wp_istore_n (pc := 50) dX12_wears_50 (Nat.le_of_ble_eq_true rfl) rfl ?_
  show wp l M_X12_wears (d + 1) 0 0 _ [some (.int x0), some (.int x1), some (.int (s2 + (s1 * s0))), some (.int x3), some (.int x4), none] _ 0 0 kd _ _ mr _
  refine wp_iload_n (pc := 51) dX12_wears_51 rfl ?_
  refine wp_iconst (v := 5) (pc := 52) dX12_wears_52 (by decide) ?_
  refine wp_imul (pc := 53) dX12_wears_53 ?_
  refine wp_istore_n (pc := 54) dX12_wears_54 (Nat.le_of_ble_eq_true rfl) rfl ?_
  show wp l M_X12_wears (d + 1) 0 0 _ [some (.int x0), some (.int x1), some (.int (s2 + (s1 * s0))), some (.int (x3 * 5)), some (.int x4), none] _ 0 0 kd _ _ mr _
  refine wp_iinc (v := (x4 + 1)) (pc := 55) dX12_wears_55 rfl rfl rfl ?_
  show wp l M_X12_wears (d + 1) 0 0 _ [some (.int x0), some (.int x1), some (.int (s2 + (s1 * s0))), some (.int (x3 * 5)), some (.int (x4 + 1)), none] _ 0 0 kd _ _ mr _
  refine wp_goto (tgt := 7) (pc := 58) dX12_wears_58 (by decide) ?_
  exact wp_less (L' := [some (.int x0), some (.int x1), some (.int (s2 + (s1 * s0))), some (.int (x3 * 5)), some (.int (x4 + 1)), none]) ⟨rfl, ⟨rfl, ⟨rfl, ⟨rfl, ⟨rfl, trivial⟩⟩⟩⟩⟩ F
/-- wears(II)I -/
theorem w_X12_wears {l : Launch} {d : Nat} {kd : pm_K} {mr : pm_R}  {x0 : Int32} {x1 : Int32} {mi : pm_I} {ml : pm_L} {K : Int32 → pm_I → pm_L → Prop} 
    (F : c_X12_wears_7 l (d + 1) kd mr  x0 x1 0 1 0 mi ml K) :
    wI l M_X12_wears (d + 1) [.int x0, .int x1] kd mr mi ml K := by
  show wp l M_X12_wears (d + 1) 0 0 0 [some (.int x0), some (.int x1), none, none, none, none] [] 0 0 kd mi ml mr _
  refine wp_iconst (v := 0) (pc := 0) dX12_wears_0 (by decide) ?_
  refine wp_istore_n (pc := 1) dX12_wears_1 (Nat.le_of_ble_eq_true rfl) rfl ?_
  show wp l M_X12_wears (d + 1) 0 0 _ [some (.int x0), some (.int x1), some (.int 0), none, none, none] _ 0 0 kd _ _ mr _
  refine wp_iconst (v := 1) (pc := 2) dX12_wears_2 (by decide) ?_
  refine wp_istore_n (pc := 3) dX12_wears_3 (Nat.le_of_ble_eq_true rfl) rfl ?_
  show wp l M_X12_wears (d + 1) 0 0 _ [some (.int x0), some (.int x1), some (.int 0), some (.int 1), none, none] _ 0 0 kd _ _ mr _
  refine wp_iconst (v := 0) (pc := 4) dX12_wears_4 (by decide) ?_
  refine wp_istore (pc := 5) dX12_wears_5 (Nat.le_of_ble_eq_true rfl) rfl ?_
  show wp l M_X12_wears (d + 1) 0 0 _ [some (.int x0), some (.int x1), some (.int 0), some (.int 1), some (.int 0), none] _ 0 0 kd _ _ mr _
  exact wp_less (L' := [some (.int x0), some (.int x1), some (.int 0), some (.int 1), some (.int 0), none]) ⟨rfl, ⟨rfl, ⟨rfl, ⟨rfl, ⟨rfl, trivial⟩⟩⟩⟩⟩ F
/-- cell(III)I -/
theorem w_X12_cell {l : Launch} {d : Nat} {kd : pm_K} {mr : pm_R}  {x0 : Int32} {x1 : Int32} {x2 : Int32} {mi : pm_I} {ml : pm_L} {K : Int32 → pm_I → pm_L → Prop} 
    (F : K ((((625 * x0) + x1) * 5) + x2) mi ml) :
    wI l M_X12_cell d [.int x0, .int x1, .int x2] kd mr mi ml K := by
  show wp l M_X12_cell d 0 0 0 [some (.int x0), some (.int x1), some (.int x2)] [] 0 0 kd mi ml mr _
  refine wp_sipush (v := 625) (pc := 0) dX12_cell_0 (by decide) ?_
  refine wp_iload_n (pc := 3) dX12_cell_3 rfl ?_
  refine wp_imul (pc := 4) dX12_cell_4 ?_
  refine wp_iload_n (pc := 5) dX12_cell_5 rfl ?_
  refine wp_iadd (pc := 6) dX12_cell_6 ?_
  refine wp_iconst (v := 5) (pc := 7) dX12_cell_7 (by decide) ?_
  refine wp_imul (pc := 8) dX12_cell_8 ?_
  refine wp_iload_n (pc := 9) dX12_cell_9 rfl ?_
  refine wp_iadd (pc := 10) dX12_cell_10 ?_
  exact r_I (pc := 11) dX12_cell_11 rfl F
def c_X12_commandAt_17 (l : Launch) (d : Nat) (kd : pm_K) (mr : pm_R) (h : Nat) (x1 : Int32) (x2 : Int32) (x3 : Int32) (x4 : Int32) (x5 : Int32) (x6 : Int32) (mi : pm_I) (ml : pm_L) (K : Int32 → pm_I → pm_L → Prop) : Prop := wp l M_X12_commandAt d 0 0 17 [some (.ref h), some (.int x1), some (.int x2), some (.int x3), some (.int x4), some (.int x5), some (.int x6)] [] 0 0 kd mi ml mr (qI kd mr K)
def c_X12_commandAt_8 (l : Launch) (d : Nat) (kd : pm_K) (mr : pm_R) (h : Nat) (x1 : Int32) (x2 : Int32) (x3 : Int32) (x4 : Int32) (x5 : Int32) (mi : pm_I) (ml : pm_L) (K : Int32 → pm_I → pm_L → Prop) : Prop := wp l M_X12_commandAt d 0 0 8 [some (.ref h), some (.int x1), some (.int x2), some (.int x3), some (.int x4), some (.int x5), none] [] 0 0 kd mi ml mr (qI kd mr K)
theorem w_X12_commandAt_8 {l : Launch} {d : Nat} {kd : pm_K} {mr : pm_R} {h : Nat} {x1 : Int32} {x2 : Int32} {x3 : Int32} {x4 : Int32} {x5 : Int32} {mi : pm_I} {ml : pm_L} {K : Int32 → pm_I → pm_L → Prop} (th : TX12s kd mr h)
    (F : ((x2 < x5 → K x4 mi ml) ∧ (¬ x2 < x5 → c_X12_commandAt_17 l (d + 1) kd mr h x1 x2 x3 x4 x5 0 mi ml K))) :
    c_X12_commandAt_8 l (d + 1) kd mr h x1 x2 x3 x4 x5 mi ml K := by
  show wp l M_X12_commandAt (d + 1) 0 0 8 [some (.ref h), some (.int x1), some (.int x2), some (.int x3), some (.int x4), some (.int x5), none] [] 0 0 kd mi ml mr _
  refine wp_iload (pc := 8) dX12_commandAt_8 rfl ?_
  refine wp_iload_n (pc := 10) dX12_commandAt_10 rfl ?_
  refine wp_icmp_gt (tgt := 88) (pc := 11) dX12_commandAt_11 (by decide) (fun c1 => ?_) (fun c1 => ?_)
  · have F := F.1 c1
    refine wp_iload (pc := 88) dX12_commandAt_88 rfl ?_
    exact r_I (pc := 90) dX12_commandAt_90 rfl F
  · have F := F.2 c1
    refine wp_iconst (v := 0) (pc := 14) dX12_commandAt_14 (by decide) ?_
    refine wp_istore (pc := 15) dX12_commandAt_15 (Nat.le_of_ble_eq_true rfl) rfl ?_
    show wp l M_X12_commandAt (d + 1) 0 0 _ [some (.ref h), some (.int x1), some (.int x2), some (.int x3), some (.int x4), some (.int x5), some (.int 0)] _ 0 0 kd _ _ mr _
    exact wp_less (L' := [some (.ref h), some (.int x1), some (.int x2), some (.int x3), some (.int x4), some (.int x5), some (.int 0)]) ⟨rfl, ⟨rfl, ⟨rfl, ⟨rfl, ⟨rfl, ⟨rfl, ⟨rfl, trivial⟩⟩⟩⟩⟩⟩⟩ F
theorem w_X12_commandAt_17 {l : Launch} {d : Nat} {kd : pm_K} {mr : pm_R} {h : Nat} {x1 : Int32} {x2 : Int32} {x3 : Int32} {x4 : Int32} {x5 : Int32} {x6 : Int32} {mi : pm_I} {ml : pm_L} {K : Int32 → pm_I → pm_L → Prop} (th : TX12s kd mr h)
    (F : wI l M_X12_gain d [.ref h, .int x3, .int x6] kd mr mi ml (fun r2 mi3 ml4 => wI l M_X12_wears d [.int x3, .int x6] kd mr mi3 ml4 (fun r5 mi6 ml7 => wI l M_X12_cell d [.int ((x1 - x5) - 1), .int r5, .int x6] kd mr mi6 ml7 (fun r8 mi9 ml10 => vp_in r8 40625 ∧ wI l M_X12_cell d [.int (x1 - x5), .int x3, .int x4] kd mr mi9 ml10 (fun r11 mi12 ml13 => vp_in r11 40625 ∧ (((r2 + (mi9 (h + 21) (Int32.toNatClampNeg r8))) = (mi12 (h + 21) (Int32.toNatClampNeg r11)) → wI l M_X12_wears d [.int x3, .int x6] kd mr mi12 ml13 (fun r15 mi16 ml17 => c_X12_commandAt_8 l (d + 1) kd mr h x1 x2 r15 x6 (x5 + 1) mi16 ml17 K)) ∧ (¬ (r2 + (mi9 (h + 21) (Int32.toNatClampNeg r8))) = (mi12 (h + 21) (Int32.toNatClampNeg r11)) → c_X12_commandAt_17 l (d + 1) kd mr h x1 x2 x3 x4 x5 (x6 + 1) mi12 ml13 K))))))) :
    c_X12_commandAt_17 l (d + 1) kd mr h x1 x2 x3 x4 x5 x6 mi ml K := by
  show wp l M_X12_commandAt (d + 1) 0 0 17 [some (.ref h), some (.int x1), some (.int x2), some (.int x3), some (.int x4), some (.int x5), some (.int x6)] [] 0 0 kd mi ml mr _
  refine wp_aload_n (pc := 17) dX12_commandAt_17 rfl ?_
  refine wp_iload_n (pc := 18) dX12_commandAt_18 rfl ?_
  refine wp_iload (pc := 19) dX12_commandAt_19 rfl ?_
  refine cvI [.int x3, .int x6] [] (pc := 21) dX12_commandAt_21 ml_X12_491 iv_X12_gain (TX12s_k th) (cl_X12 rfl) rfl rfl (Nat.le_of_ble_eq_true rfl) (Nat.le_of_ble_eq_true rfl) (wI.mono (fun r2 mi3 ml4 F => ?_) F)
  refine wp_aload_n (pc := 24) dX12_commandAt_24 rfl ?_
  refine wp_getR (pc := 25) dX12_commandAt_25 fl_X12_73 rfl (TX12s_k th) (TX12s_r45 th) ?_
  refine wp_iload_n (pc := 28) dX12_commandAt_28 rfl ?_
  refine wp_iload (pc := 29) dX12_commandAt_29 rfl ?_
  refine wp_isub (pc := 31) dX12_commandAt_31 ?_
  refine wp_iconst (v := 1) (pc := 32) dX12_commandAt_32 (by decide) ?_
  refine wp_isub (pc := 33) dX12_commandAt_33 ?_
  refine wp_iload_n (pc := 34) dX12_commandAt_34 rfl ?_
  refine wp_iload (pc := 35) dX12_commandAt_35 rfl ?_
  refine csI [.int x3, .int x6] [.int ((x1 - x5) - 1), .ref (h + 21), .int r2] (pc := 37) dX12_commandAt_37 ml_X12_494 st_X12_wears rfl rfl (Nat.le_of_ble_eq_true rfl) (Nat.le_of_ble_eq_true rfl) (wI.mono (fun r5 mi6 ml7 F => ?_) F)
  refine wp_iload (pc := 40) dX12_commandAt_40 rfl ?_
  refine csI [.int ((x1 - x5) - 1), .int r5, .int x6] [.ref (h + 21), .int r2] (pc := 42) dX12_commandAt_42 ml_X12_497 st_X12_cell rfl rfl (Nat.le_of_ble_eq_true rfl) (Nat.le_of_ble_eq_true rfl) (wI.mono (fun r8 mi9 ml10 F => ?_) F)
  refine wp_iald (pc := 45) dX12_commandAt_45 (TX12s_a45 th) F.1 ?_
  have F := F.2
  refine wp_iadd (pc := 46) dX12_commandAt_46 ?_
  refine wp_aload_n (pc := 47) dX12_commandAt_47 rfl ?_
  refine wp_getR (pc := 48) dX12_commandAt_48 fl_X12_73 rfl (TX12s_k th) (TX12s_r45 th) ?_
  refine wp_iload_n (pc := 51) dX12_commandAt_51 rfl ?_
  refine wp_iload (pc := 52) dX12_commandAt_52 rfl ?_
  refine wp_isub (pc := 54) dX12_commandAt_54 ?_
  refine wp_iload_n (pc := 55) dX12_commandAt_55 rfl ?_
  refine wp_iload (pc := 56) dX12_commandAt_56 rfl ?_
  refine csI [.int (x1 - x5), .int x3, .int x4] [.ref (h + 21), .int (r2 + (mi9 (h + 21) (Int32.toNatClampNeg r8)))] (pc := 58) dX12_commandAt_58 ml_X12_497 st_X12_cell rfl rfl (Nat.le_of_ble_eq_true rfl) (Nat.le_of_ble_eq_true rfl) (wI.mono (fun r11 mi12 ml13 F => ?_) F)
  refine wp_iald (pc := 61) dX12_commandAt_61 (TX12s_a45 th) F.1 ?_
  have F := F.2
  refine wp_icmp_eq (tgt := 71) (pc := 62) dX12_commandAt_62 (by decide) (fun c14 => ?_) (fun c14 => ?_)
  · have F := F.1 c14
    refine wp_iload_n (pc := 71) dX12_commandAt_71 rfl ?_
    refine wp_iload (pc := 72) dX12_commandAt_72 rfl ?_
    refine csI [.int x3, .int x6] [] (pc := 74) dX12_commandAt_74 ml_X12_494 st_X12_wears rfl rfl (Nat.le_of_ble_eq_true rfl) (Nat.le_of_ble_eq_true rfl) (wI.mono (fun r15 mi16 ml17 F => ?_) F)
    refine wp_istore_n (pc := 77) dX12_commandAt_77 (Nat.le_of_ble_eq_true rfl) rfl ?_
    show wp l M_X12_commandAt (d + 1) 0 0 _ [some (.ref h), some (.int x1), some (.int x2), some (.int r15), some (.int x4), some (.int x5), some (.int x6)] _ 0 0 kd _ _ mr _
    refine wp_iload (pc := 78) dX12_commandAt_78 rfl ?_
    refine wp_istore (pc := 80) dX12_commandAt_80 (Nat.le_of_ble_eq_true rfl) rfl ?_
    show wp l M_X12_commandAt (d + 1) 0 0 _ [some (.ref h), some (.int x1), some (.int x2), some (.int r15), some (.int x6), some (.int x5), some (.int x6)] _ 0 0 kd _ _ mr _
    refine wp_iinc (v := (x5 + 1)) (pc := 82) dX12_commandAt_82 rfl rfl rfl ?_
    show wp l M_X12_commandAt (d + 1) 0 0 _ [some (.ref h), some (.int x1), some (.int x2), some (.int r15), some (.int x6), some (.int (x5 + 1)), some (.int x6)] _ 0 0 kd _ _ mr _
    refine wp_goto (tgt := 8) (pc := 85) dX12_commandAt_85 (by decide) ?_
    exact wp_less (L' := [some (.ref h), some (.int x1), some (.int x2), some (.int r15), some (.int x6), some (.int (x5 + 1)), none]) ⟨rfl, ⟨rfl, ⟨rfl, ⟨rfl, ⟨rfl, ⟨rfl, trivial⟩⟩⟩⟩⟩⟩ F
  · have F := F.2 c14
    refine wp_iinc (v := (x6 + 1)) (pc := 65) dX12_commandAt_65 rfl rfl rfl ?_
    show wp l M_X12_commandAt (d + 1) 0 0 _ [some (.ref h), some (.int x1), some (.int x2), some (.int x3), some (.int x4), some (.int x5), some (.int (x6 + 1))] _ 0 0 kd _ _ mr _
    refine wp_goto (tgt := 17) (pc := 68) dX12_commandAt_68 (by decide) ?_
    exact wp_less (L' := [some (.ref h), some (.int x1), some (.int x2), some (.int x3), some (.int x4), some (.int x5), some (.int (x6 + 1))]) ⟨rfl, ⟨rfl, ⟨rfl, ⟨rfl, ⟨rfl, ⟨rfl, ⟨rfl, trivial⟩⟩⟩⟩⟩⟩⟩ F
/-- commandAt(II)I -/
theorem w_X12_commandAt {l : Launch} {d : Nat} {kd : pm_K} {mr : pm_R} {h : Nat} {x1 : Int32} {x2 : Int32} {mi : pm_I} {ml : pm_L} {K : Int32 → pm_I → pm_L → Prop} (th : TX12s kd mr h)
    (F : c_X12_commandAt_8 l (d + 1) kd mr h x1 x2 0 4 0 mi ml K) :
    wI l M_X12_commandAt (d + 1) [.ref h, .int x1, .int x2] kd mr mi ml K := by
  show wp l M_X12_commandAt (d + 1) 0 0 0 [some (.ref h), some (.int x1), some (.int x2), none, none, none, none] [] 0 0 kd mi ml mr _
  refine wp_iconst (v := 0) (pc := 0) dX12_commandAt_0 (by decide) ?_
  refine wp_istore_n (pc := 1) dX12_commandAt_1 (Nat.le_of_ble_eq_true rfl) rfl ?_
  show wp l M_X12_commandAt (d + 1) 0 0 _ [some (.ref h), some (.int x1), some (.int x2), some (.int 0), none, none, none] _ 0 0 kd _ _ mr _
  refine wp_iconst (v := 4) (pc := 2) dX12_commandAt_2 (by decide) ?_
  refine wp_istore (pc := 3) dX12_commandAt_3 (Nat.le_of_ble_eq_true rfl) rfl ?_
  show wp l M_X12_commandAt (d + 1) 0 0 _ [some (.ref h), some (.int x1), some (.int x2), some (.int 0), some (.int 4), none, none] _ 0 0 kd _ _ mr _
  refine wp_iconst (v := 0) (pc := 5) dX12_commandAt_5 (by decide) ?_
  refine wp_istore (pc := 6) dX12_commandAt_6 (Nat.le_of_ble_eq_true rfl) rfl ?_
  show wp l M_X12_commandAt (d + 1) 0 0 _ [some (.ref h), some (.int x1), some (.int x2), some (.int 0), some (.int 4), some (.int 0), none] _ 0 0 kd _ _ mr _
  exact wp_less (L' := [some (.ref h), some (.int x1), some (.int x2), some (.int 0), some (.int 4), some (.int 0), none]) ⟨rfl, ⟨rfl, ⟨rfl, ⟨rfl, ⟨rfl, ⟨rfl, trivial⟩⟩⟩⟩⟩⟩ F
def c_X12_part_61 (l : Launch) (d : Nat) (kd : pm_K) (mr : pm_R) (h : Nat) (x4 : Int32) (x5 : Int32) (mi : pm_I) (ml : pm_L) (K : Int32 → pm_I → pm_L → Prop) : Prop := wp l M_X12_part d 0 0 61 [some (.ref h), none, none, none, some (.int x4), some (.int x5)] [] 0 0 kd mi ml mr (qI kd mr K)
theorem w_X12_part_61 {l : Launch} {d : Nat} {kd : pm_K} {mr : pm_R} {h : Nat} {x4 : Int32} {x5 : Int32} {mi : pm_I} {ml : pm_L} {K : Int32 → pm_I → pm_L → Prop} (th : TX12s kd mr h)
    (F : (((mi h 26) < x5 → K x4 mi ml) ∧ (¬ (mi h 26) < x5 → wI l M_X12_unlike d [.ref h, .int x5] kd mr mi ml (fun r18 mi19 ml20 => wI l M_X12_unlike d [.ref h, .int x4] kd mr mi19 ml20 (fun r21 mi22 ml23 => c_X12_part_61 l (d + 1) kd mr h (if r21 ≤ r18 then x4 else x5) (x5 + 1) mi22 ml23 K))))) :
    c_X12_part_61 l (d + 1) kd mr h x4 x5 mi ml K := by
  show wp l M_X12_part (d + 1) 0 0 61 [some (.ref h), none, none, none, some (.int x4), some (.int x5)] [] 0 0 kd mi ml mr _
  refine wp_iload (pc := 61) dX12_part_61 rfl ?_
  refine wp_aload_n (pc := 63) dX12_part_63 rfl ?_
  refine wp_getI (pc := 64) dX12_part_64 fl_X12_328 rfl (TX12s_k th) ?_
  refine wp_icmp_gt (tgt := 100) (pc := 67) dX12_part_67 (by decide) (fun c17 => ?_) (fun c17 => ?_)
  · have F := F.1 c17
    refine wp_iload (pc := 100) dX12_part_100 rfl ?_
    exact r_I (pc := 102) dX12_part_102 rfl F
  · have F := F.2 c17
    refine wp_aload_n (pc := 70) dX12_part_70 rfl ?_
    refine wp_iload (pc := 71) dX12_part_71 rfl ?_
    refine cvI [.int x5] [] (pc := 73) dX12_part_73 ml_X12_511 iv_X12_unlike (TX12s_k th) (cl_X12 rfl) rfl rfl (Nat.le_of_ble_eq_true rfl) (Nat.le_of_ble_eq_true rfl) (wI.mono (fun r18 mi19 ml20 F => ?_) F)
    refine wp_aload_n (pc := 76) dX12_part_76 rfl ?_
    refine wp_iload (pc := 77) dX12_part_77 rfl ?_
    refine cvI [.int x4] [.int r18] (pc := 79) dX12_part_79 ml_X12_511 iv_X12_unlike (TX12s_k th) (cl_X12 rfl) rfl rfl (Nat.le_of_ble_eq_true rfl) (Nat.le_of_ble_eq_true rfl) (wI.mono (fun r21 mi22 ml23 F => ?_) F)
    suffices J24 : ∀ v25 : Int32, v25 = (if r21 ≤ r18 then x4 else x5) → wp l M_X12_part (d + 1) 0 0 92 [some (.ref h), none, none, none, some (.int x4), some (.int x5)] [.int v25] 0 0 kd mi22 ml23 mr _ by
        refine wp_icmp_ge (tgt := 90) (pc := 82) dX12_part_82 (by decide) (fun c26 => ?_) (fun c26 => ?_)
        · refine wp_iload (pc := 90) dX12_part_90 rfl ?_
          exact J24 _ (by simp only [eq_true c26, if_true, if_false, decide_true, decide_false, Bool.not_true, Bool.not_false, Bool.true_and, Bool.false_and, Bool.true_or, Bool.false_or, b2i_t, b2i_f, ite_true, ite_false, not_true_eq_false, not_false_eq_true, reduceCtorEq, decide_eq_true_eq])
        · refine wp_iload (pc := 85) dX12_part_85 rfl ?_
          refine wp_goto (tgt := 92) (pc := 87) dX12_part_87 (by decide) ?_
          exact J24 _ (by simp only [c26, if_true, if_false, decide_true, decide_false, Bool.not_true, Bool.not_false, Bool.true_and, Bool.false_and, Bool.true_or, Bool.false_or, b2i_t, b2i_f, ite_true, ite_false, not_true_eq_false, not_false_eq_true, reduceCtorEq, decide_eq_true_eq])
    intro v25 ev25
    subst ev25
    refine wp_istore (pc := 92) dX12_part_92 (Nat.le_of_ble_eq_true rfl) rfl ?_
    show wp l M_X12_part (d + 1) 0 0 _ [some (.ref h), none, none, none, some (.int (if r21 ≤ r18 then x4 else x5)), some (.int x5)] _ 0 0 kd _ _ mr _
    refine wp_iinc (v := (x5 + 1)) (pc := 94) dX12_part_94 rfl rfl rfl ?_
    show wp l M_X12_part (d + 1) 0 0 _ [some (.ref h), none, none, none, some (.int (if r21 ≤ r18 then x4 else x5)), some (.int (x5 + 1))] _ 0 0 kd _ _ mr _
    refine wp_goto (tgt := 61) (pc := 97) dX12_part_97 (by decide) ?_
    exact wp_less (L' := [some (.ref h), none, none, none, some (.int (if r21 ≤ r18 then x4 else x5)), some (.int (x5 + 1))]) ⟨rfl, ⟨rfl, ⟨rfl, trivial⟩⟩⟩ F
/-- part(IIZ)I -/
theorem w_X12_part {l : Launch} {d : Nat} {kd : pm_K} {mr : pm_R} {h : Nat} {x1 : Int32} {x2 : Int32} {x3 : Bool} {mi : pm_I} {ml : pm_L} {K : Int32 → pm_I → pm_L → Prop} (th : TX12s kd mr h)
    (F : wB l M_X12_hand d [.ref h, .int x1] kd mr (pm_up mi h 0 0) ml (fun r1 mi2 ml3 => ((r1 = false → K (-1) mi2 ml3) ∧ (r1 = true → wB l M_X12_in d [.int x2, .int (-1), .int (mi2 h 26)] kd mr mi2 ml3 (fun r5 mi6 ml7 => ((r5 = true → ((x2 = (-1) → c_X12_part_61 l (d + 1) kd mr h 0 1 mi6 ml7 K) ∧ (¬ x2 = (-1) → ((x3 = false → wI l M_X12_onLeft d [.ref h, .int x2] kd mr mi6 ml7 (fun r11 mi12 ml13 => K r11 mi12 ml13)) ∧ (x3 = true → wI l M_X12_onLeft d [.ref h, .int x2] kd mr mi6 ml7 (fun r14 mi15 ml16 => K ((mi6 h 29) - r14) mi15 ml16)))))) ∧ (r5 = false → K (-1) mi6 ml7))))))) :
    wI l M_X12_part (d + 1) [.ref h, .int x1, .int x2, .int (b2i x3)] kd mr mi ml K := by
  show wp l M_X12_part (d + 1) 0 0 0 [some (.ref h), some (.int x1), some (.int x2), some (.int (b2i x3)), none, none] [] 0 0 kd mi ml mr _
  refine wp_aload_n (pc := 0) dX12_part_0 rfl ?_
  refine wp_iconst (v := 0) (pc := 1) dX12_part_1 (by decide) ?_
  refine wp_putI (pc := 2) dX12_part_2 fl_X12_107 rfl rfl (TX12s_k th) ?_
  refine wp_aload_n (pc := 5) dX12_part_5 rfl ?_
  refine wp_iload_n (pc := 6) dX12_part_6 rfl ?_
  refine cvB [.int x1] [] (pc := 7) dX12_part_7 ml_X12_346 iv_X12_hand (TX12s_k th) (cl_X12 rfl) rfl rfl (Nat.le_of_ble_eq_true rfl) (Nat.le_of_ble_eq_true rfl) (wB.mono (fun r1 mi2 ml3 F => ?_) F)
  refine b_eq (tgt := 25) (pc := 10) dX12_part_10 (by decide) (fun c4 => ?_) (fun c4 => ?_)
  · have F := F.1 c4
    refine wp_iconst (v := -1) (pc := 25) dX12_part_25 (by decide) ?_
    exact r_I (pc := 26) dX12_part_26 rfl F
  · have F := F.2 c4
    refine wp_iload_n (pc := 13) dX12_part_13 rfl ?_
    refine wp_iconst (v := -1) (pc := 14) dX12_part_14 (by decide) ?_
    refine wp_aload_n (pc := 15) dX12_part_15 rfl ?_
    refine wp_getI (pc := 16) dX12_part_16 fl_X12_328 rfl (TX12s_k th) ?_
    refine csB [.int x2, .int (-1), .int (mi2 h 26)] [] (pc := 19) dX12_part_19 ml_X12_119 st_X12_in rfl rfl (Nat.le_of_ble_eq_true rfl) (Nat.le_of_ble_eq_true rfl) (wB.mono (fun r5 mi6 ml7 F => ?_) F)
    refine b_ne (tgt := 27) (pc := 22) dX12_part_22 (by decide) (fun c8 => ?_) (fun c8 => ?_)
    · have F := F.1 c8
      refine wp_iload_n (pc := 27) dX12_part_27 rfl ?_
      refine wp_iconst (v := -1) (pc := 28) dX12_part_28 (by decide) ?_
      refine wp_icmp_eq (tgt := 55) (pc := 29) dX12_part_29 (by decide) (fun c9 => ?_) (fun c9 => ?_)
      · have F := F.1 c9
        refine wp_iconst (v := 0) (pc := 55) dX12_part_55 (by decide) ?_
        refine wp_istore (pc := 56) dX12_part_56 (Nat.le_of_ble_eq_true rfl) rfl ?_
        show wp l M_X12_part (d + 1) 0 0 _ [some (.ref h), some (.int x1), some (.int x2), some (.int (b2i x3)), some (.int 0), none] _ 0 0 kd _ _ mr _
        refine wp_iconst (v := 1) (pc := 58) dX12_part_58 (by decide) ?_
        refine wp_istore (pc := 59) dX12_part_59 (Nat.le_of_ble_eq_true rfl) rfl ?_
        show wp l M_X12_part (d + 1) 0 0 _ [some (.ref h), some (.int x1), some (.int x2), some (.int (b2i x3)), some (.int 0), some (.int 1)] _ 0 0 kd _ _ mr _
        exact wp_less (L' := [some (.ref h), none, none, none, some (.int 0), some (.int 1)]) ⟨rfl, ⟨rfl, ⟨rfl, trivial⟩⟩⟩ F
      · have F := F.2 c9
        refine wp_iload_n (pc := 32) dX12_part_32 rfl ?_
        refine b_eq (tgt := 49) (pc := 33) dX12_part_33 (by decide) (fun c10 => ?_) (fun c10 => ?_)
        · have F := F.1 c10
          refine wp_aload_n (pc := 49) dX12_part_49 rfl ?_
          refine wp_iload_n (pc := 50) dX12_part_50 rfl ?_
          refine cvI [.int x2] [] (pc := 51) dX12_part_51 ml_X12_508 iv_X12_onLeft (TX12s_k th) (cl_X12 rfl) rfl rfl (Nat.le_of_ble_eq_true rfl) (Nat.le_of_ble_eq_true rfl) (wI.mono (fun r11 mi12 ml13 F => ?_) F)
          exact r_I (pc := 54) dX12_part_54 rfl F
        · have F := F.2 c10
          refine wp_aload_n (pc := 36) dX12_part_36 rfl ?_
          refine wp_getI (pc := 37) dX12_part_37 fl_X12_337 rfl (TX12s_k th) ?_
          refine wp_aload_n (pc := 40) dX12_part_40 rfl ?_
          refine wp_iload_n (pc := 41) dX12_part_41 rfl ?_
          refine cvI [.int x2] [.int (mi6 h 29)] (pc := 42) dX12_part_42 ml_X12_508 iv_X12_onLeft (TX12s_k th) (cl_X12 rfl) rfl rfl (Nat.le_of_ble_eq_true rfl) (Nat.le_of_ble_eq_true rfl) (wI.mono (fun r14 mi15 ml16 F => ?_) F)
          refine wp_isub (pc := 45) dX12_part_45 ?_
          refine wp_goto (tgt := 54) (pc := 46) dX12_part_46 (by decide) ?_
          exact r_I (pc := 54) dX12_part_54 rfl F
    · have F := F.2 c8
      refine wp_iconst (v := -1) (pc := 25) dX12_part_25 (by decide) ?_
      exact r_I (pc := 26) dX12_part_26 rfl F
def c_X12_onLeft_4 (l : Launch) (d : Nat) (kd : pm_K) (mr : pm_R) (h : Nat) (x1 : Int32) (x2 : Int32) (x3 : Int32) (mi : pm_I) (ml : pm_L) (K : Int32 → pm_I → pm_L → Prop) : Prop := wp l M_X12_onLeft d 0 0 4 [some (.ref h), some (.int x1), some (.int x2), some (.int x3)] [] 0 0 kd mi ml mr (qI kd mr K)
theorem w_X12_onLeft_4 {l : Launch} {d : Nat} {kd : pm_K} {mr : pm_R} {h : Nat} {x1 : Int32} {x2 : Int32} {x3 : Int32} {mi : pm_I} {ml : pm_L} {K : Int32 → pm_I → pm_L → Prop} (th : TX12s kd mr h)
    (F : (((mi h 29) ≤ x3 → K x2 mi ml) ∧ (¬ (mi h 29) ≤ x3 → wI l M_X12_cellOf d [.ref h, .int 27, .int x3] kd mr mi ml (fun r2 mi3 ml4 => ¬ (mi3 h 26) = 0 ∧ c_X12_onLeft_4 l (d + 1) kd mr h x1 (x2 + (b2i (!decide (x1 ≤ (r2 - r2 / (mi3 h 26) * (mi3 h 26)))))) (x3 + 1) mi3 ml4 K)))) :
    c_X12_onLeft_4 l (d + 1) kd mr h x1 x2 x3 mi ml K := by
  show wp l M_X12_onLeft (d + 1) 0 0 4 [some (.ref h), some (.int x1), some (.int x2), some (.int x3)] [] 0 0 kd mi ml mr _
  refine wp_iload_n (pc := 4) dX12_onLeft_4 rfl ?_
  refine wp_aload_n (pc := 5) dX12_onLeft_5 rfl ?_
  refine wp_getI (pc := 6) dX12_onLeft_6 fl_X12_337 rfl (TX12s_k th) ?_
  refine wp_icmp_ge (tgt := 42) (pc := 9) dX12_onLeft_9 (by decide) (fun c1 => ?_) (fun c1 => ?_)
  · have F := F.1 c1
    refine wp_iload_n (pc := 42) dX12_onLeft_42 rfl ?_
    exact r_I (pc := 43) dX12_onLeft_43 rfl F
  · have F := F.2 c1
    refine wp_iload_n (pc := 12) dX12_onLeft_12 rfl ?_
    refine wp_aload_n (pc := 13) dX12_onLeft_13 rfl ?_
    refine wp_bipush (v := 27) (pc := 14) dX12_onLeft_14 (by decide) ?_
    refine wp_iload_n (pc := 16) dX12_onLeft_16 rfl ?_
    refine cvI [.int 27, .int x3] [.int x2] (pc := 17) dX12_onLeft_17 ml_X12_352 iv_X12_cellOf (TX12s_k th) (cl_X12 rfl) rfl rfl (Nat.le_of_ble_eq_true rfl) (Nat.le_of_ble_eq_true rfl) (wI.mono (fun r2 mi3 ml4 F => ?_) F)
    refine wp_aload_n (pc := 20) dX12_onLeft_20 rfl ?_
    refine wp_getI (pc := 21) dX12_onLeft_21 fl_X12_328 rfl (TX12s_k th) ?_
    refine wp_irem (pc := 24) dX12_onLeft_24 F.1 ?_
    have F := F.2
    refine wp_iload_n (pc := 25) dX12_onLeft_25 rfl ?_
    suffices J5 : ∀ v6 : Int32, v6 = (b2i (!decide (x1 ≤ (r2 - r2 / (mi3 h 26) * (mi3 h 26))))) → wp l M_X12_onLeft (d + 1) 0 0 34 [some (.ref h), some (.int x1), some (.int x2), some (.int x3)] [.int v6, .int x2] 0 0 kd mi3 ml4 mr _ by
        refine wp_icmp_ge (tgt := 33) (pc := 26) dX12_onLeft_26 (by decide) (fun c7 => ?_) (fun c7 => ?_)
        · refine wp_iconst (v := 0) (pc := 33) dX12_onLeft_33 (by decide) ?_
          exact J5 _ (by simp only [eq_true c7, if_true, if_false, decide_true, decide_false, Bool.not_true, Bool.not_false, Bool.true_and, Bool.false_and, Bool.true_or, Bool.false_or, b2i_t, b2i_f, ite_true, ite_false, not_true_eq_false, not_false_eq_true, reduceCtorEq, decide_eq_true_eq])
        · refine wp_iconst (v := 1) (pc := 29) dX12_onLeft_29 (by decide) ?_
          refine wp_goto (tgt := 34) (pc := 30) dX12_onLeft_30 (by decide) ?_
          exact J5 _ (by simp only [c7, if_true, if_false, decide_true, decide_false, Bool.not_true, Bool.not_false, Bool.true_and, Bool.false_and, Bool.true_or, Bool.false_or, b2i_t, b2i_f, ite_true, ite_false, not_true_eq_false, not_false_eq_true, reduceCtorEq, decide_eq_true_eq])
    intro v6 ev6
    subst ev6
    refine wp_iadd (pc := 34) dX12_onLeft_34 ?_
    refine wp_istore_n (pc := 35) dX12_onLeft_35 (Nat.le_of_ble_eq_true rfl) rfl ?_
    show wp l M_X12_onLeft (d + 1) 0 0 _ [some (.ref h), some (.int x1), some (.int (x2 + (b2i (!decide (x1 ≤ (r2 - r2 / (mi3 h 26) * (mi3 h 26))))))), some (.int x3)] _ 0 0 kd _ _ mr _
    refine wp_iinc (v := (x3 + 1)) (pc := 36) dX12_onLeft_36 rfl rfl rfl ?_
    show wp l M_X12_onLeft (d + 1) 0 0 _ [some (.ref h), some (.int x1), some (.int (x2 + (b2i (!decide (x1 ≤ (r2 - r2 / (mi3 h 26) * (mi3 h 26))))))), some (.int (x3 + 1))] _ 0 0 kd _ _ mr _
    refine wp_goto (tgt := 4) (pc := 39) dX12_onLeft_39 (by decide) ?_
    exact wp_less (L' := [some (.ref h), some (.int x1), some (.int (x2 + (b2i (!decide (x1 ≤ (r2 - r2 / (mi3 h 26) * (mi3 h 26))))))), some (.int (x3 + 1))]) ⟨rfl, ⟨rfl, ⟨rfl, ⟨rfl, trivial⟩⟩⟩⟩ F
/-- onLeft(I)I -/
theorem w_X12_onLeft {l : Launch} {d : Nat} {kd : pm_K} {mr : pm_R} {h : Nat} {x1 : Int32} {mi : pm_I} {ml : pm_L} {K : Int32 → pm_I → pm_L → Prop} (th : TX12s kd mr h)
    (F : c_X12_onLeft_4 l (d + 1) kd mr h x1 0 0 mi ml K) :
    wI l M_X12_onLeft (d + 1) [.ref h, .int x1] kd mr mi ml K := by
  show wp l M_X12_onLeft (d + 1) 0 0 0 [some (.ref h), some (.int x1), none, none] [] 0 0 kd mi ml mr _
  refine wp_iconst (v := 0) (pc := 0) dX12_onLeft_0 (by decide) ?_
  refine wp_istore_n (pc := 1) dX12_onLeft_1 (Nat.le_of_ble_eq_true rfl) rfl ?_
  show wp l M_X12_onLeft (d + 1) 0 0 _ [some (.ref h), some (.int x1), some (.int 0), none] _ 0 0 kd _ _ mr _
  refine wp_iconst (v := 0) (pc := 2) dX12_onLeft_2 (by decide) ?_
  refine wp_istore_n (pc := 3) dX12_onLeft_3 (Nat.le_of_ble_eq_true rfl) rfl ?_
  show wp l M_X12_onLeft (d + 1) 0 0 _ [some (.ref h), some (.int x1), some (.int 0), some (.int 0)] _ 0 0 kd _ _ mr _
  exact wp_less (L' := [some (.ref h), some (.int x1), some (.int 0), some (.int 0)]) ⟨rfl, ⟨rfl, ⟨rfl, ⟨rfl, trivial⟩⟩⟩⟩ F
/-- unlike(I)I -/
theorem w_X12_unlike {l : Launch} {d : Nat} {kd : pm_K} {mr : pm_R} {h : Nat} {x1 : Int32} {mi : pm_I} {ml : pm_L} {K : Int32 → pm_I → pm_L → Prop} (th : TX12s kd mr h)
    (F : wI l M_X12_onLeft d [.ref h, .int x1] kd mr mi ml (fun r1 mi2 ml3 => K (if 0 ≤ ((2 * r1) - (mi2 h 29)) then ((2 * r1) - (mi2 h 29)) else (-((2 * r1) - (mi2 h 29)))) mi2 ml3)) :
    wI l M_X12_unlike (d + 1) [.ref h, .int x1] kd mr mi ml K := by
  show wp l M_X12_unlike (d + 1) 0 0 0 [some (.ref h), some (.int x1), none] [] 0 0 kd mi ml mr _
  refine wp_iconst (v := 2) (pc := 0) dX12_unlike_0 (by decide) ?_
  refine wp_aload_n (pc := 1) dX12_unlike_1 rfl ?_
  refine wp_iload_n (pc := 2) dX12_unlike_2 rfl ?_
  refine cvI [.int x1] [.int 2] (pc := 3) dX12_unlike_3 ml_X12_508 iv_X12_onLeft (TX12s_k th) (cl_X12 rfl) rfl rfl (Nat.le_of_ble_eq_true rfl) (Nat.le_of_ble_eq_true rfl) (wI.mono (fun r1 mi2 ml3 F => ?_) F)
  refine wp_imul (pc := 6) dX12_unlike_6 ?_
  refine wp_aload_n (pc := 7) dX12_unlike_7 rfl ?_
  refine wp_getI (pc := 8) dX12_unlike_8 fl_X12_337 rfl (TX12s_k th) ?_
  refine wp_isub (pc := 11) dX12_unlike_11 ?_
  refine wp_istore_n (pc := 12) dX12_unlike_12 (Nat.le_of_ble_eq_true rfl) rfl ?_
  show wp l M_X12_unlike (d + 1) 0 0 _ [some (.ref h), some (.int x1), some (.int ((2 * r1) - (mi2 h 29)))] _ 0 0 kd _ _ mr _
  refine wp_iload_n (pc := 13) dX12_unlike_13 rfl ?_
  suffices J4 : ∀ v5 : Int32, v5 = (if 0 ≤ ((2 * r1) - (mi2 h 29)) then ((2 * r1) - (mi2 h 29)) else (-((2 * r1) - (mi2 h 29)))) → wp l M_X12_unlike (d + 1) 0 0 23 [some (.ref h), some (.int x1), some (.int ((2 * r1) - (mi2 h 29)))] [.int v5] 0 0 kd mi2 ml3 mr _ by
      refine wp_if_ge (tgt := 22) (pc := 14) dX12_unlike_14 (by decide) (fun c6 => ?_) (fun c6 => ?_)
      · refine wp_iload_n (pc := 22) dX12_unlike_22 rfl ?_
        exact J4 _ (by simp only [eq_true c6, if_true, if_false, decide_true, decide_false, Bool.not_true, Bool.not_false, Bool.true_and, Bool.false_and, Bool.true_or, Bool.false_or, b2i_t, b2i_f, ite_true, ite_false, not_true_eq_false, not_false_eq_true, reduceCtorEq, decide_eq_true_eq])
      · refine wp_iload_n (pc := 17) dX12_unlike_17 rfl ?_
        refine wp_ineg (pc := 18) dX12_unlike_18 ?_
        refine wp_goto (tgt := 23) (pc := 19) dX12_unlike_19 (by decide) ?_
        exact J4 _ (by simp only [c6, if_true, if_false, decide_true, decide_false, Bool.not_true, Bool.not_false, Bool.true_and, Bool.false_and, Bool.true_or, Bool.false_or, b2i_t, b2i_f, ite_true, ite_false, not_true_eq_false, not_false_eq_true, reduceCtorEq, decide_eq_true_eq])
  intro v5 ev5
  subst ev5
  exact r_I (pc := 23) dX12_unlike_23 rfl F
def c_X12_line_34 (l : Launch) (d : Nat) (kd : pm_K) (mr : pm_R) (h : Nat) (x2 : Int32) (x3 : Int32) (x4 : Int32) (x5 : Int32) (x6 : Int32) (mi : pm_I) (ml : pm_L) (K : Int32 → pm_I → pm_L → Prop) : Prop := wp l M_X12_line d 0 0 34 [some (.ref h), none, some (.int x2), some (.int x3), some (.int x4), some (.int x5), some (.int x6)] [] 0 0 kd mi ml mr (qI kd mr K)
def c_X12_line_19 (l : Launch) (d : Nat) (kd : pm_K) (mr : pm_R) (h : Nat) (x2 : Int32) (x3 : Int32) (mi : pm_I) (ml : pm_L) (K : Int32 → pm_I → pm_L → Prop) : Prop := wp l M_X12_line d 0 0 19 [some (.ref h), none, some (.int x2), some (.int x3), none, none, none] [] 0 0 kd mi ml mr (qI kd mr K)
theorem w_X12_line_19 {l : Launch} {d : Nat} {kd : pm_K} {mr : pm_R} {h : Nat} {x2 : Int32} {x3 : Int32} {mi : pm_I} {ml : pm_L} {K : Int32 → pm_I → pm_L → Prop} (th : TX12s kd mr h)
    (F : ((8 ≤ x3 → K x2 mi ml) ∧ (¬ 8 ≤ x3 → c_X12_line_34 l (d + 1) kd mr h x2 x3 0 0 0 mi ml K))) :
    c_X12_line_19 l (d + 1) kd mr h x2 x3 mi ml K := by
  show wp l M_X12_line (d + 1) 0 0 19 [some (.ref h), none, some (.int x2), some (.int x3), none, none, none] [] 0 0 kd mi ml mr _
  refine wp_iload_n (pc := 19) dX12_line_19 rfl ?_
  refine wp_bipush (v := 8) (pc := 20) dX12_line_20 (by decide) ?_
  refine wp_icmp_ge (tgt := 121) (pc := 22) dX12_line_22 (by decide) (fun c5 => ?_) (fun c5 => ?_)
  · have F := F.1 c5
    refine wp_iload_n (pc := 121) dX12_line_121 rfl ?_
    exact r_I (pc := 122) dX12_line_122 rfl F
  · have F := F.2 c5
    refine wp_iconst (v := 0) (pc := 25) dX12_line_25 (by decide) ?_
    refine wp_istore (pc := 26) dX12_line_26 (Nat.le_of_ble_eq_true rfl) rfl ?_
    show wp l M_X12_line (d + 1) 0 0 _ [some (.ref h), none, some (.int x2), some (.int x3), some (.int 0), none, none] _ 0 0 kd _ _ mr _
    refine wp_iconst (v := 0) (pc := 28) dX12_line_28 (by decide) ?_
    refine wp_istore (pc := 29) dX12_line_29 (Nat.le_of_ble_eq_true rfl) rfl ?_
    show wp l M_X12_line (d + 1) 0 0 _ [some (.ref h), none, some (.int x2), some (.int x3), some (.int 0), some (.int 0), none] _ 0 0 kd _ _ mr _
    refine wp_iconst (v := 0) (pc := 31) dX12_line_31 (by decide) ?_
    refine wp_istore (pc := 32) dX12_line_32 (Nat.le_of_ble_eq_true rfl) rfl ?_
    show wp l M_X12_line (d + 1) 0 0 _ [some (.ref h), none, some (.int x2), some (.int x3), some (.int 0), some (.int 0), some (.int 0)] _ 0 0 kd _ _ mr _
    exact wp_less (L' := [some (.ref h), none, some (.int x2), some (.int x3), some (.int 0), some (.int 0), some (.int 0)]) ⟨rfl, ⟨rfl, ⟨rfl, ⟨rfl, ⟨rfl, ⟨rfl, trivial⟩⟩⟩⟩⟩⟩ F
theorem w_X12_line_34 {l : Launch} {d : Nat} {kd : pm_K} {mr : pm_R} {h : Nat} {x2 : Int32} {x3 : Int32} {x4 : Int32} {x5 : Int32} {x6 : Int32} {mi : pm_I} {ml : pm_L} {K : Int32 → pm_I → pm_L → Prop} (th : TX12s kd mr h)
    (F : (((mi h 29) ≤ x6 → wI l M_X12_greater d [.int x4, .int x5] kd mr mi ml (fun r7 mi8 ml9 => wI l M_X12_greater d [.int x2, .int r7] kd mr mi8 ml9 (fun r10 mi11 ml12 => c_X12_line_19 l (d + 1) kd mr h r10 (x3 + 1) mi11 ml12 K))) ∧ (¬ (mi h 29) ≤ x6 → wI l M_X12_cellOf d [.ref h, .int 27, .int x6] kd mr mi ml (fun r13 mi14 ml15 => ¬ (mi14 h 26) = 0 ∧ wI l M_X12_cellOf d [.ref h, .int 27, .int x6] kd mr mi14 ml15 (fun r19 mi20 ml21 => ¬ (mi20 h 26) = 0 ∧ c_X12_line_34 l (d + 1) kd mr h x2 x3 (x4 + (b2i (decide ((r13 - r13 / (mi14 h 26) * (mi14 h 26)) = x3)))) (x5 + (b2i (decide ((r19 / (mi20 h 26)) = x3)))) (x6 + 1) mi20 ml21 K))))) :
    c_X12_line_34 l (d + 1) kd mr h x2 x3 x4 x5 x6 mi ml K := by
  show wp l M_X12_line (d + 1) 0 0 34 [some (.ref h), none, some (.int x2), some (.int x3), some (.int x4), some (.int x5), some (.int x6)] [] 0 0 kd mi ml mr _
  refine wp_iload (pc := 34) dX12_line_34 rfl ?_
  refine wp_aload_n (pc := 36) dX12_line_36 rfl ?_
  refine wp_getI (pc := 37) dX12_line_37 fl_X12_337 rfl (TX12s_k th) ?_
  refine wp_icmp_ge (tgt := 103) (pc := 40) dX12_line_40 (by decide) (fun c6 => ?_) (fun c6 => ?_)
  · have F := F.1 c6
    refine wp_iload_n (pc := 103) dX12_line_103 rfl ?_
    refine wp_iload (pc := 104) dX12_line_104 rfl ?_
    refine wp_iload (pc := 106) dX12_line_106 rfl ?_
    refine csI [.int x4, .int x5] [.int x2] (pc := 108) dX12_line_108 ml_X12_180 st_X12_greater rfl rfl (Nat.le_of_ble_eq_true rfl) (Nat.le_of_ble_eq_true rfl) (wI.mono (fun r7 mi8 ml9 F => ?_) F)
    refine csI [.int x2, .int r7] [] (pc := 111) dX12_line_111 ml_X12_180 st_X12_greater rfl rfl (Nat.le_of_ble_eq_true rfl) (Nat.le_of_ble_eq_true rfl) (wI.mono (fun r10 mi11 ml12 F => ?_) F)
    refine wp_istore_n (pc := 114) dX12_line_114 (Nat.le_of_ble_eq_true rfl) rfl ?_
    show wp l M_X12_line (d + 1) 0 0 _ [some (.ref h), none, some (.int r10), some (.int x3), some (.int x4), some (.int x5), some (.int x6)] _ 0 0 kd _ _ mr _
    refine wp_iinc (v := (x3 + 1)) (pc := 115) dX12_line_115 rfl rfl rfl ?_
    show wp l M_X12_line (d + 1) 0 0 _ [some (.ref h), none, some (.int r10), some (.int (x3 + 1)), some (.int x4), some (.int x5), some (.int x6)] _ 0 0 kd _ _ mr _
    refine wp_goto (tgt := 19) (pc := 118) dX12_line_118 (by decide) ?_
    exact wp_less (L' := [some (.ref h), none, some (.int r10), some (.int (x3 + 1)), none, none, none]) ⟨rfl, ⟨rfl, ⟨rfl, trivial⟩⟩⟩ F
  · have F := F.2 c6
    refine wp_iload (pc := 43) dX12_line_43 rfl ?_
    refine wp_aload_n (pc := 45) dX12_line_45 rfl ?_
    refine wp_bipush (v := 27) (pc := 46) dX12_line_46 (by decide) ?_
    refine wp_iload (pc := 48) dX12_line_48 rfl ?_
    refine cvI [.int 27, .int x6] [.int x4] (pc := 50) dX12_line_50 ml_X12_352 iv_X12_cellOf (TX12s_k th) (cl_X12 rfl) rfl rfl (Nat.le_of_ble_eq_true rfl) (Nat.le_of_ble_eq_true rfl) (wI.mono (fun r13 mi14 ml15 F => ?_) F)
    refine wp_aload_n (pc := 53) dX12_line_53 rfl ?_
    refine wp_getI (pc := 54) dX12_line_54 fl_X12_328 rfl (TX12s_k th) ?_
    refine wp_irem (pc := 57) dX12_line_57 F.1 ?_
    have F := F.2
    refine wp_iload_n (pc := 58) dX12_line_58 rfl ?_
    suffices J16 : ∀ v17 : Int32, v17 = (b2i (decide ((r13 - r13 / (mi14 h 26) * (mi14 h 26)) = x3))) → wp l M_X12_line (d + 1) 0 0 67 [some (.ref h), none, some (.int x2), some (.int x3), some (.int x4), some (.int x5), some (.int x6)] [.int v17, .int x4] 0 0 kd mi14 ml15 mr _ by
        refine wp_icmp_ne (tgt := 66) (pc := 59) dX12_line_59 (by decide) (fun c18 => ?_) (fun c18 => ?_)
        · refine wp_iconst (v := 0) (pc := 66) dX12_line_66 (by decide) ?_
          exact J16 _ (by simp only [c18, if_true, if_false, decide_true, decide_false, Bool.not_true, Bool.not_false, Bool.true_and, Bool.false_and, Bool.true_or, Bool.false_or, b2i_t, b2i_f, ite_true, ite_false, not_true_eq_false, not_false_eq_true, reduceCtorEq, decide_eq_true_eq])
        · refine wp_iconst (v := 1) (pc := 62) dX12_line_62 (by decide) ?_
          refine wp_goto (tgt := 67) (pc := 63) dX12_line_63 (by decide) ?_
          exact J16 _ (by simp only [eq_true c18, if_true, if_false, decide_true, decide_false, Bool.not_true, Bool.not_false, Bool.true_and, Bool.false_and, Bool.true_or, Bool.false_or, b2i_t, b2i_f, ite_true, ite_false, not_true_eq_false, not_false_eq_true, reduceCtorEq, decide_eq_true_eq])
    intro v17 ev17
    subst ev17
    refine wp_iadd (pc := 67) dX12_line_67 ?_
    refine wp_istore (pc := 68) dX12_line_68 (Nat.le_of_ble_eq_true rfl) rfl ?_
    show wp l M_X12_line (d + 1) 0 0 _ [some (.ref h), none, some (.int x2), some (.int x3), some (.int (x4 + (b2i (decide ((r13 - r13 / (mi14 h 26) * (mi14 h 26)) = x3))))), some (.int x5), some (.int x6)] _ 0 0 kd _ _ mr _
    refine wp_iload (pc := 70) dX12_line_70 rfl ?_
    refine wp_aload_n (pc := 72) dX12_line_72 rfl ?_
    refine wp_bipush (v := 27) (pc := 73) dX12_line_73 (by decide) ?_
    refine wp_iload (pc := 75) dX12_line_75 rfl ?_
    refine cvI [.int 27, .int x6] [.int x5] (pc := 77) dX12_line_77 ml_X12_352 iv_X12_cellOf (TX12s_k th) (cl_X12 rfl) rfl rfl (Nat.le_of_ble_eq_true rfl) (Nat.le_of_ble_eq_true rfl) (wI.mono (fun r19 mi20 ml21 F => ?_) F)
    refine wp_aload_n (pc := 80) dX12_line_80 rfl ?_
    refine wp_getI (pc := 81) dX12_line_81 fl_X12_328 rfl (TX12s_k th) ?_
    refine wp_idiv (pc := 84) dX12_line_84 F.1 ?_
    have F := F.2
    refine wp_iload_n (pc := 85) dX12_line_85 rfl ?_
    suffices J22 : ∀ v23 : Int32, v23 = (b2i (decide ((r19 / (mi20 h 26)) = x3))) → wp l M_X12_line (d + 1) 0 0 94 [some (.ref h), none, some (.int x2), some (.int x3), some (.int (x4 + (b2i (decide ((r13 - r13 / (mi14 h 26) * (mi14 h 26)) = x3))))), some (.int x5), some (.int x6)] [.int v23, .int x5] 0 0 kd mi20 ml21 mr _ by
        refine wp_icmp_ne (tgt := 93) (pc := 86) dX12_line_86 (by decide) (fun c24 => ?_) (fun c24 => ?_)
        · refine wp_iconst (v := 0) (pc := 93) dX12_line_93 (by decide) ?_
          exact J22 _ (by simp only [c24, if_true, if_false, decide_true, decide_false, Bool.not_true, Bool.not_false, Bool.true_and, Bool.false_and, Bool.true_or, Bool.false_or, b2i_t, b2i_f, ite_true, ite_false, not_true_eq_false, not_false_eq_true, reduceCtorEq, decide_eq_true_eq])
        · refine wp_iconst (v := 1) (pc := 89) dX12_line_89 (by decide) ?_
          refine wp_goto (tgt := 94) (pc := 90) dX12_line_90 (by decide) ?_
          exact J22 _ (by simp only [eq_true c24, if_true, if_false, decide_true, decide_false, Bool.not_true, Bool.not_false, Bool.true_and, Bool.false_and, Bool.true_or, Bool.false_or, b2i_t, b2i_f, ite_true, ite_false, not_true_eq_false, not_false_eq_true, reduceCtorEq, decide_eq_true_eq])
    intro v23 ev23
    subst ev23
    refine wp_iadd (pc := 94) dX12_line_94 ?_
    refine wp_istore (pc := 95) dX12_line_95 (Nat.le_of_ble_eq_true rfl) rfl ?_
    show wp l M_X12_line (d + 1) 0 0 _ [some (.ref h), none, some (.int x2), some (.int x3), some (.int (x4 + (b2i (decide ((r13 - r13 / (mi14 h 26) * (mi14 h 26)) = x3))))), some (.int (x5 + (b2i (decide ((r19 / (mi20 h 26)) = x3))))), some (.int x6)] _ 0 0 kd _ _ mr _
    refine wp_iinc (v := (x6 + 1)) (pc := 97) dX12_line_97 rfl rfl rfl ?_
    show wp l M_X12_line (d + 1) 0 0 _ [some (.ref h), none, some (.int x2), some (.int x3), some (.int (x4 + (b2i (decide ((r13 - r13 / (mi14 h 26) * (mi14 h 26)) = x3))))), some (.int (x5 + (b2i (decide ((r19 / (mi20 h 26)) = x3))))), some (.int (x6 + 1))] _ 0 0 kd _ _ mr _
    refine wp_goto (tgt := 34) (pc := 100) dX12_line_100 (by decide) ?_
    exact wp_less (L' := [some (.ref h), none, some (.int x2), some (.int x3), some (.int (x4 + (b2i (decide ((r13 - r13 / (mi14 h 26) * (mi14 h 26)) = x3))))), some (.int (x5 + (b2i (decide ((r19 / (mi20 h 26)) = x3))))), some (.int (x6 + 1))]) ⟨rfl, ⟨rfl, ⟨rfl, ⟨rfl, ⟨rfl, ⟨rfl, trivial⟩⟩⟩⟩⟩⟩ F
/-- line(I)I -/
theorem w_X12_line {l : Launch} {d : Nat} {kd : pm_K} {mr : pm_R} {h : Nat} {x1 : Int32} {mi : pm_I} {ml : pm_L} {K : Int32 → pm_I → pm_L → Prop} (th : TX12s kd mr h)
    (F : wB l M_X12_hand d [.ref h, .int x1] kd mr (pm_up mi h 0 0) ml (fun r1 mi2 ml3 => ((r1 = true → c_X12_line_19 l (d + 1) kd mr h 0 0 mi2 ml3 K) ∧ (r1 = false → K (-1) mi2 ml3)))) :
    wI l M_X12_line (d + 1) [.ref h, .int x1] kd mr mi ml K := by
  show wp l M_X12_line (d + 1) 0 0 0 [some (.ref h), some (.int x1), none, none, none, none, none] [] 0 0 kd mi ml mr _
  refine wp_aload_n (pc := 0) dX12_line_0 rfl ?_
  refine wp_iconst (v := 0) (pc := 1) dX12_line_1 (by decide) ?_
  refine wp_putI (pc := 2) dX12_line_2 fl_X12_107 rfl rfl (TX12s_k th) ?_
  refine wp_aload_n (pc := 5) dX12_line_5 rfl ?_
  refine wp_iload_n (pc := 6) dX12_line_6 rfl ?_
  refine cvB [.int x1] [] (pc := 7) dX12_line_7 ml_X12_346 iv_X12_hand (TX12s_k th) (cl_X12 rfl) rfl rfl (Nat.le_of_ble_eq_true rfl) (Nat.le_of_ble_eq_true rfl) (wB.mono (fun r1 mi2 ml3 F => ?_) F)
  refine b_ne (tgt := 15) (pc := 10) dX12_line_10 (by decide) (fun c4 => ?_) (fun c4 => ?_)
  · have F := F.1 c4
    refine wp_iconst (v := 0) (pc := 15) dX12_line_15 (by decide) ?_
    refine wp_istore_n (pc := 16) dX12_line_16 (Nat.le_of_ble_eq_true rfl) rfl ?_
    show wp l M_X12_line (d + 1) 0 0 _ [some (.ref h), some (.int x1), some (.int 0), none, none, none, none] _ 0 0 kd _ _ mr _
    refine wp_iconst (v := 0) (pc := 17) dX12_line_17 (by decide) ?_
    refine wp_istore_n (pc := 18) dX12_line_18 (Nat.le_of_ble_eq_true rfl) rfl ?_
    show wp l M_X12_line (d + 1) 0 0 _ [some (.ref h), some (.int x1), some (.int 0), some (.int 0), none, none, none] _ 0 0 kd _ _ mr _
    exact wp_less (L' := [some (.ref h), none, some (.int 0), some (.int 0), none, none, none]) ⟨rfl, ⟨rfl, ⟨rfl, trivial⟩⟩⟩ F
  · have F := F.2 c4
    refine wp_iconst (v := -1) (pc := 13) dX12_line_13 (by decide) ?_
    exact r_I (pc := 14) dX12_line_14 rfl F
def c_X12_trial_18 (l : Launch) (d : Nat) (kd : pm_K) (mr : pm_R) (h : Nat) (x2 : Int32) (x3 : Int32) (mi : pm_I) (ml : pm_L) (K : Int32 → pm_I → pm_L → Prop) : Prop := wp l M_X12_trial d 0 0 18 [some (.ref h), none, some (.int x2), some (.int x3), none] [] 0 0 kd mi ml mr (qI kd mr K)
theorem w_X12_trial_18 {l : Launch} {d : Nat} {kd : pm_K} {mr : pm_R} {h : Nat} {x2 : Int32} {x3 : Int32} {mi : pm_I} {ml : pm_L} {K : Int32 → pm_I → pm_L → Prop} (th : TX12s kd mr h)
    (F : ((3 ≤ x3 → wB l M_X12_in d [.int x2, .int 0, .int 2] kd mr mi ml (fun r6 mi7 ml8 => ((r6 = false → K (-2) mi7 ml8) ∧ (r6 = true → wI l M_X12_trialOf d [.ref h, .int x2] kd mr mi7 ml8 (fun r10 mi11 ml12 => K r10 mi11 ml12))))) ∧ (¬ 3 ≤ x3 → wI l M_X12_trialOf d [.ref h, .int 2] kd mr mi ml (fun r13 mi14 ml15 => wB l M_X12_in d [.int ((x2 - 10) - (20 * x3)), .int 0, .int (r13 - 1)] kd mr mi14 ml15 (fun r16 mi17 ml18 => ((r16 = false → c_X12_trial_18 l (d + 1) kd mr h x2 (x3 + 1) mi17 ml18 K) ∧ (r16 = true → wI l M_X12_trialOf d [.ref h, .int ((3 + (3 * ((x2 - 10) - (20 * x3)))) + x3)] kd mr mi17 ml18 (fun r20 mi21 ml22 => K r20 mi21 ml22)))))))) :
    c_X12_trial_18 l (d + 1) kd mr h x2 x3 mi ml K := by
  show wp l M_X12_trial (d + 1) 0 0 18 [some (.ref h), none, some (.int x2), some (.int x3), none] [] 0 0 kd mi ml mr _
  refine wp_iload_n (pc := 18) dX12_trial_18 rfl ?_
  refine wp_iconst (v := 3) (pc := 19) dX12_trial_19 (by decide) ?_
  refine wp_icmp_ge (tgt := 69) (pc := 20) dX12_trial_20 (by decide) (fun c5 => ?_) (fun c5 => ?_)
  · have F := F.1 c5
    refine wp_iload_n (pc := 69) dX12_trial_69 rfl ?_
    refine wp_iconst (v := 0) (pc := 70) dX12_trial_70 (by decide) ?_
    refine wp_iconst (v := 2) (pc := 71) dX12_trial_71 (by decide) ?_
    refine csB [.int x2, .int 0, .int 2] [] (pc := 72) dX12_trial_72 ml_X12_119 st_X12_in rfl rfl (Nat.le_of_ble_eq_true rfl) (Nat.le_of_ble_eq_true rfl) (wB.mono (fun r6 mi7 ml8 F => ?_) F)
    refine b_eq (tgt := 86) (pc := 75) dX12_trial_75 (by decide) (fun c9 => ?_) (fun c9 => ?_)
    · have F := F.1 c9
      refine wp_bipush (v := -2) (pc := 86) dX12_trial_86 (by decide) ?_
      exact r_I (pc := 88) dX12_trial_88 rfl F
    · have F := F.2 c9
      refine wp_aload_n (pc := 78) dX12_trial_78 rfl ?_
      refine wp_iload_n (pc := 79) dX12_trial_79 rfl ?_
      refine cvI [.int x2] [] (pc := 80) dX12_trial_80 ml_X12_520 iv_X12_trialOf (TX12s_k th) (cl_X12 rfl) rfl rfl (Nat.le_of_ble_eq_true rfl) (Nat.le_of_ble_eq_true rfl) (wI.mono (fun r10 mi11 ml12 F => ?_) F)
      refine wp_goto (tgt := 88) (pc := 83) dX12_trial_83 (by decide) ?_
      exact r_I (pc := 88) dX12_trial_88 rfl F
  · have F := F.2 c5
    refine wp_iload_n (pc := 23) dX12_trial_23 rfl ?_
    refine wp_bipush (v := 10) (pc := 24) dX12_trial_24 (by decide) ?_
    refine wp_isub (pc := 26) dX12_trial_26 ?_
    refine wp_bipush (v := 20) (pc := 27) dX12_trial_27 (by decide) ?_
    refine wp_iload_n (pc := 29) dX12_trial_29 rfl ?_
    refine wp_imul (pc := 30) dX12_trial_30 ?_
    refine wp_isub (pc := 31) dX12_trial_31 ?_
    refine wp_istore (pc := 32) dX12_trial_32 (Nat.le_of_ble_eq_true rfl) rfl ?_
    show wp l M_X12_trial (d + 1) 0 0 _ [some (.ref h), none, some (.int x2), some (.int x3), some (.int ((x2 - 10) - (20 * x3)))] _ 0 0 kd _ _ mr _
    refine wp_iload (pc := 34) dX12_trial_34 rfl ?_
    refine wp_iconst (v := 0) (pc := 36) dX12_trial_36 (by decide) ?_
    refine wp_aload_n (pc := 37) dX12_trial_37 rfl ?_
    refine wp_iconst (v := 2) (pc := 38) dX12_trial_38 (by decide) ?_
    refine cvI [.int 2] [.int 0, .int ((x2 - 10) - (20 * x3))] (pc := 39) dX12_trial_39 ml_X12_520 iv_X12_trialOf (TX12s_k th) (cl_X12 rfl) rfl rfl (Nat.le_of_ble_eq_true rfl) (Nat.le_of_ble_eq_true rfl) (wI.mono (fun r13 mi14 ml15 F => ?_) F)
    refine wp_iconst (v := 1) (pc := 42) dX12_trial_42 (by decide) ?_
    refine wp_isub (pc := 43) dX12_trial_43 ?_
    refine csB [.int ((x2 - 10) - (20 * x3)), .int 0, .int (r13 - 1)] [] (pc := 44) dX12_trial_44 ml_X12_119 st_X12_in rfl rfl (Nat.le_of_ble_eq_true rfl) (Nat.le_of_ble_eq_true rfl) (wB.mono (fun r16 mi17 ml18 F => ?_) F)
    refine b_eq (tgt := 63) (pc := 47) dX12_trial_47 (by decide) (fun c19 => ?_) (fun c19 => ?_)
    · have F := F.1 c19
      refine wp_iinc (v := (x3 + 1)) (pc := 63) dX12_trial_63 rfl rfl rfl ?_
      show wp l M_X12_trial (d + 1) 0 0 _ [some (.ref h), none, some (.int x2), some (.int (x3 + 1)), some (.int ((x2 - 10) - (20 * x3)))] _ 0 0 kd _ _ mr _
      refine wp_goto (tgt := 18) (pc := 66) dX12_trial_66 (by decide) ?_
      exact wp_less (L' := [some (.ref h), none, some (.int x2), some (.int (x3 + 1)), none]) ⟨rfl, ⟨rfl, ⟨rfl, trivial⟩⟩⟩ F
    · have F := F.2 c19
      refine wp_aload_n (pc := 50) dX12_trial_50 rfl ?_
      refine wp_iconst (v := 3) (pc := 51) dX12_trial_51 (by decide) ?_
      refine wp_iconst (v := 3) (pc := 52) dX12_trial_52 (by decide) ?_
      refine wp_iload (pc := 53) dX12_trial_53 rfl ?_
      refine wp_imul (pc := 55) dX12_trial_55 ?_
      refine wp_iadd (pc := 56) dX12_trial_56 ?_
      refine wp_iload_n (pc := 57) dX12_trial_57 rfl ?_
      refine wp_iadd (pc := 58) dX12_trial_58 ?_
      refine cvI [.int ((3 + (3 * ((x2 - 10) - (20 * x3)))) + x3)] [] (pc := 59) dX12_trial_59 ml_X12_520 iv_X12_trialOf (TX12s_k th) (cl_X12 rfl) rfl rfl (Nat.le_of_ble_eq_true rfl) (Nat.le_of_ble_eq_true rfl) (wI.mono (fun r20 mi21 ml22 F => ?_) F)
      exact r_I (pc := 62) dX12_trial_62 rfl F
/-- trial(II)I -/
theorem w_X12_trial {l : Launch} {d : Nat} {kd : pm_K} {mr : pm_R} {h : Nat} {x1 : Int32} {x2 : Int32} {mi : pm_I} {ml : pm_L} {K : Int32 → pm_I → pm_L → Prop} (th : TX12s kd mr h)
    (F : wB l M_X12_hasTrial d [.ref h, .int x1] kd mr (pm_up mi h 0 0) ml (fun r1 mi2 ml3 => ((r1 = true → c_X12_trial_18 l (d + 1) kd mr h x2 0 mi2 ml3 K) ∧ (r1 = false → K (-2) mi2 ml3)))) :
    wI l M_X12_trial (d + 1) [.ref h, .int x1, .int x2] kd mr mi ml K := by
  show wp l M_X12_trial (d + 1) 0 0 0 [some (.ref h), some (.int x1), some (.int x2), none, none] [] 0 0 kd mi ml mr _
  refine wp_aload_n (pc := 0) dX12_trial_0 rfl ?_
  refine wp_iconst (v := 0) (pc := 1) dX12_trial_1 (by decide) ?_
  refine wp_putI (pc := 2) dX12_trial_2 fl_X12_107 rfl rfl (TX12s_k th) ?_
  refine wp_aload_n (pc := 5) dX12_trial_5 rfl ?_
  refine wp_iload_n (pc := 6) dX12_trial_6 rfl ?_
  refine cvB [.int x1] [] (pc := 7) dX12_trial_7 ml_X12_517 iv_X12_hasTrial (TX12s_k th) (cl_X12 rfl) rfl rfl (Nat.le_of_ble_eq_true rfl) (Nat.le_of_ble_eq_true rfl) (wB.mono (fun r1 mi2 ml3 F => ?_) F)
  refine b_ne (tgt := 16) (pc := 10) dX12_trial_10 (by decide) (fun c4 => ?_) (fun c4 => ?_)
  · have F := F.1 c4
    refine wp_iconst (v := 0) (pc := 16) dX12_trial_16 (by decide) ?_
    refine wp_istore_n (pc := 17) dX12_trial_17 (Nat.le_of_ble_eq_true rfl) rfl ?_
    show wp l M_X12_trial (d + 1) 0 0 _ [some (.ref h), some (.int x1), some (.int x2), some (.int 0), none] _ 0 0 kd _ _ mr _
    exact wp_less (L' := [some (.ref h), none, some (.int x2), some (.int 0), none]) ⟨rfl, ⟨rfl, ⟨rfl, trivial⟩⟩⟩ F
  · have F := F.2 c4
    refine wp_bipush (v := -2) (pc := 13) dX12_trial_13 (by decide) ?_
    exact r_I (pc := 15) dX12_trial_15 rfl F
/-- hasTrial(I)Z -/
theorem w_X12_hasTrial {l : Launch} {d : Nat} {kd : pm_K} {mr : pm_R} {h : Nat} {x1 : Int32} {mi : pm_I} {ml : pm_L} {K : Bool → pm_I → pm_L → Prop} (th : TX12s kd mr h)
    (F : wB l M_X12_is d [.ref h, .int 2, .int x1] kd mr (pm_up mi h 46 x1) ml (fun r1 mi2 ml3 => K r1 mi2 ml3)) :
    wB l M_X12_hasTrial (d + 1) [.ref h, .int x1] kd mr mi ml K := by
  show wp l M_X12_hasTrial (d + 1) 0 0 0 [some (.ref h), some (.int x1)] [] 0 0 kd mi ml mr _
  refine wp_aload_n (pc := 0) dX12_hasTrial_0 rfl ?_
  refine wp_iload_n (pc := 1) dX12_hasTrial_1 rfl ?_
  refine wp_putI (pc := 2) dX12_hasTrial_2 fl_X12_514 rfl rfl (TX12s_k th) ?_
  refine wp_aload_n (pc := 5) dX12_hasTrial_5 rfl ?_
  refine wp_iconst (v := 2) (pc := 6) dX12_hasTrial_6 (by decide) ?_
  refine wp_iload_n (pc := 7) dX12_hasTrial_7 rfl ?_
  refine cvB [.int 2, .int x1] [] (pc := 8) dX12_hasTrial_8 ml_X12_312 iv_X12_is (TX12s_k th) (cl_X12 rfl) rfl rfl (Nat.le_of_ble_eq_true rfl) (Nat.le_of_ble_eq_true rfl) (wB.mono (fun r1 mi2 ml3 F => ?_) F)
  exact r_B (pc := 11) dX12_hasTrial_11 rfl F
/-- trialOf(I)I -/
theorem w_X12_trialOf {l : Launch} {d : Nat} {kd : pm_K} {mr : pm_R} {h : Nat} {x1 : Int32} {mi : pm_I} {ml : pm_L} {K : Int32 → pm_I → pm_L → Prop} (th : TX12s kd mr h)
    (F : vp_in ((39 * (mi h 46)) + x1) 312 ∧ K (mi (h + 8) (Int32.toNatClampNeg ((39 * (mi h 46)) + x1))) mi ml) :
    wI l M_X12_trialOf d [.ref h, .int x1] kd mr mi ml K := by
  show wp l M_X12_trialOf d 0 0 0 [some (.ref h), some (.int x1)] [] 0 0 kd mi ml mr _
  refine wp_aload_n (pc := 0) dX12_trialOf_0 rfl ?_
  refine wp_getR (pc := 1) dX12_trialOf_1 fl_X12_32 rfl (TX12s_k th) (TX12s_r8 th) ?_
  refine wp_bipush (v := 39) (pc := 4) dX12_trialOf_4 (by decide) ?_
  refine wp_aload_n (pc := 6) dX12_trialOf_6 rfl ?_
  refine wp_getI (pc := 7) dX12_trialOf_7 fl_X12_514 rfl (TX12s_k th) ?_
  refine wp_imul (pc := 10) dX12_trialOf_10 ?_
  refine wp_iload_n (pc := 11) dX12_trialOf_11 rfl ?_
  refine wp_iadd (pc := 12) dX12_trialOf_12 ?_
  refine wp_iald (pc := 13) dX12_trialOf_13 (TX12s_a8 th) F.1 ?_
  have F := F.2
  exact r_I (pc := 14) dX12_trialOf_14 rfl F
def c_X12_thieves_70 (l : Launch) (d : Nat) (kd : pm_K) (mr : pm_R) (h : Nat) (x2 : Int32) (mi : pm_I) (ml : pm_L) (K : Int32 → pm_I → pm_L → Prop) : Prop := wp l M_X12_thieves d 0 0 70 [some (.ref h), none, some (.int x2)] [] 0 0 kd mi ml mr (qI kd mr K)
theorem w_X12_thieves_70 {l : Launch} {d : Nat} {kd : pm_K} {mr : pm_R} {h : Nat} {x2 : Int32} {mi : pm_I} {ml : pm_L} {K : Int32 → pm_I → pm_L → Prop} (th : TX12s kd mr h)
    (F : (((x2).toInt < 0 ∨ 5 < (x2).toInt → K (-2) mi ml) ∧ ((x2).toInt = 0 → K (mi h 48) mi ml) ∧ ((x2).toInt = 1 → wI l M_X12_common d [.ref h, .int (b2i true)] kd mr mi ml (fun r16 mi17 ml18 => K r16 mi17 ml18)) ∧ ((x2).toInt = 2 → wI l M_X12_common d [.ref h, .int (b2i false)] kd mr mi ml (fun r19 mi20 ml21 => K r19 mi20 ml21)) ∧ ((x2).toInt = 3 → wI l M_X12_askOf d [.ref h] kd mr mi ml (fun r22 mi23 ml24 => K r22 mi23 ml24)) ∧ ((x2).toInt = 4 → wI l M_X12_broken d [.ref h, .int (b2i false)] kd mr mi ml (fun r25 mi26 ml27 => K r25 mi26 ml27)) ∧ ((x2).toInt = 5 → wI l M_X12_broken d [.ref h, .int (b2i true)] kd mr mi ml (fun r28 mi29 ml30 => K r28 mi29 ml30)))) :
    c_X12_thieves_70 l (d + 1) kd mr h x2 mi ml K := by
  show wp l M_X12_thieves (d + 1) 0 0 70 [some (.ref h), none, some (.int x2)] [] 0 0 kd mi ml mr _
  refine wp_iload_n (pc := 70) dX12_thieves_70 rfl ?_
  by_cases c15 : (x2).toInt < 0 ∨ 5 < (x2).toInt
  · have F := F.1 c15
    refine wp_tableOut (tgt := 142) (pc := 71) dX12_thieves_71 c15 (by decide) ?_
    refine wp_bipush (v := -2) (pc := 142) dX12_thieves_142 (by decide) ?_
    exact r_I (pc := 144) dX12_thieves_144 rfl F
  have c15 : (x2).toInt = 0 ∨ (x2).toInt = 1 ∨ (x2).toInt = 2 ∨ (x2).toInt = 3 ∨ (x2).toInt = 4 ∨ (x2).toInt = 5 := by omega
  have F := F.2
  rcases c15 with c15 | c15 | c15 | c15 | c15 | c15
  · have F := F.1 c15
    refine wp_tableIn (tgt := 108) (pc := 71) dX12_thieves_71 c15 (by decide) (by decide) rfl (by decide) ?_
    refine wp_aload_n (pc := 108) dX12_thieves_108 rfl ?_
    refine wp_getI (pc := 109) dX12_thieves_109 fl_X12_523 rfl (TX12s_k th) ?_
    exact r_I (pc := 112) dX12_thieves_112 rfl F
  · have F := F.2.1 c15
    refine wp_tableIn (tgt := 113) (pc := 71) dX12_thieves_71 c15 (by decide) (by decide) rfl (by decide) ?_
    refine wp_aload_n (pc := 113) dX12_thieves_113 rfl ?_
    refine wp_iconst (v := 1) (pc := 114) dX12_thieves_114 (by decide) ?_
    refine cvI [.int (b2i true)] [] (pc := 115) dX12_thieves_115 ml_X12_535 iv_X12_common (TX12s_k th) (cl_X12 rfl) rfl rfl (Nat.le_of_ble_eq_true rfl) (Nat.le_of_ble_eq_true rfl) (wI.mono (fun r16 mi17 ml18 F => ?_) F)
    exact r_I (pc := 118) dX12_thieves_118 rfl F
  · have F := F.2.2.1 c15
    refine wp_tableIn (tgt := 119) (pc := 71) dX12_thieves_71 c15 (by decide) (by decide) rfl (by decide) ?_
    refine wp_aload_n (pc := 119) dX12_thieves_119 rfl ?_
    refine wp_iconst (v := 0) (pc := 120) dX12_thieves_120 (by decide) ?_
    refine cvI [.int (b2i false)] [] (pc := 121) dX12_thieves_121 ml_X12_535 iv_X12_common (TX12s_k th) (cl_X12 rfl) rfl rfl (Nat.le_of_ble_eq_true rfl) (Nat.le_of_ble_eq_true rfl) (wI.mono (fun r19 mi20 ml21 F => ?_) F)
    exact r_I (pc := 124) dX12_thieves_124 rfl F
  · have F := F.2.2.2.1 c15
    refine wp_tableIn (tgt := 125) (pc := 71) dX12_thieves_71 c15 (by decide) (by decide) rfl (by decide) ?_
    refine wp_aload_n (pc := 125) dX12_thieves_125 rfl ?_
    refine cvI [] [] (pc := 126) dX12_thieves_126 ml_X12_539 iv_X12_askOf (TX12s_k th) (cl_X12 rfl) rfl rfl (Nat.le_of_ble_eq_true rfl) (Nat.le_of_ble_eq_true rfl) (wI.mono (fun r22 mi23 ml24 F => ?_) F)
    exact r_I (pc := 129) dX12_thieves_129 rfl F
  · have F := F.2.2.2.2.1 c15
    refine wp_tableIn (tgt := 130) (pc := 71) dX12_thieves_71 c15 (by decide) (by decide) rfl (by decide) ?_
    refine wp_aload_n (pc := 130) dX12_thieves_130 rfl ?_
    refine wp_iconst (v := 0) (pc := 131) dX12_thieves_131 (by decide) ?_
    refine cvI [.int (b2i false)] [] (pc := 132) dX12_thieves_132 ml_X12_542 iv_X12_broken (TX12s_k th) (cl_X12 rfl) rfl rfl (Nat.le_of_ble_eq_true rfl) (Nat.le_of_ble_eq_true rfl) (wI.mono (fun r25 mi26 ml27 F => ?_) F)
    exact r_I (pc := 135) dX12_thieves_135 rfl F
  · have F := F.2.2.2.2.2 c15
    refine wp_tableIn (tgt := 136) (pc := 71) dX12_thieves_71 c15 (by decide) (by decide) rfl (by decide) ?_
    refine wp_aload_n (pc := 136) dX12_thieves_136 rfl ?_
    refine wp_iconst (v := 1) (pc := 137) dX12_thieves_137 (by decide) ?_
    refine cvI [.int (b2i true)] [] (pc := 138) dX12_thieves_138 ml_X12_542 iv_X12_broken (TX12s_k th) (cl_X12 rfl) rfl rfl (Nat.le_of_ble_eq_true rfl) (Nat.le_of_ble_eq_true rfl) (wI.mono (fun r28 mi29 ml30 F => ?_) F)
    exact r_I (pc := 141) dX12_thieves_141 rfl F
/-- thieves(II)I -/
theorem w_X12_thieves {l : Launch} {d : Nat} {kd : pm_K} {mr : pm_R} {h : Nat} {x1 : Int32} {x2 : Int32} {mi : pm_I} {ml : pm_L} {K : Int32 → pm_I → pm_L → Prop} (th : TX12s kd mr h)
    (F : wB l M_X12_hasTrial d [.ref h, .int x1] kd mr (pm_up mi h 0 0) ml (fun r1 mi2 ml3 => ((r1 = true → wV l M_X12_findFits d [.ref h] kd mr mi2 ml3 (fun mi6 ml7 => ((x2 < 10 → wB l M_X12_in d [.int x2, .int 1, .int 3] kd mr mi6 ml7 (fun r9 mi10 ml11 => ((r9 = false → c_X12_thieves_70 l (d + 1) kd mr h x2 mi10 ml11 K) ∧ (r9 = true → ((¬ (mi10 h 48) = 0 → c_X12_thieves_70 l (d + 1) kd mr h x2 mi10 ml11 K) ∧ ((mi10 h 48) = 0 → K (-1) mi10 ml11)))))) ∧ (¬ x2 < 10 → (((mi6 h 48) ≤ (x2 - 10) → K (-2) mi6 ml7) ∧ (¬ (mi6 h 48) ≤ (x2 - 10) → vp_in (x2 - 10) 256 ∧ K (mi6 (h + 22) (Int32.toNatClampNeg (x2 - 10))) mi6 ml7)))))) ∧ (r1 = false → K (-2) mi2 ml3)))) :
    wI l M_X12_thieves (d + 1) [.ref h, .int x1, .int x2] kd mr mi ml K := by
  show wp l M_X12_thieves (d + 1) 0 0 0 [some (.ref h), some (.int x1), some (.int x2)] [] 0 0 kd mi ml mr _
  refine wp_aload_n (pc := 0) dX12_thieves_0 rfl ?_
  refine wp_iconst (v := 0) (pc := 1) dX12_thieves_1 (by decide) ?_
  refine wp_putI (pc := 2) dX12_thieves_2 fl_X12_107 rfl rfl (TX12s_k th) ?_
  refine wp_aload_n (pc := 5) dX12_thieves_5 rfl ?_
  refine wp_iload_n (pc := 6) dX12_thieves_6 rfl ?_
  refine cvB [.int x1] [] (pc := 7) dX12_thieves_7 ml_X12_517 iv_X12_hasTrial (TX12s_k th) (cl_X12 rfl) rfl rfl (Nat.le_of_ble_eq_true rfl) (Nat.le_of_ble_eq_true rfl) (wB.mono (fun r1 mi2 ml3 F => ?_) F)
  refine b_ne (tgt := 16) (pc := 10) dX12_thieves_10 (by decide) (fun c4 => ?_) (fun c4 => ?_)
  · have F := F.1 c4
    refine wp_aload_n (pc := 16) dX12_thieves_16 rfl ?_
    refine cvV [] [] (pc := 17) dX12_thieves_17 ml_X12_532 iv_X12_findFits (TX12s_k th) (cl_X12 rfl) rfl rfl (Nat.le_of_ble_eq_true rfl) (Nat.le_of_ble_eq_true rfl) (wV.mono (fun mi6 ml7 F => ?_) F)
    refine wp_iload_n (pc := 20) dX12_thieves_20 rfl ?_
    refine wp_bipush (v := 10) (pc := 21) dX12_thieves_21 (by decide) ?_
    refine wp_icmp_lt (tgt := 52) (pc := 23) dX12_thieves_23 (by decide) (fun c8 => ?_) (fun c8 => ?_)
    · have F := F.1 c8
      refine wp_iload_n (pc := 52) dX12_thieves_52 rfl ?_
      refine wp_iconst (v := 1) (pc := 53) dX12_thieves_53 (by decide) ?_
      refine wp_iconst (v := 3) (pc := 54) dX12_thieves_54 (by decide) ?_
      refine csB [.int x2, .int 1, .int 3] [] (pc := 55) dX12_thieves_55 ml_X12_119 st_X12_in rfl rfl (Nat.le_of_ble_eq_true rfl) (Nat.le_of_ble_eq_true rfl) (wB.mono (fun r9 mi10 ml11 F => ?_) F)
      refine b_eq (tgt := 70) (pc := 58) dX12_thieves_58 (by decide) (fun c12 => ?_) (fun c12 => ?_)
      · have F := F.1 c12
        exact wp_less (L' := [some (.ref h), none, some (.int x2)]) ⟨rfl, ⟨rfl, trivial⟩⟩ F
      · have F := F.2 c12
        refine wp_aload_n (pc := 61) dX12_thieves_61 rfl ?_
        refine wp_getI (pc := 62) dX12_thieves_62 fl_X12_523 rfl (TX12s_k th) ?_
        refine wp_if_ne (tgt := 70) (pc := 65) dX12_thieves_65 (by decide) (fun c13 => ?_) (fun c13 => ?_)
        · have F := F.1 c13
          exact wp_less (L' := [some (.ref h), none, some (.int x2)]) ⟨rfl, ⟨rfl, trivial⟩⟩ F
        · have F := F.2 c13
          refine wp_iconst (v := -1) (pc := 68) dX12_thieves_68 (by decide) ?_
          exact r_I (pc := 69) dX12_thieves_69 rfl F
    · have F := F.2 c8
      refine wp_iload_n (pc := 26) dX12_thieves_26 rfl ?_
      refine wp_bipush (v := 10) (pc := 27) dX12_thieves_27 (by decide) ?_
      refine wp_isub (pc := 29) dX12_thieves_29 ?_
      refine wp_aload_n (pc := 30) dX12_thieves_30 rfl ?_
      refine wp_getI (pc := 31) dX12_thieves_31 fl_X12_523 rfl (TX12s_k th) ?_
      refine wp_icmp_ge (tgt := 49) (pc := 34) dX12_thieves_34 (by decide) (fun c14 => ?_) (fun c14 => ?_)
      · have F := F.1 c14
        refine wp_bipush (v := -2) (pc := 49) dX12_thieves_49 (by decide) ?_
        exact r_I (pc := 51) dX12_thieves_51 rfl F
      · have F := F.2 c14
        refine wp_aload_n (pc := 37) dX12_thieves_37 rfl ?_
        refine wp_getR (pc := 38) dX12_thieves_38 fl_X12_76 rfl (TX12s_k th) (TX12s_r47 th) ?_
        refine wp_iload_n (pc := 41) dX12_thieves_41 rfl ?_
        refine wp_bipush (v := 10) (pc := 42) dX12_thieves_42 (by decide) ?_
        refine wp_isub (pc := 44) dX12_thieves_44 ?_
        refine wp_iald (pc := 45) dX12_thieves_45 (TX12s_a47 th) F.1 ?_
        have F := F.2
        refine wp_goto (tgt := 51) (pc := 46) dX12_thieves_46 (by decide) ?_
        exact r_I (pc := 51) dX12_thieves_51 rfl F
  · have F := F.2 c4
    refine wp_bipush (v := -2) (pc := 13) dX12_thieves_13 (by decide) ?_
    exact r_I (pc := 15) dX12_thieves_15 rfl F
def c_X12_findFits_54 (l : Launch) (d : Nat) (kd : pm_K) (mr : pm_R) (h : Nat) (x1 : Int32) (mi : pm_I) (ml : pm_L) (K : pm_I → pm_L → Prop) : Prop := wp l M_X12_findFits d 0 0 54 [some (.ref h), some (.int x1)] [] 0 0 kd mi ml mr (qV kd mr K)
def c_X12_findFits_7 (l : Launch) (d : Nat) (kd : pm_K) (mr : pm_R) (h : Nat) (x1 : Int32) (mi : pm_I) (ml : pm_L) (K : pm_I → pm_L → Prop) : Prop := wp l M_X12_findFits d 0 0 7 [some (.ref h), some (.int x1)] [] 0 0 kd mi ml mr (qV kd mr K)
theorem w_X12_findFits_7 {l : Launch} {d : Nat} {kd : pm_K} {mr : pm_R} {h : Nat} {x1 : Int32} {mi : pm_I} {ml : pm_L} {K : pm_I → pm_L → Prop} (th : TX12s kd mr h)
    (F : wI l M_X12_trialOf d [.ref h, .int 0] kd mr mi ml (fun r1 mi2 ml3 => ((((1 : Int32) <<< (r1 &&& 31)) ≤ x1 → K mi2 ml3) ∧ (¬ ((1 : Int32) <<< (r1 &&& 31)) ≤ x1 → wB l M_X12_areMany d [.ref h, .int x1] kd mr mi2 ml3 (fun r5 mi6 ml7 => ((r5 = false → c_X12_findFits_54 l (d + 1) kd mr h x1 mi6 ml7 K) ∧ (r5 = true → wI l M_X12_against d [.ref h, .int x1] kd mr mi6 ml7 (fun r9 mi10 ml11 => ((¬ r9 = 0 → c_X12_findFits_54 l (d + 1) kd mr h x1 mi10 ml11 K) ∧ (r9 = 0 → vp_in (mi10 h 48) 256 ∧ c_X12_findFits_54 l (d + 1) kd mr h x1 (pm_up (pm_up mi10 (h + 22) (Int32.toNatClampNeg (mi10 h 48)) x1) h 48 ((mi10 h 48) + 1)) ml11 K)))))))))) :
    c_X12_findFits_7 l (d + 1) kd mr h x1 mi ml K := by
  show wp l M_X12_findFits (d + 1) 0 0 7 [some (.ref h), some (.int x1)] [] 0 0 kd mi ml mr _
  refine wp_iload_n (pc := 7) dX12_findFits_7 rfl ?_
  refine wp_iconst (v := 1) (pc := 8) dX12_findFits_8 (by decide) ?_
  refine wp_aload_n (pc := 9) dX12_findFits_9 rfl ?_
  refine wp_iconst (v := 0) (pc := 10) dX12_findFits_10 (by decide) ?_
  refine cvI [.int 0] [.int 1, .int x1] (pc := 11) dX12_findFits_11 ml_X12_520 iv_X12_trialOf (TX12s_k th) (cl_X12 rfl) rfl rfl (Nat.le_of_ble_eq_true rfl) (Nat.le_of_ble_eq_true rfl) (wI.mono (fun r1 mi2 ml3 F => ?_) F)
  refine wp_ishl (pc := 14) dX12_findFits_14 ?_
  refine wp_icmp_ge (tgt := 60) (pc := 15) dX12_findFits_15 (by decide) (fun c4 => ?_) (fun c4 => ?_)
  · have F := F.1 c4
    exact r_V (pc := 60) dX12_findFits_60 rfl F
  · have F := F.2 c4
    refine wp_aload_n (pc := 18) dX12_findFits_18 rfl ?_
    refine wp_iload_n (pc := 19) dX12_findFits_19 rfl ?_
    refine cvB [.int x1] [] (pc := 20) dX12_findFits_20 ml_X12_526 iv_X12_areMany (TX12s_k th) (cl_X12 rfl) rfl rfl (Nat.le_of_ble_eq_true rfl) (Nat.le_of_ble_eq_true rfl) (wB.mono (fun r5 mi6 ml7 F => ?_) F)
    refine b_eq (tgt := 54) (pc := 23) dX12_findFits_23 (by decide) (fun c8 => ?_) (fun c8 => ?_)
    · have F := F.1 c8
      exact wp_less (L' := [some (.ref h), some (.int x1)]) ⟨rfl, ⟨rfl, trivial⟩⟩ F
    · have F := F.2 c8
      refine wp_aload_n (pc := 26) dX12_findFits_26 rfl ?_
      refine wp_iload_n (pc := 27) dX12_findFits_27 rfl ?_
      refine cvI [.int x1] [] (pc := 28) dX12_findFits_28 ml_X12_529 iv_X12_against (TX12s_k th) (cl_X12 rfl) rfl rfl (Nat.le_of_ble_eq_true rfl) (Nat.le_of_ble_eq_true rfl) (wI.mono (fun r9 mi10 ml11 F => ?_) F)
      refine wp_if_ne (tgt := 54) (pc := 31) dX12_findFits_31 (by decide) (fun c12 => ?_) (fun c12 => ?_)
      · have F := F.1 c12
        exact wp_less (L' := [some (.ref h), some (.int x1)]) ⟨rfl, ⟨rfl, trivial⟩⟩ F
      · have F := F.2 c12
        refine wp_aload_n (pc := 34) dX12_findFits_34 rfl ?_
        refine wp_getR (pc := 35) dX12_findFits_35 fl_X12_76 rfl (TX12s_k th) (TX12s_r47 th) ?_
        refine wp_aload_n (pc := 38) dX12_findFits_38 rfl ?_
        refine wp_getI (pc := 39) dX12_findFits_39 fl_X12_523 rfl (TX12s_k th) ?_
        refine wp_iload_n (pc := 42) dX12_findFits_42 rfl ?_
        refine wp_iast (pc := 43) dX12_findFits_43 (TX12s_a47 th) F.1 ?_
        have F := F.2
        refine wp_aload_n (pc := 44) dX12_findFits_44 rfl ?_
        refine wp_dup (pc := 45) dX12_findFits_45 rfl ?_
        refine wp_getI (pc := 46) dX12_findFits_46 fl_X12_523 rfl (TX12s_k th) ?_
        refine t_I (show ((pm_up mi10 (h + 22) (Int32.toNatClampNeg (mi10 h 48)) x1) h 48) = (mi10 h 48) from pm_up_k _ _ (by omega)) ?_
        refine wp_iconst (v := 1) (pc := 49) dX12_findFits_49 (by decide) ?_
        refine wp_iadd (pc := 50) dX12_findFits_50 ?_
        refine wp_putI (pc := 51) dX12_findFits_51 fl_X12_523 rfl rfl (TX12s_k th) ?_
        exact wp_less (L' := [some (.ref h), some (.int x1)]) ⟨rfl, ⟨rfl, trivial⟩⟩ F
theorem w_X12_findFits_54 {l : Launch} {d : Nat} {kd : pm_K} {mr : pm_R} {h : Nat} {x1 : Int32} {mi : pm_I} {ml : pm_L} {K : pm_I → pm_L → Prop} (th : TX12s kd mr h)
    (F : c_X12_findFits_7 l (d + 1) kd mr h (x1 + 1) mi ml K) :
    c_X12_findFits_54 l (d + 1) kd mr h x1 mi ml K := by
  show wp l M_X12_findFits (d + 1) 0 0 54 [some (.ref h), some (.int x1)] [] 0 0 kd mi ml mr _
  refine wp_iinc (v := (x1 + 1)) (pc := 54) dX12_findFits_54 rfl rfl rfl ?_
  show wp l M_X12_findFits (d + 1) 0 0 _ [some (.ref h), some (.int (x1 + 1))] _ 0 0 kd _ _ mr _
  refine wp_goto (tgt := 7) (pc := 57) dX12_findFits_57 (by decide) ?_
  exact wp_less (L' := [some (.ref h), some (.int (x1 + 1))]) ⟨rfl, ⟨rfl, trivial⟩⟩ F
/-- findFits()V -/
theorem w_X12_findFits {l : Launch} {d : Nat} {kd : pm_K} {mr : pm_R} {h : Nat}  {mi : pm_I} {ml : pm_L} {K : pm_I → pm_L → Prop} (th : TX12s kd mr h)
    (F : c_X12_findFits_7 l (d + 1) kd mr h 0 (pm_up mi h 48 0) ml K) :
    wV l M_X12_findFits (d + 1) [.ref h] kd mr mi ml K := by
  show wp l M_X12_findFits (d + 1) 0 0 0 [some (.ref h), none] [] 0 0 kd mi ml mr _
  refine wp_aload_n (pc := 0) dX12_findFits_0 rfl ?_
  refine wp_iconst (v := 0) (pc := 1) dX12_findFits_1 (by decide) ?_
  refine wp_putI (pc := 2) dX12_findFits_2 fl_X12_523 rfl rfl (TX12s_k th) ?_
  refine wp_iconst (v := 0) (pc := 5) dX12_findFits_5 (by decide) ?_
  refine wp_istore_n (pc := 6) dX12_findFits_6 (Nat.le_of_ble_eq_true rfl) rfl ?_
  show wp l M_X12_findFits (d + 1) 0 0 _ [some (.ref h), some (.int 0)] _ 0 0 kd _ _ mr _
  exact wp_less (L' := [some (.ref h), some (.int 0)]) ⟨rfl, ⟨rfl, trivial⟩⟩ F
/-- areMany(I)Z -/
theorem w_X12_areMany {l : Launch} {d : Nat} {kd : pm_K} {mr : pm_R} {h : Nat} {x1 : Int32} {mi : pm_I} {ml : pm_L} {K : Bool → pm_I → pm_L → Prop} (th : TX12s kd mr h)
    (F : wI l M_X12_trialOf d [.ref h, .int 1] kd mr mi ml (fun r1 mi2 ml3 => ((r1 = (-1) → K true mi2 ml3) ∧ (¬ r1 = (-1) → wI l M_X12_ones d [.int x1] kd mr mi2 ml3 (fun r5 mi6 ml7 => wI l M_X12_trialOf d [.ref h, .int 1] kd mr mi6 ml7 (fun r8 mi9 ml10 => K (decide (r5 = r8)) mi9 ml10)))))) :
    wB l M_X12_areMany (d + 1) [.ref h, .int x1] kd mr mi ml K := by
  show wp l M_X12_areMany (d + 1) 0 0 0 [some (.ref h), some (.int x1)] [] 0 0 kd mi ml mr _
  refine wp_aload_n (pc := 0) dX12_areMany_0 rfl ?_
  refine wp_iconst (v := 1) (pc := 1) dX12_areMany_1 (by decide) ?_
  refine cvI [.int 1] [] (pc := 2) dX12_areMany_2 ml_X12_520 iv_X12_trialOf (TX12s_k th) (cl_X12 rfl) rfl rfl (Nat.le_of_ble_eq_true rfl) (Nat.le_of_ble_eq_true rfl) (wI.mono (fun r1 mi2 ml3 F => ?_) F)
  refine wp_iconst (v := -1) (pc := 5) dX12_areMany_5 (by decide) ?_
  refine wp_icmp_eq (tgt := 21) (pc := 6) dX12_areMany_6 (by decide) (fun c4 => ?_) (fun c4 => ?_)
  · have F := F.1 c4
    refine wp_iconst (v := 1) (pc := 21) dX12_areMany_21 (by decide) ?_
    refine wp_goto (tgt := 26) (pc := 22) dX12_areMany_22 (by decide) ?_
    exact r_Bx (pc := 26) dX12_areMany_26 rfl rfl F
  · have F := F.2 c4
    refine wp_iload_n (pc := 9) dX12_areMany_9 rfl ?_
    refine csI [.int x1] [] (pc := 10) dX12_areMany_10 ml_X12_446 st_X12_ones rfl rfl (Nat.le_of_ble_eq_true rfl) (Nat.le_of_ble_eq_true rfl) (wI.mono (fun r5 mi6 ml7 F => ?_) F)
    refine wp_aload_n (pc := 13) dX12_areMany_13 rfl ?_
    refine wp_iconst (v := 1) (pc := 14) dX12_areMany_14 (by decide) ?_
    refine cvI [.int 1] [.int r5] (pc := 15) dX12_areMany_15 ml_X12_520 iv_X12_trialOf (TX12s_k th) (cl_X12 rfl) rfl rfl (Nat.le_of_ble_eq_true rfl) (Nat.le_of_ble_eq_true rfl) (wI.mono (fun r8 mi9 ml10 F => ?_) F)
    suffices J11 : ∀ v12 : Int32, v12 = (b2i (decide (r5 = r8))) → wp l M_X12_areMany (d + 1) 0 0 26 [some (.ref h), some (.int x1)] [.int v12] 0 0 kd mi9 ml10 mr _ by
        refine wp_icmp_ne (tgt := 25) (pc := 18) dX12_areMany_18 (by decide) (fun c13 => ?_) (fun c13 => ?_)
        · refine wp_iconst (v := 0) (pc := 25) dX12_areMany_25 (by decide) ?_
          exact J11 _ (by simp only [c13, if_true, if_false, decide_true, decide_false, Bool.not_true, Bool.not_false, Bool.true_and, Bool.false_and, Bool.true_or, Bool.false_or, b2i_t, b2i_f, ite_true, ite_false, not_true_eq_false, not_false_eq_true, reduceCtorEq, decide_eq_true_eq])
        · refine wp_iconst (v := 1) (pc := 21) dX12_areMany_21 (by decide) ?_
          refine wp_goto (tgt := 26) (pc := 22) dX12_areMany_22 (by decide) ?_
          exact J11 _ (by simp only [eq_true c13, if_true, if_false, decide_true, decide_false, Bool.not_true, Bool.not_false, Bool.true_and, Bool.false_and, Bool.true_or, Bool.false_or, b2i_t, b2i_f, ite_true, ite_false, not_true_eq_false, not_false_eq_true, reduceCtorEq, decide_eq_true_eq])
    intro v12 ev12
    subst ev12
    exact r_B (pc := 26) dX12_areMany_26 rfl F
def c_X12_against_4 (l : Launch) (d : Nat) (kd : pm_K) (mr : pm_R) (h : Nat) (x1 : Int32) (x2 : Int32) (x3 : Int32) (mi : pm_I) (ml : pm_L) (K : Int32 → pm_I → pm_L → Prop) : Prop := wp l M_X12_against d 0 0 4 [some (.ref h), some (.int x1), some (.int x2), some (.int x3), none] [] 0 0 kd mi ml mr (qI kd mr K)
theorem w_X12_against_4 {l : Launch} {d : Nat} {kd : pm_K} {mr : pm_R} {h : Nat} {x1 : Int32} {x2 : Int32} {x3 : Int32} {mi : pm_I} {ml : pm_L} {K : Int32 → pm_I → pm_L → Prop} (th : TX12s kd mr h)
    (F : wI l M_X12_trialOf d [.ref h, .int 2] kd mr mi ml (fun r1 mi2 ml3 => ((r1 ≤ x3 → K x2 mi2 ml3) ∧ (¬ r1 ≤ x3 → wI l M_X12_trialOf d [.ref h, .int (5 + (3 * x3))] kd mr mi2 ml3 (fun r5 mi6 ml7 => wB l M_X12_has d [.int x1, .int r5] kd mr mi6 ml7 (fun r8 mi9 ml10 => wI l M_X12_trialOf d [.ref h, .int (3 + (3 * x3))] kd mr mi9 ml10 (fun r11 mi12 ml13 => wI l M_X12_trialOf d [.ref h, .int (4 + (3 * x3))] kd mr mi12 ml13 (fun r20 mi21 ml22 => wB l M_X12_has d [.int x1, .int r20] kd mr mi21 ml22 (fun r23 mi24 ml25 => c_X12_against_4 l (d + 1) kd mr h x1 (x2 + (b2i (decide ((b2i (decide ((b2i r8) = (b2i (decide (r11 = 1)))))) = (b2i r23))))) (x3 + 1) mi24 ml25 K))))))))) :
    c_X12_against_4 l (d + 1) kd mr h x1 x2 x3 mi ml K := by
  show wp l M_X12_against (d + 1) 0 0 4 [some (.ref h), some (.int x1), some (.int x2), some (.int x3), none] [] 0 0 kd mi ml mr _
  refine wp_iload_n (pc := 4) dX12_against_4 rfl ?_
  refine wp_aload_n (pc := 5) dX12_against_5 rfl ?_
  refine wp_iconst (v := 2) (pc := 6) dX12_against_6 (by decide) ?_
  refine cvI [.int 2] [.int x3] (pc := 7) dX12_against_7 ml_X12_520 iv_X12_trialOf (TX12s_k th) (cl_X12 rfl) rfl rfl (Nat.le_of_ble_eq_true rfl) (Nat.le_of_ble_eq_true rfl) (wI.mono (fun r1 mi2 ml3 F => ?_) F)
  refine wp_icmp_ge (tgt := 86) (pc := 10) dX12_against_10 (by decide) (fun c4 => ?_) (fun c4 => ?_)
  · have F := F.1 c4
    refine wp_iload_n (pc := 86) dX12_against_86 rfl ?_
    exact r_I (pc := 87) dX12_against_87 rfl F
  · have F := F.2 c4
    refine wp_iload_n (pc := 13) dX12_against_13 rfl ?_
    refine wp_aload_n (pc := 14) dX12_against_14 rfl ?_
    refine wp_iconst (v := 5) (pc := 15) dX12_against_15 (by decide) ?_
    refine wp_iconst (v := 3) (pc := 16) dX12_against_16 (by decide) ?_
    refine wp_iload_n (pc := 17) dX12_against_17 rfl ?_
    refine wp_imul (pc := 18) dX12_against_18 ?_
    refine wp_iadd (pc := 19) dX12_against_19 ?_
    refine cvI [.int (5 + (3 * x3))] [.int x1] (pc := 20) dX12_against_20 ml_X12_520 iv_X12_trialOf (TX12s_k th) (cl_X12 rfl) rfl rfl (Nat.le_of_ble_eq_true rfl) (Nat.le_of_ble_eq_true rfl) (wI.mono (fun r5 mi6 ml7 F => ?_) F)
    refine csB [.int x1, .int r5] [] (pc := 23) dX12_against_23 ml_X12_111 st_X12_has rfl rfl (Nat.le_of_ble_eq_true rfl) (Nat.le_of_ble_eq_true rfl) (wB.mono (fun r8 mi9 ml10 F => ?_) F)
    refine wp_aload_n (pc := 26) dX12_against_26 rfl ?_
    refine wp_iconst (v := 3) (pc := 27) dX12_against_27 (by decide) ?_
    refine wp_iconst (v := 3) (pc := 28) dX12_against_28 (by decide) ?_
    refine wp_iload_n (pc := 29) dX12_against_29 rfl ?_
    refine wp_imul (pc := 30) dX12_against_30 ?_
    refine wp_iadd (pc := 31) dX12_against_31 ?_
    refine cvI [.int (3 + (3 * x3))] [.int (b2i r8)] (pc := 32) dX12_against_32 ml_X12_520 iv_X12_trialOf (TX12s_k th) (cl_X12 rfl) rfl rfl (Nat.le_of_ble_eq_true rfl) (Nat.le_of_ble_eq_true rfl) (wI.mono (fun r11 mi12 ml13 F => ?_) F)
    refine wp_iconst (v := 1) (pc := 35) dX12_against_35 (by decide) ?_
    suffices J14 : ∀ v15 : Int32, v15 = (b2i (decide (r11 = 1))) → wp l M_X12_against (d + 1) 0 0 44 [some (.ref h), some (.int x1), some (.int x2), some (.int x3), none] [.int v15, .int (b2i r8)] 0 0 kd mi12 ml13 mr _ by
        refine wp_icmp_ne (tgt := 43) (pc := 36) dX12_against_36 (by decide) (fun c16 => ?_) (fun c16 => ?_)
        · refine wp_iconst (v := 0) (pc := 43) dX12_against_43 (by decide) ?_
          exact J14 _ (by simp only [c16, if_true, if_false, decide_true, decide_false, Bool.not_true, Bool.not_false, Bool.true_and, Bool.false_and, Bool.true_or, Bool.false_or, b2i_t, b2i_f, ite_true, ite_false, not_true_eq_false, not_false_eq_true, reduceCtorEq, decide_eq_true_eq])
        · refine wp_iconst (v := 1) (pc := 39) dX12_against_39 (by decide) ?_
          refine wp_goto (tgt := 44) (pc := 40) dX12_against_40 (by decide) ?_
          exact J14 _ (by simp only [eq_true c16, if_true, if_false, decide_true, decide_false, Bool.not_true, Bool.not_false, Bool.true_and, Bool.false_and, Bool.true_or, Bool.false_or, b2i_t, b2i_f, ite_true, ite_false, not_true_eq_false, not_false_eq_true, reduceCtorEq, decide_eq_true_eq])
    intro v15 ev15
    subst ev15
    suffices J17 : ∀ v18 : Int32, v18 = (b2i (decide ((b2i r8) = (b2i (decide (r11 = 1)))))) → wp l M_X12_against (d + 1) 0 0 52 [some (.ref h), some (.int x1), some (.int x2), some (.int x3), none] [.int v18] 0 0 kd mi12 ml13 mr _ by
        refine wp_icmp_ne (tgt := 51) (pc := 44) dX12_against_44 (by decide) (fun c19 => ?_) (fun c19 => ?_)
        · refine wp_iconst (v := 0) (pc := 51) dX12_against_51 (by decide) ?_
          exact J17 _ (by simp only [c19, if_true, if_false, decide_true, decide_false, Bool.not_true, Bool.not_false, Bool.true_and, Bool.false_and, Bool.true_or, Bool.false_or, b2i_t, b2i_f, ite_true, ite_false, not_true_eq_false, not_false_eq_true, reduceCtorEq, decide_eq_true_eq])
        · refine wp_iconst (v := 1) (pc := 47) dX12_against_47 (by decide) ?_
          refine wp_goto (tgt := 52) (pc := 48) dX12_against_48 (by decide) ?_
          exact J17 _ (by simp only [eq_true c19, if_true, if_false, decide_true, decide_false, Bool.not_true, Bool.not_false, Bool.true_and, Bool.false_and, Bool.true_or, Bool.false_or, b2i_t, b2i_f, ite_true, ite_false, not_true_eq_false, not_false_eq_true, reduceCtorEq, decide_eq_true_eq])
    intro v18 ev18
    subst ev18
    refine wp_istore (pc := 52) dX12_against_52 (Nat.le_of_ble_eq_true rfl) rfl ?_
    show wp l M_X12_against (d + 1) 0 0 _ [some (.ref h), some (.int x1), some (.int x2), some (.int x3), some (.int (b2i (decide ((b2i r8) = (b2i (decide (r11 = 1)))))))] _ 0 0 kd _ _ mr _
    refine wp_iload_n (pc := 54) dX12_against_54 rfl ?_
    refine wp_iload (pc := 55) dX12_against_55 rfl ?_
    refine wp_iload_n (pc := 57) dX12_against_57 rfl ?_
    refine wp_aload_n (pc := 58) dX12_against_58 rfl ?_
    refine wp_iconst (v := 4) (pc := 59) dX12_against_59 (by decide) ?_
    refine wp_iconst (v := 3) (pc := 60) dX12_against_60 (by decide) ?_
    refine wp_iload_n (pc := 61) dX12_against_61 rfl ?_
    refine wp_imul (pc := 62) dX12_against_62 ?_
    refine wp_iadd (pc := 63) dX12_against_63 ?_
    refine cvI [.int (4 + (3 * x3))] [.int x1, .int (b2i (decide ((b2i r8) = (b2i (decide (r11 = 1)))))), .int x2] (pc := 64) dX12_against_64 ml_X12_520 iv_X12_trialOf (TX12s_k th) (cl_X12 rfl) rfl rfl (Nat.le_of_ble_eq_true rfl) (Nat.le_of_ble_eq_true rfl) (wI.mono (fun r20 mi21 ml22 F => ?_) F)
    refine csB [.int x1, .int r20] [.int (b2i (decide ((b2i r8) = (b2i (decide (r11 = 1)))))), .int x2] (pc := 67) dX12_against_67 ml_X12_111 st_X12_has rfl rfl (Nat.le_of_ble_eq_true rfl) (Nat.le_of_ble_eq_true rfl) (wB.mono (fun r23 mi24 ml25 F => ?_) F)
    suffices J26 : ∀ v27 : Int32, v27 = (b2i (decide ((b2i (decide ((b2i r8) = (b2i (decide (r11 = 1)))))) = (b2i r23)))) → wp l M_X12_against (d + 1) 0 0 78 [some (.ref h), some (.int x1), some (.int x2), some (.int x3), some (.int (b2i (decide ((b2i r8) = (b2i (decide (r11 = 1)))))))] [.int v27, .int x2] 0 0 kd mi24 ml25 mr _ by
        refine wp_icmp_ne (tgt := 77) (pc := 70) dX12_against_70 (by decide) (fun c28 => ?_) (fun c28 => ?_)
        · refine wp_iconst (v := 0) (pc := 77) dX12_against_77 (by decide) ?_
          exact J26 _ (by simp only [c28, if_true, if_false, decide_true, decide_false, Bool.not_true, Bool.not_false, Bool.true_and, Bool.false_and, Bool.true_or, Bool.false_or, b2i_t, b2i_f, ite_true, ite_false, not_true_eq_false, not_false_eq_true, reduceCtorEq, decide_eq_true_eq])
        · refine wp_iconst (v := 1) (pc := 73) dX12_against_73 (by decide) ?_
          refine wp_goto (tgt := 78) (pc := 74) dX12_against_74 (by decide) ?_
          exact J26 _ (by simp only [eq_true c28, if_true, if_false, decide_true, decide_false, Bool.not_true, Bool.not_false, Bool.true_and, Bool.false_and, Bool.true_or, Bool.false_or, b2i_t, b2i_f, ite_true, ite_false, not_true_eq_false, not_false_eq_true, reduceCtorEq, decide_eq_true_eq])
    intro v27 ev27
    subst ev27
    refine wp_iadd (pc := 78) dX12_against_78 ?_
    refine wp_istore_n (pc := 79) dX12_against_79 (Nat.le_of_ble_eq_true rfl) rfl ?_
    show wp l M_X12_against (d + 1) 0 0 _ [some (.ref h), some (.int x1), some (.int (x2 + (b2i (decide ((b2i (decide ((b2i r8) = (b2i (decide (r11 = 1)))))) = (b2i r23)))))), some (.int x3), some (.int (b2i (decide ((b2i r8) = (b2i (decide (r11 = 1)))))))] _ 0 0 kd _ _ mr _
    refine wp_iinc (v := (x3 + 1)) (pc := 80) dX12_against_80 rfl rfl rfl ?_
    show wp l M_X12_against (d + 1) 0 0 _ [some (.ref h), some (.int x1), some (.int (x2 + (b2i (decide ((b2i (decide ((b2i r8) = (b2i (decide (r11 = 1)))))) = (b2i r23)))))), some (.int (x3 + 1)), some (.int (b2i (decide ((b2i r8) = (b2i (decide (r11 = 1)))))))] _ 0 0 kd _ _ mr _
    refine wp_goto (tgt := 4) (pc := 83) dX12_against_83 (by decide) ?_
    exact wp_less (L' := [some (.ref h), some (.int x1), some (.int (x2 + (b2i (decide ((b2i (decide ((b2i r8) = (b2i (decide (r11 = 1)))))) = (b2i r23)))))), some (.int (x3 + 1)), none]) ⟨rfl, ⟨rfl, ⟨rfl, ⟨rfl, trivial⟩⟩⟩⟩ F
/-- against(I)I -/
theorem w_X12_against {l : Launch} {d : Nat} {kd : pm_K} {mr : pm_R} {h : Nat} {x1 : Int32} {mi : pm_I} {ml : pm_L} {K : Int32 → pm_I → pm_L → Prop} (th : TX12s kd mr h)
    (F : c_X12_against_4 l (d + 1) kd mr h x1 0 0 mi ml K) :
    wI l M_X12_against (d + 1) [.ref h, .int x1] kd mr mi ml K := by
  show wp l M_X12_against (d + 1) 0 0 0 [some (.ref h), some (.int x1), none, none, none] [] 0 0 kd mi ml mr _
  refine wp_iconst (v := 0) (pc := 0) dX12_against_0 (by decide) ?_
  refine wp_istore_n (pc := 1) dX12_against_1 (Nat.le_of_ble_eq_true rfl) rfl ?_
  show wp l M_X12_against (d + 1) 0 0 _ [some (.ref h), some (.int x1), some (.int 0), none, none] _ 0 0 kd _ _ mr _
  refine wp_iconst (v := 0) (pc := 2) dX12_against_2 (by decide) ?_
  refine wp_istore_n (pc := 3) dX12_against_3 (Nat.le_of_ble_eq_true rfl) rfl ?_
  show wp l M_X12_against (d + 1) 0 0 _ [some (.ref h), some (.int x1), some (.int 0), some (.int 0), none] _ 0 0 kd _ _ mr _
  exact wp_less (L' := [some (.ref h), some (.int x1), some (.int 0), some (.int 0), none]) ⟨rfl, ⟨rfl, ⟨rfl, ⟨rfl, trivial⟩⟩⟩⟩ F
def c_X12_common_42 (l : Launch) (d : Nat) (kd : pm_K) (mr : pm_R) (h : Nat) (x1 : Int32) (x3 : Int32) (s0 : Int32) (s1 : Int32) (mi : pm_I) (ml : pm_L) (K : Int32 → pm_I → pm_L → Prop) : Prop := wp l M_X12_common d 0 0 42 [some (.ref h), some (.int x1), none, some (.int x3)] [.int s0, .int s1] 0 0 kd mi ml mr (qI kd mr K)
def c_X12_common_12 (l : Launch) (d : Nat) (kd : pm_K) (mr : pm_R) (h : Nat) (x1 : Int32) (x2 : Int32) (x3 : Int32) (mi : pm_I) (ml : pm_L) (K : Int32 → pm_I → pm_L → Prop) : Prop := wp l M_X12_common d 0 0 12 [some (.ref h), some (.int x1), some (.int x2), some (.int x3)] [] 0 0 kd mi ml mr (qI kd mr K)
theorem w_X12_common_12 {l : Launch} {d : Nat} {kd : pm_K} {mr : pm_R} {h : Nat} {x1 : Int32} {x2 : Int32} {x3 : Int32} {mi : pm_I} {ml : pm_L} {K : Int32 → pm_I → pm_L → Prop} (th : TX12s kd mr h)
    (F : (((mi h 48) ≤ x3 → K x2 mi ml) ∧ (¬ (mi h 48) ≤ x3 → ((x1 = 0 → vp_in x3 256 ∧ c_X12_common_42 l (d + 1) kd mr h x1 x3 ((mi (h + 22) (Int32.toNatClampNeg x3)) ^^^ (-1)) x2 mi ml K) ∧ (¬ x1 = 0 → vp_in x3 256 ∧ c_X12_common_42 l (d + 1) kd mr h x1 x3 (mi (h + 22) (Int32.toNatClampNeg x3)) x2 mi ml K))))) :
    c_X12_common_12 l (d + 1) kd mr h x1 x2 x3 mi ml K := by
  show wp l M_X12_common (d + 1) 0 0 12 [some (.ref h), some (.int x1), some (.int x2), some (.int x3)] [] 0 0 kd mi ml mr _
  refine wp_iload_n (pc := 12) dX12_common_12 rfl ?_
  refine wp_aload_n (pc := 13) dX12_common_13 rfl ?_
  refine wp_getI (pc := 14) dX12_common_14 fl_X12_523 rfl (TX12s_k th) ?_
  refine wp_icmp_ge (tgt := 50) (pc := 17) dX12_common_17 (by decide) (fun c4 => ?_) (fun c4 => ?_)
  · have F := F.1 c4
    refine wp_iload_n (pc := 50) dX12_common_50 rfl ?_
    exact r_I (pc := 51) dX12_common_51 rfl F
  · have F := F.2 c4
    refine wp_iload_n (pc := 20) dX12_common_20 rfl ?_
    refine wp_iload_n (pc := 21) dX12_common_21 rfl ?_
    refine wp_if_eq (tgt := 34) (pc := 22) dX12_common_22 (by decide) (fun c5 => ?_) (fun c5 => ?_)
    · have F := F.1 c5
      refine wp_aload_n (pc := 34) dX12_common_34 rfl ?_
      refine wp_getR (pc := 35) dX12_common_35 fl_X12_76 rfl (TX12s_k th) (TX12s_r47 th) ?_
      refine wp_iload_n (pc := 38) dX12_common_38 rfl ?_
      refine wp_iald (pc := 39) dX12_common_39 (TX12s_a47 th) F.1 ?_
      have F := F.2
      refine wp_iconst (v := -1) (pc := 40) dX12_common_40 (by decide) ?_
      refine wp_ixor (pc := 41) dX12_common_41 ?_
      exact wp_less (L' := [some (.ref h), some (.int x1), none, some (.int x3)]) ⟨rfl, ⟨rfl, ⟨rfl, trivial⟩⟩⟩ F
    · have F := F.2 c5
      refine wp_aload_n (pc := 25) dX12_common_25 rfl ?_
      refine wp_getR (pc := 26) dX12_common_26 fl_X12_76 rfl (TX12s_k th) (TX12s_r47 th) ?_
      refine wp_iload_n (pc := 29) dX12_common_29 rfl ?_
      refine wp_iald (pc := 30) dX12_common_30 (TX12s_a47 th) F.1 ?_
      have F := F.2
      refine wp_goto (tgt := 42) (pc := 31) dX12_common_31 (by decide) ?_
      exact wp_less (L' := [some (.ref h), some (.int x1), none, some (.int x3)]) ⟨rfl, ⟨rfl, ⟨rfl, trivial⟩⟩⟩ F
theorem w_X12_common_42 {l : Launch} {d : Nat} {kd : pm_K} {mr : pm_R} {h : Nat} {x1 : Int32} {x3 : Int32} {s0 : Int32} {s1 : Int32} {mi : pm_I} {ml : pm_L} {K : Int32 → pm_I → pm_L → Prop} (th : TX12s kd mr h)
    (F : c_X12_common_12 l (d + 1) kd mr h x1 (s1 &&& s0) (x3 + 1) mi ml K) :
    c_X12_common_42 l (d + 1) kd mr h x1 x3 s0 s1 mi ml K := by
  show wp l M_X12_common (d + 1) 0 0 42 [some (.ref h), some (.int x1), none, some (.int x3)] [.int s0, .int s1] 0 0 kd mi ml mr _
  refine wp_iand (pc := 42) dX12_common_42 ?_
  refine wp_istore_n (pc := 43) dX12_common_43 (Nat.le_of_ble_eq_true rfl) rfl ?_
  show wp l M_X12_common (d + 1) 0 0 _ [some (.ref h), some (.int x1), some (.int (s1 &&& s0)), some (.int x3)] _ 0 0 kd _ _ mr _
  refine wp_iinc (v := (x3 + 1)) (pc := 44) dX12_common_44 rfl rfl rfl ?_
  show wp l M_X12_common (d + 1) 0 0 _ [some (.ref h), some (.int x1), some (.int (s1 &&& s0)), some (.int (x3 + 1))] _ 0 0 kd _ _ mr _
  refine wp_goto (tgt := 12) (pc := 47) dX12_common_47 (by decide) ?_
  exact wp_less (L' := [some (.ref h), some (.int x1), some (.int (s1 &&& s0)), some (.int (x3 + 1))]) ⟨rfl, ⟨rfl, ⟨rfl, ⟨rfl, trivial⟩⟩⟩⟩ F
/-- common(Z)I -/
theorem w_X12_common {l : Launch} {d : Nat} {kd : pm_K} {mr : pm_R} {h : Nat} {x1 : Bool} {mi : pm_I} {ml : pm_L} {K : Int32 → pm_I → pm_L → Prop} (th : TX12s kd mr h)
    (F : wI l M_X12_trialOf d [.ref h, .int 0] kd mr mi ml (fun r1 mi2 ml3 => c_X12_common_12 l (d + 1) kd mr h (b2i x1) (((1 : Int32) <<< (r1 &&& 31)) - 1) 0 mi2 ml3 K)) :
    wI l M_X12_common (d + 1) [.ref h, .int (b2i x1)] kd mr mi ml K := by
  show wp l M_X12_common (d + 1) 0 0 0 [some (.ref h), some (.int (b2i x1)), none, none] [] 0 0 kd mi ml mr _
  refine wp_iconst (v := 1) (pc := 0) dX12_common_0 (by decide) ?_
  refine wp_aload_n (pc := 1) dX12_common_1 rfl ?_
  refine wp_iconst (v := 0) (pc := 2) dX12_common_2 (by decide) ?_
  refine cvI [.int 0] [.int 1] (pc := 3) dX12_common_3 ml_X12_520 iv_X12_trialOf (TX12s_k th) (cl_X12 rfl) rfl rfl (Nat.le_of_ble_eq_true rfl) (Nat.le_of_ble_eq_true rfl) (wI.mono (fun r1 mi2 ml3 F => ?_) F)
  refine wp_ishl (pc := 6) dX12_common_6 ?_
  refine wp_iconst (v := 1) (pc := 7) dX12_common_7 (by decide) ?_
  refine wp_isub (pc := 8) dX12_common_8 ?_
  refine wp_istore_n (pc := 9) dX12_common_9 (Nat.le_of_ble_eq_true rfl) rfl ?_
  show wp l M_X12_common (d + 1) 0 0 _ [some (.ref h), some (.int (b2i x1)), some (.int (((1 : Int32) <<< (r1 &&& 31)) - 1)), none] _ 0 0 kd _ _ mr _
  refine wp_iconst (v := 0) (pc := 10) dX12_common_10 (by decide) ?_
  refine wp_istore_n (pc := 11) dX12_common_11 (Nat.le_of_ble_eq_true rfl) rfl ?_
  show wp l M_X12_common (d + 1) 0 0 _ [some (.ref h), some (.int (b2i x1)), some (.int (((1 : Int32) <<< (r1 &&& 31)) - 1)), some (.int 0)] _ 0 0 kd _ _ mr _
  exact wp_less (L' := [some (.ref h), some (.int (b2i x1)), some (.int (((1 : Int32) <<< (r1 &&& 31)) - 1)), some (.int 0)]) ⟨rfl, ⟨rfl, ⟨rfl, ⟨rfl, trivial⟩⟩⟩⟩ F
def c_X12_askOf_36 (l : Launch) (d : Nat) (kd : pm_K) (mr : pm_R) (h : Nat) (x1 : Int32) (x2 : Int32) (x3 : Int32) (x4 : Int32) (x5 : Int32) (x6 : Int32) (mi : pm_I) (ml : pm_L) (K : Int32 → pm_I → pm_L → Prop) : Prop := wp l M_X12_askOf d 0 0 36 [some (.ref h), some (.int x1), some (.int x2), some (.int x3), some (.int x4), some (.int x5), some (.int x6)] [] 0 0 kd mi ml mr (qI kd mr K)
def c_X12_askOf_20 (l : Launch) (d : Nat) (kd : pm_K) (mr : pm_R) (h : Nat) (x1 : Int32) (x2 : Int32) (x3 : Int32) (x4 : Int32) (mi : pm_I) (ml : pm_L) (K : Int32 → pm_I → pm_L → Prop) : Prop := wp l M_X12_askOf d 0 0 20 [some (.ref h), some (.int x1), some (.int x2), some (.int x3), some (.int x4), none, none] [] 0 0 kd mi ml mr (qI kd mr K)
def c_X12_askOf_8 (l : Launch) (d : Nat) (kd : pm_K) (mr : pm_R) (h : Nat) (x1 : Int32) (x2 : Int32) (x3 : Int32) (mi : pm_I) (ml : pm_L) (K : Int32 → pm_I → pm_L → Prop) : Prop := wp l M_X12_askOf d 0 0 8 [some (.ref h), some (.int x1), some (.int x2), some (.int x3), none, none, none] [] 0 0 kd mi ml mr (qI kd mr K)
theorem w_X12_askOf_8 {l : Launch} {d : Nat} {kd : pm_K} {mr : pm_R} {h : Nat} {x1 : Int32} {x2 : Int32} {x3 : Int32} {mi : pm_I} {ml : pm_L} {K : Int32 → pm_I → pm_L → Prop} (th : TX12s kd mr h)
    (F : wI l M_X12_trialOf d [.ref h, .int 0] kd mr mi ml (fun r1 mi2 ml3 => ((r1 ≤ x3 → K x1 mi2 ml3) ∧ (¬ r1 ≤ x3 → c_X12_askOf_20 l (d + 1) kd mr h x1 x2 x3 0 mi2 ml3 K)))) :
    c_X12_askOf_8 l (d + 1) kd mr h x1 x2 x3 mi ml K := by
  show wp l M_X12_askOf (d + 1) 0 0 8 [some (.ref h), some (.int x1), some (.int x2), some (.int x3), none, none, none] [] 0 0 kd mi ml mr _
  refine wp_iload_n (pc := 8) dX12_askOf_8 rfl ?_
  refine wp_aload_n (pc := 9) dX12_askOf_9 rfl ?_
  refine wp_iconst (v := 0) (pc := 10) dX12_askOf_10 (by decide) ?_
  refine cvI [.int 0] [.int x3] (pc := 11) dX12_askOf_11 ml_X12_520 iv_X12_trialOf (TX12s_k th) (cl_X12 rfl) rfl rfl (Nat.le_of_ble_eq_true rfl) (Nat.le_of_ble_eq_true rfl) (wI.mono (fun r1 mi2 ml3 F => ?_) F)
  refine wp_icmp_ge (tgt := 138) (pc := 14) dX12_askOf_14 (by decide) (fun c4 => ?_) (fun c4 => ?_)
  · have F := F.1 c4
    refine wp_iload_n (pc := 138) dX12_askOf_138 rfl ?_
    exact r_I (pc := 139) dX12_askOf_139 rfl F
  · have F := F.2 c4
    refine wp_iconst (v := 0) (pc := 17) dX12_askOf_17 (by decide) ?_
    refine wp_istore (pc := 18) dX12_askOf_18 (Nat.le_of_ble_eq_true rfl) rfl ?_
    show wp l M_X12_askOf (d + 1) 0 0 _ [some (.ref h), some (.int x1), some (.int x2), some (.int x3), some (.int 0), none, none] _ 0 0 kd _ _ mr _
    exact wp_less (L' := [some (.ref h), some (.int x1), some (.int x2), some (.int x3), some (.int 0), none, none]) ⟨rfl, ⟨rfl, ⟨rfl, ⟨rfl, ⟨rfl, trivial⟩⟩⟩⟩⟩ F
theorem w_X12_askOf_20 {l : Launch} {d : Nat} {kd : pm_K} {mr : pm_R} {h : Nat} {x1 : Int32} {x2 : Int32} {x3 : Int32} {x4 : Int32} {mi : pm_I} {ml : pm_L} {K : Int32 → pm_I → pm_L → Prop} (th : TX12s kd mr h)
    (F : wI l M_X12_trialOf d [.ref h, .int 0] kd mr mi ml (fun r5 mi6 ml7 => ((r5 ≤ x4 → c_X12_askOf_8 l (d + 1) kd mr h x1 x2 (x3 + 1) mi6 ml7 K) ∧ (¬ r5 ≤ x4 → c_X12_askOf_36 l (d + 1) kd mr h x1 x2 x3 x4 0 0 mi6 ml7 K)))) :
    c_X12_askOf_20 l (d + 1) kd mr h x1 x2 x3 x4 mi ml K := by
  show wp l M_X12_askOf (d + 1) 0 0 20 [some (.ref h), some (.int x1), some (.int x2), some (.int x3), some (.int x4), none, none] [] 0 0 kd mi ml mr _
  refine wp_iload (pc := 20) dX12_askOf_20 rfl ?_
  refine wp_aload_n (pc := 22) dX12_askOf_22 rfl ?_
  refine wp_iconst (v := 0) (pc := 23) dX12_askOf_23 (by decide) ?_
  refine cvI [.int 0] [.int x4] (pc := 24) dX12_askOf_24 ml_X12_520 iv_X12_trialOf (TX12s_k th) (cl_X12 rfl) rfl rfl (Nat.le_of_ble_eq_true rfl) (Nat.le_of_ble_eq_true rfl) (wI.mono (fun r5 mi6 ml7 F => ?_) F)
  refine wp_icmp_ge (tgt := 132) (pc := 27) dX12_askOf_27 (by decide) (fun c8 => ?_) (fun c8 => ?_)
  · have F := F.1 c8
    refine wp_iinc (v := (x3 + 1)) (pc := 132) dX12_askOf_132 rfl rfl rfl ?_
    show wp l M_X12_askOf (d + 1) 0 0 _ [some (.ref h), some (.int x1), some (.int x2), some (.int (x3 + 1)), some (.int x4), none, none] _ 0 0 kd _ _ mr _
    refine wp_goto (tgt := 8) (pc := 135) dX12_askOf_135 (by decide) ?_
    exact wp_less (L' := [some (.ref h), some (.int x1), some (.int x2), some (.int (x3 + 1)), none, none, none]) ⟨rfl, ⟨rfl, ⟨rfl, ⟨rfl, trivial⟩⟩⟩⟩ F
  · have F := F.2 c8
    refine wp_iconst (v := 0) (pc := 30) dX12_askOf_30 (by decide) ?_
    refine wp_istore (pc := 31) dX12_askOf_31 (Nat.le_of_ble_eq_true rfl) rfl ?_
    show wp l M_X12_askOf (d + 1) 0 0 _ [some (.ref h), some (.int x1), some (.int x2), some (.int x3), some (.int x4), some (.int 0), none] _ 0 0 kd _ _ mr _
    refine wp_iconst (v := 0) (pc := 33) dX12_askOf_33 (by decide) ?_
    refine wp_istore (pc := 34) dX12_askOf_34 (Nat.le_of_ble_eq_true rfl) rfl ?_
    show wp l M_X12_askOf (d + 1) 0 0 _ [some (.ref h), some (.int x1), some (.int x2), some (.int x3), some (.int x4), some (.int 0), some (.int 0)] _ 0 0 kd _ _ mr _
    exact wp_less (L' := [some (.ref h), some (.int x1), some (.int x2), some (.int x3), some (.int x4), some (.int 0), some (.int 0)]) ⟨rfl, ⟨rfl, ⟨rfl, ⟨rfl, ⟨rfl, ⟨rfl, ⟨rfl, trivial⟩⟩⟩⟩⟩⟩⟩ F
theorem w_X12_askOf_36 {l : Launch} {d : Nat} {kd : pm_K} {mr : pm_R} {h : Nat} {x1 : Int32} {x2 : Int32} {x3 : Int32} {x4 : Int32} {x5 : Int32} {x6 : Int32} {mi : pm_I} {ml : pm_L} {K : Int32 → pm_I → pm_L → Prop} (th : TX12s kd mr h)
    (F : (((mi h 48) ≤ x6 → wI l M_X12_greater d [.int x5, .int ((mi h 48) - x5)] kd mr mi ml (fun r10 mi11 ml12 => wI l M_X12_lesser d [.int x2, .int r10] kd mr mi11 ml12 (fun r16 mi17 ml18 => c_X12_askOf_20 l (d + 1) kd mr h (if x2 ≤ r10 then x1 else ((8 * x3) + x4)) r16 x3 (x4 + 1) mi17 ml18 K))) ∧ (¬ (mi h 48) ≤ x6 → vp_in x6 256 ∧ wB l M_X12_has d [.int (mi (h + 22) (Int32.toNatClampNeg x6)), .int x4] kd mr mi ml (fun r19 mi20 ml21 => vp_in x6 256 ∧ wB l M_X12_has d [.int (mi20 (h + 22) (Int32.toNatClampNeg x6)), .int x3] kd mr mi20 ml21 (fun r22 mi23 ml24 => c_X12_askOf_36 l (d + 1) kd mr h x1 x2 x3 x4 (x5 + (b2i (!decide ((b2i r19) = (b2i r22))))) (x6 + 1) mi23 ml24 K))))) :
    c_X12_askOf_36 l (d + 1) kd mr h x1 x2 x3 x4 x5 x6 mi ml K := by
  show wp l M_X12_askOf (d + 1) 0 0 36 [some (.ref h), some (.int x1), some (.int x2), some (.int x3), some (.int x4), some (.int x5), some (.int x6)] [] 0 0 kd mi ml mr _
  refine wp_iload (pc := 36) dX12_askOf_36 rfl ?_
  refine wp_aload_n (pc := 38) dX12_askOf_38 rfl ?_
  refine wp_getI (pc := 39) dX12_askOf_39 fl_X12_523 rfl (TX12s_k th) ?_
  refine wp_icmp_ge (tgt := 87) (pc := 42) dX12_askOf_42 (by decide) (fun c9 => ?_) (fun c9 => ?_)
  · have F := F.1 c9
    refine wp_iload (pc := 87) dX12_askOf_87 rfl ?_
    refine wp_aload_n (pc := 89) dX12_askOf_89 rfl ?_
    refine wp_getI (pc := 90) dX12_askOf_90 fl_X12_523 rfl (TX12s_k th) ?_
    refine wp_iload (pc := 93) dX12_askOf_93 rfl ?_
    refine wp_isub (pc := 95) dX12_askOf_95 ?_
    refine csI [.int x5, .int ((mi h 48) - x5)] [] (pc := 96) dX12_askOf_96 ml_X12_180 st_X12_greater rfl rfl (Nat.le_of_ble_eq_true rfl) (Nat.le_of_ble_eq_true rfl) (wI.mono (fun r10 mi11 ml12 F => ?_) F)
    refine wp_istore (pc := 99) dX12_askOf_99 (Nat.le_of_ble_eq_true rfl) rfl ?_
    show wp l M_X12_askOf (d + 1) 0 0 _ [some (.ref h), some (.int x1), some (.int x2), some (.int x3), some (.int x4), some (.int x5), some (.int r10)] _ 0 0 kd _ _ mr _
    refine wp_iload (pc := 101) dX12_askOf_101 rfl ?_
    refine wp_iload_n (pc := 103) dX12_askOf_103 rfl ?_
    suffices J13 : ∀ v14 : Int32, v14 = (if x2 ≤ r10 then x1 else ((8 * x3) + x4)) → wp l M_X12_askOf (d + 1) 0 0 118 [some (.ref h), some (.int x1), some (.int x2), some (.int x3), some (.int x4), some (.int x5), some (.int r10)] [.int v14] 0 0 kd mi11 ml12 mr _ by
        refine wp_icmp_ge (tgt := 117) (pc := 104) dX12_askOf_104 (by decide) (fun c15 => ?_) (fun c15 => ?_)
        · refine wp_iload_n (pc := 117) dX12_askOf_117 rfl ?_
          exact J13 _ (by simp only [eq_true c15, if_true, if_false, decide_true, decide_false, Bool.not_true, Bool.not_false, Bool.true_and, Bool.false_and, Bool.true_or, Bool.false_or, b2i_t, b2i_f, ite_true, ite_false, not_true_eq_false, not_false_eq_true, reduceCtorEq, decide_eq_true_eq])
        · refine wp_bipush (v := 8) (pc := 107) dX12_askOf_107 (by decide) ?_
          refine wp_iload_n (pc := 109) dX12_askOf_109 rfl ?_
          refine wp_imul (pc := 110) dX12_askOf_110 ?_
          refine wp_iload (pc := 111) dX12_askOf_111 rfl ?_
          refine wp_iadd (pc := 113) dX12_askOf_113 ?_
          refine wp_goto (tgt := 118) (pc := 114) dX12_askOf_114 (by decide) ?_
          exact J13 _ (by simp only [c15, if_true, if_false, decide_true, decide_false, Bool.not_true, Bool.not_false, Bool.true_and, Bool.false_and, Bool.true_or, Bool.false_or, b2i_t, b2i_f, ite_true, ite_false, not_true_eq_false, not_false_eq_true, reduceCtorEq, decide_eq_true_eq])
    intro v14 ev14
    subst ev14
    refine wp_istore_n (pc := 118) dX12_askOf_118 (Nat.le_of_ble_eq_true rfl) rfl ?_
    show wp l M_X12_askOf (d + 1) 0 0 _ [some (.ref h), some (.int (if x2 ≤ r10 then x1 else ((8 * x3) + x4))), some (.int x2), some (.int x3), some (.int x4), some (.int x5), some (.int r10)] _ 0 0 kd _ _ mr _
    refine wp_iload_n (pc := 119) dX12_askOf_119 rfl ?_
    refine wp_iload (pc := 120) dX12_askOf_120 rfl ?_
    refine csI [.int x2, .int r10] [] (pc := 122) dX12_askOf_122 ml_X12_476 st_X12_lesser rfl rfl (Nat.le_of_ble_eq_true rfl) (Nat.le_of_ble_eq_true rfl) (wI.mono (fun r16 mi17 ml18 F => ?_) F)
    refine wp_istore_n (pc := 125) dX12_askOf_125 (Nat.le_of_ble_eq_true rfl) rfl ?_
    show wp l M_X12_askOf (d + 1) 0 0 _ [some (.ref h), some (.int (if x2 ≤ r10 then x1 else ((8 * x3) + x4))), some (.int r16), some (.int x3), some (.int x4), some (.int x5), some (.int r10)] _ 0 0 kd _ _ mr _
    refine wp_iinc (v := (x4 + 1)) (pc := 126) dX12_askOf_126 rfl rfl rfl ?_
    show wp l M_X12_askOf (d + 1) 0 0 _ [some (.ref h), some (.int (if x2 ≤ r10 then x1 else ((8 * x3) + x4))), some (.int r16), some (.int x3), some (.int (x4 + 1)), some (.int x5), some (.int r10)] _ 0 0 kd _ _ mr _
    refine wp_goto (tgt := 20) (pc := 129) dX12_askOf_129 (by decide) ?_
    exact wp_less (L' := [some (.ref h), some (.int (if x2 ≤ r10 then x1 else ((8 * x3) + x4))), some (.int r16), some (.int x3), some (.int (x4 + 1)), none, none]) ⟨rfl, ⟨rfl, ⟨rfl, ⟨rfl, ⟨rfl, trivial⟩⟩⟩⟩⟩ F
  · have F := F.2 c9
    refine wp_iload (pc := 45) dX12_askOf_45 rfl ?_
    refine wp_aload_n (pc := 47) dX12_askOf_47 rfl ?_
    refine wp_getR (pc := 48) dX12_askOf_48 fl_X12_76 rfl (TX12s_k th) (TX12s_r47 th) ?_
    refine wp_iload (pc := 51) dX12_askOf_51 rfl ?_
    refine wp_iald (pc := 53) dX12_askOf_53 (TX12s_a47 th) F.1 ?_
    have F := F.2
    refine wp_iload (pc := 54) dX12_askOf_54 rfl ?_
    refine csB [.int (mi (h + 22) (Int32.toNatClampNeg x6)), .int x4] [.int x5] (pc := 56) dX12_askOf_56 ml_X12_111 st_X12_has rfl rfl (Nat.le_of_ble_eq_true rfl) (Nat.le_of_ble_eq_true rfl) (wB.mono (fun r19 mi20 ml21 F => ?_) F)
    refine wp_aload_n (pc := 59) dX12_askOf_59 rfl ?_
    refine wp_getR (pc := 60) dX12_askOf_60 fl_X12_76 rfl (TX12s_k th) (TX12s_r47 th) ?_
    refine wp_iload (pc := 63) dX12_askOf_63 rfl ?_
    refine wp_iald (pc := 65) dX12_askOf_65 (TX12s_a47 th) F.1 ?_
    have F := F.2
    refine wp_iload_n (pc := 66) dX12_askOf_66 rfl ?_
    refine csB [.int (mi20 (h + 22) (Int32.toNatClampNeg x6)), .int x3] [.int (b2i r19), .int x5] (pc := 67) dX12_askOf_67 ml_X12_111 st_X12_has rfl rfl (Nat.le_of_ble_eq_true rfl) (Nat.le_of_ble_eq_true rfl) (wB.mono (fun r22 mi23 ml24 F => ?_) F)
    suffices J25 : ∀ v26 : Int32, v26 = (b2i (!decide ((b2i r19) = (b2i r22)))) → wp l M_X12_askOf (d + 1) 0 0 78 [some (.ref h), some (.int x1), some (.int x2), some (.int x3), some (.int x4), some (.int x5), some (.int x6)] [.int v26, .int x5] 0 0 kd mi23 ml24 mr _ by
        refine wp_icmp_eq (tgt := 77) (pc := 70) dX12_askOf_70 (by decide) (fun c27 => ?_) (fun c27 => ?_)
        · refine wp_iconst (v := 0) (pc := 77) dX12_askOf_77 (by decide) ?_
          exact J25 _ (by simp only [eq_true c27, if_true, if_false, decide_true, decide_false, Bool.not_true, Bool.not_false, Bool.true_and, Bool.false_and, Bool.true_or, Bool.false_or, b2i_t, b2i_f, ite_true, ite_false, not_true_eq_false, not_false_eq_true, reduceCtorEq, decide_eq_true_eq])
        · refine wp_iconst (v := 1) (pc := 73) dX12_askOf_73 (by decide) ?_
          refine wp_goto (tgt := 78) (pc := 74) dX12_askOf_74 (by decide) ?_
          exact J25 _ (by simp only [c27, if_true, if_false, decide_true, decide_false, Bool.not_true, Bool.not_false, Bool.true_and, Bool.false_and, Bool.true_or, Bool.false_or, b2i_t, b2i_f, ite_true, ite_false, not_true_eq_false, not_false_eq_true, reduceCtorEq, decide_eq_true_eq])
    intro v26 ev26
    subst ev26
    refine wp_iadd (pc := 78) dX12_askOf_78 ?_
    refine wp_istore (pc := 79) dX12_askOf_79 (Nat.le_of_ble_eq_true rfl) rfl ?_
    show wp l M_X12_askOf (d + 1) 0 0 _ [some (.ref h), some (.int x1), some (.int x2), some (.int x3), some (.int x4), some (.int (x5 + (b2i (!decide ((b2i r19) = (b2i r22)))))), some (.int x6)] _ 0 0 kd _ _ mr _
    refine wp_iinc (v := (x6 + 1)) (pc := 81) dX12_askOf_81 rfl rfl rfl ?_
    show wp l M_X12_askOf (d + 1) 0 0 _ [some (.ref h), some (.int x1), some (.int x2), some (.int x3), some (.int x4), some (.int (x5 + (b2i (!decide ((b2i r19) = (b2i r22)))))), some (.int (x6 + 1))] _ 0 0 kd _ _ mr _
    refine wp_goto (tgt := 36) (pc := 84) dX12_askOf_84 (by decide) ?_
    exact wp_less (L' := [some (.ref h), some (.int x1), some (.int x2), some (.int x3), some (.int x4), some (.int (x5 + (b2i (!decide ((b2i r19) = (b2i r22)))))), some (.int (x6 + 1))]) ⟨rfl, ⟨rfl, ⟨rfl, ⟨rfl, ⟨rfl, ⟨rfl, ⟨rfl, trivial⟩⟩⟩⟩⟩⟩⟩ F
/-- askOf()I -/
theorem w_X12_askOf {l : Launch} {d : Nat} {kd : pm_K} {mr : pm_R} {h : Nat}  {mi : pm_I} {ml : pm_L} {K : Int32 → pm_I → pm_L → Prop} (th : TX12s kd mr h)
    (F : c_X12_askOf_8 l (d + 1) kd mr h (-1) 1000000 0 mi ml K) :
    wI l M_X12_askOf (d + 1) [.ref h] kd mr mi ml K := by
  show wp l M_X12_askOf (d + 1) 0 0 0 [some (.ref h), none, none, none, none, none, none] [] 0 0 kd mi ml mr _
  refine wp_iconst (v := -1) (pc := 0) dX12_askOf_0 (by decide) ?_
  refine wp_istore_n (pc := 1) dX12_askOf_1 (Nat.le_of_ble_eq_true rfl) rfl ?_
  show wp l M_X12_askOf (d + 1) 0 0 _ [some (.ref h), some (.int (-1)), none, none, none, none, none] _ 0 0 kd _ _ mr _
  refine wp_ldcw (v := 1000000) (pc := 2) dX12_askOf_2 (tb_7 197 rfl rfl) ?_
  refine wp_istore_n (pc := 5) dX12_askOf_5 (Nat.le_of_ble_eq_true rfl) rfl ?_
  show wp l M_X12_askOf (d + 1) 0 0 _ [some (.ref h), some (.int (-1)), some (.int 1000000), none, none, none, none] _ 0 0 kd _ _ mr _
  refine wp_iconst (v := 0) (pc := 6) dX12_askOf_6 (by decide) ?_
  refine wp_istore_n (pc := 7) dX12_askOf_7 (Nat.le_of_ble_eq_true rfl) rfl ?_
  show wp l M_X12_askOf (d + 1) 0 0 _ [some (.ref h), some (.int (-1)), some (.int 1000000), some (.int 0), none, none, none] _ 0 0 kd _ _ mr _
  exact wp_less (L' := [some (.ref h), some (.int (-1)), some (.int 1000000), some (.int 0), none, none, none]) ⟨rfl, ⟨rfl, ⟨rfl, ⟨rfl, trivial⟩⟩⟩⟩ F
def c_X12_broken_45 (l : Launch) (d : Nat) (kd : pm_K) (mr : pm_R) (h : Nat) (x1 : Int32) (x2 : Int32) (x3 : Int32) (mi : pm_I) (ml : pm_L) (K : Int32 → pm_I → pm_L → Prop) : Prop := wp l M_X12_broken d 0 0 45 [some (.ref h), some (.int x1), some (.int x2), some (.int x3)] [] 0 0 kd mi ml mr (qI kd mr K)
def c_X12_broken_46 (l : Launch) (d : Nat) (kd : pm_K) (mr : pm_R) (h : Nat) (x1 : Int32) (x3 : Int32) (s0 : Int32) (mi : pm_I) (ml : pm_L) (K : Int32 → pm_I → pm_L → Prop) : Prop := wp l M_X12_broken d 0 0 46 [some (.ref h), some (.int x1), none, some (.int x3)] [.int s0] 0 0 kd mi ml mr (qI kd mr K)
def c_X12_broken_41 (l : Launch) (d : Nat) (kd : pm_K) (mr : pm_R) (h : Nat) (x1 : Int32) (x3 : Int32) (mi : pm_I) (ml : pm_L) (K : Int32 → pm_I → pm_L → Prop) : Prop := wp l M_X12_broken d 0 0 41 [some (.ref h), some (.int x1), none, some (.int x3)] [] 0 0 kd mi ml mr (qI kd mr K)
def c_X12_broken_4 (l : Launch) (d : Nat) (kd : pm_K) (mr : pm_R) (h : Nat) (x1 : Int32) (x2 : Int32) (x3 : Int32) (mi : pm_I) (ml : pm_L) (K : Int32 → pm_I → pm_L → Prop) : Prop := wp l M_X12_broken d 0 0 4 [some (.ref h), some (.int x1), some (.int x2), some (.int x3)] [] 0 0 kd mi ml mr (qI kd mr K)
theorem w_X12_broken_4 {l : Launch} {d : Nat} {kd : pm_K} {mr : pm_R} {h : Nat} {x1 : Int32} {x2 : Int32} {x3 : Int32} {mi : pm_I} {ml : pm_L} {K : Int32 → pm_I → pm_L → Prop} (th : TX12s kd mr h)
    (F : wI l M_X12_trialOf d [.ref h, .int 0] kd mr mi ml (fun r1 mi2 ml3 => ((((1 : Int32) <<< (r1 &&& 31)) ≤ x3 → ((x2 = (-1) → K x2 mi2 ml3) ∧ (¬ x2 = (-1) → ((x1 = 0 → wI l M_X12_against d [.ref h, .int x2] kd mr mi2 ml3 (fun r7 mi8 ml9 => K r7 mi8 ml9)) ∧ (¬ x1 = 0 → K x2 mi2 ml3))))) ∧ (¬ ((1 : Int32) <<< (r1 &&& 31)) ≤ x3 → wB l M_X12_areMany d [.ref h, .int x3] kd mr mi2 ml3 (fun r10 mi11 ml12 => ((r10 = false → c_X12_broken_45 l (d + 1) kd mr h x1 x2 x3 mi11 ml12 K) ∧ (r10 = true → ((x2 = (-1) → c_X12_broken_41 l (d + 1) kd mr h x1 x3 mi11 ml12 K) ∧ (¬ x2 = (-1) → wI l M_X12_against d [.ref h, .int x3] kd mr mi11 ml12 (fun r15 mi16 ml17 => wI l M_X12_against d [.ref h, .int x2] kd mr mi16 ml17 (fun r18 mi19 ml20 => c_X12_broken_4 l (d + 1) kd mr h x1 (if r18 ≤ r15 then x2 else x3) (x3 + 1) mi19 ml20 K))))))))))) :
    c_X12_broken_4 l (d + 1) kd mr h x1 x2 x3 mi ml K := by
  show wp l M_X12_broken (d + 1) 0 0 4 [some (.ref h), some (.int x1), some (.int x2), some (.int x3)] [] 0 0 kd mi ml mr _
  refine wp_iload_n (pc := 4) dX12_broken_4 rfl ?_
  refine wp_iconst (v := 1) (pc := 5) dX12_broken_5 (by decide) ?_
  refine wp_aload_n (pc := 6) dX12_broken_6 rfl ?_
  refine wp_iconst (v := 0) (pc := 7) dX12_broken_7 (by decide) ?_
  refine cvI [.int 0] [.int 1, .int x3] (pc := 8) dX12_broken_8 ml_X12_520 iv_X12_trialOf (TX12s_k th) (cl_X12 rfl) rfl rfl (Nat.le_of_ble_eq_true rfl) (Nat.le_of_ble_eq_true rfl) (wI.mono (fun r1 mi2 ml3 F => ?_) F)
  refine wp_ishl (pc := 11) dX12_broken_11 ?_
  refine wp_icmp_ge (tgt := 53) (pc := 12) dX12_broken_12 (by decide) (fun c4 => ?_) (fun c4 => ?_)
  · have F := F.1 c4
    refine wp_iload_n (pc := 53) dX12_broken_53 rfl ?_
    refine wp_iconst (v := -1) (pc := 54) dX12_broken_54 (by decide) ?_
    refine wp_icmp_eq (tgt := 62) (pc := 55) dX12_broken_55 (by decide) (fun c5 => ?_) (fun c5 => ?_)
    · have F := F.1 c5
      refine wp_iload_n (pc := 62) dX12_broken_62 rfl ?_
      refine wp_goto (tgt := 71) (pc := 63) dX12_broken_63 (by decide) ?_
      exact r_I (pc := 71) dX12_broken_71 rfl F
    · have F := F.2 c5
      refine wp_iload_n (pc := 58) dX12_broken_58 rfl ?_
      refine wp_if_eq (tgt := 66) (pc := 59) dX12_broken_59 (by decide) (fun c6 => ?_) (fun c6 => ?_)
      · have F := F.1 c6
        refine wp_aload_n (pc := 66) dX12_broken_66 rfl ?_
        refine wp_iload_n (pc := 67) dX12_broken_67 rfl ?_
        refine cvI [.int x2] [] (pc := 68) dX12_broken_68 ml_X12_529 iv_X12_against (TX12s_k th) (cl_X12 rfl) rfl rfl (Nat.le_of_ble_eq_true rfl) (Nat.le_of_ble_eq_true rfl) (wI.mono (fun r7 mi8 ml9 F => ?_) F)
        exact r_I (pc := 71) dX12_broken_71 rfl F
      · have F := F.2 c6
        refine wp_iload_n (pc := 62) dX12_broken_62 rfl ?_
        refine wp_goto (tgt := 71) (pc := 63) dX12_broken_63 (by decide) ?_
        exact r_I (pc := 71) dX12_broken_71 rfl F
  · have F := F.2 c4
    refine wp_aload_n (pc := 15) dX12_broken_15 rfl ?_
    refine wp_iload_n (pc := 16) dX12_broken_16 rfl ?_
    refine cvB [.int x3] [] (pc := 17) dX12_broken_17 ml_X12_526 iv_X12_areMany (TX12s_k th) (cl_X12 rfl) rfl rfl (Nat.le_of_ble_eq_true rfl) (Nat.le_of_ble_eq_true rfl) (wB.mono (fun r10 mi11 ml12 F => ?_) F)
    refine b_eq (tgt := 45) (pc := 20) dX12_broken_20 (by decide) (fun c13 => ?_) (fun c13 => ?_)
    · have F := F.1 c13
      exact wp_less (L' := [some (.ref h), some (.int x1), some (.int x2), some (.int x3)]) ⟨rfl, ⟨rfl, ⟨rfl, ⟨rfl, trivial⟩⟩⟩⟩ F
    · have F := F.2 c13
      refine wp_iload_n (pc := 23) dX12_broken_23 rfl ?_
      refine wp_iconst (v := -1) (pc := 24) dX12_broken_24 (by decide) ?_
      refine wp_icmp_eq (tgt := 41) (pc := 25) dX12_broken_25 (by decide) (fun c14 => ?_) (fun c14 => ?_)
      · have F := F.1 c14
        exact wp_less (L' := [some (.ref h), some (.int x1), none, some (.int x3)]) ⟨rfl, ⟨rfl, ⟨rfl, trivial⟩⟩⟩ F
      · have F := F.2 c14
        refine wp_aload_n (pc := 28) dX12_broken_28 rfl ?_
        refine wp_iload_n (pc := 29) dX12_broken_29 rfl ?_
        refine cvI [.int x3] [] (pc := 30) dX12_broken_30 ml_X12_529 iv_X12_against (TX12s_k th) (cl_X12 rfl) rfl rfl (Nat.le_of_ble_eq_true rfl) (Nat.le_of_ble_eq_true rfl) (wI.mono (fun r15 mi16 ml17 F => ?_) F)
        refine wp_aload_n (pc := 33) dX12_broken_33 rfl ?_
        refine wp_iload_n (pc := 34) dX12_broken_34 rfl ?_
        refine cvI [.int x2] [.int r15] (pc := 35) dX12_broken_35 ml_X12_529 iv_X12_against (TX12s_k th) (cl_X12 rfl) rfl rfl (Nat.le_of_ble_eq_true rfl) (Nat.le_of_ble_eq_true rfl) (wI.mono (fun r18 mi19 ml20 F => ?_) F)
        suffices J21 : ∀ v22 : Int32, v22 = (if r18 ≤ r15 then x2 else x3) → wp l M_X12_broken (d + 1) 0 0 46 [some (.ref h), some (.int x1), some (.int x2), some (.int x3)] [.int v22] 0 0 kd mi19 ml20 mr _ by
            refine wp_icmp_ge (tgt := 45) (pc := 38) dX12_broken_38 (by decide) (fun c23 => ?_) (fun c23 => ?_)
            · refine wp_iload_n (pc := 45) dX12_broken_45 rfl ?_
              exact J21 _ (by simp only [eq_true c23, if_true, if_false, decide_true, decide_false, Bool.not_true, Bool.not_false, Bool.true_and, Bool.false_and, Bool.true_or, Bool.false_or, b2i_t, b2i_f, ite_true, ite_false, not_true_eq_false, not_false_eq_true, reduceCtorEq, decide_eq_true_eq])
            · refine wp_iload_n (pc := 41) dX12_broken_41 rfl ?_
              refine wp_goto (tgt := 46) (pc := 42) dX12_broken_42 (by decide) ?_
              exact J21 _ (by simp only [c23, if_true, if_false, decide_true, decide_false, Bool.not_true, Bool.not_false, Bool.true_and, Bool.false_and, Bool.true_or, Bool.false_or, b2i_t, b2i_f, ite_true, ite_false, not_true_eq_false, not_false_eq_true, reduceCtorEq, decide_eq_true_eq])
        intro v22 ev22
        subst ev22
        refine wp_istore_n (pc := 46) dX12_broken_46 (Nat.le_of_ble_eq_true rfl) rfl ?_
        show wp l M_X12_broken (d + 1) 0 0 _ [some (.ref h), some (.int x1), some (.int (if r18 ≤ r15 then x2 else x3)), some (.int x3)] _ 0 0 kd _ _ mr _
        refine wp_iinc (v := (x3 + 1)) (pc := 47) dX12_broken_47 rfl rfl rfl ?_
        show wp l M_X12_broken (d + 1) 0 0 _ [some (.ref h), some (.int x1), some (.int (if r18 ≤ r15 then x2 else x3)), some (.int (x3 + 1))] _ 0 0 kd _ _ mr _
        refine wp_goto (tgt := 4) (pc := 50) dX12_broken_50 (by decide) ?_
        exact wp_less (L' := [some (.ref h), some (.int x1), some (.int (if r18 ≤ r15 then x2 else x3)), some (.int (x3 + 1))]) ⟨rfl, ⟨rfl, ⟨rfl, ⟨rfl, trivial⟩⟩⟩⟩ F
theorem w_X12_broken_41 {l : Launch} {d : Nat} {kd : pm_K} {mr : pm_R} {h : Nat} {x1 : Int32} {x3 : Int32} {mi : pm_I} {ml : pm_L} {K : Int32 → pm_I → pm_L → Prop} (th : TX12s kd mr h)
    (F : c_X12_broken_46 l (d + 1) kd mr h x1 x3 x3 mi ml K) :
    c_X12_broken_41 l (d + 1) kd mr h x1 x3 mi ml K := by
  show wp l M_X12_broken (d + 1) 0 0 41 [some (.ref h), some (.int x1), none, some (.int x3)] [] 0 0 kd mi ml mr _
  refine wp_iload_n (pc := 41) dX12_broken_41 rfl ?_
  refine wp_goto (tgt := 46) (pc := 42) dX12_broken_42 (by decide) ?_
  exact wp_less (L' := [some (.ref h), some (.int x1), none, some (.int x3)]) ⟨rfl, ⟨rfl, ⟨rfl, trivial⟩⟩⟩ F
theorem w_X12_broken_46 {l : Launch} {d : Nat} {kd : pm_K} {mr : pm_R} {h : Nat} {x1 : Int32} {x3 : Int32} {s0 : Int32} {mi : pm_I} {ml : pm_L} {K : Int32 → pm_I → pm_L → Prop} (th : TX12s kd mr h)
    (F : c_X12_broken_4 l (d + 1) kd mr h x1 s0 (x3 + 1) mi ml K) :
    c_X12_broken_46 l (d + 1) kd mr h x1 x3 s0 mi ml K := by
  show wp l M_X12_broken (d + 1) 0 0 46 [some (.ref h), some (.int x1), none, some (.int x3)] [.int s0] 0 0 kd mi ml mr _
  refine wp_istore_n (pc := 46) dX12_broken_46 (Nat.le_of_ble_eq_true rfl) rfl ?_
  show wp l M_X12_broken (d + 1) 0 0 _ [some (.ref h), some (.int x1), some (.int s0), some (.int x3)] _ 0 0 kd _ _ mr _
  refine wp_iinc (v := (x3 + 1)) (pc := 47) dX12_broken_47 rfl rfl rfl ?_
  show wp l M_X12_broken (d + 1) 0 0 _ [some (.ref h), some (.int x1), some (.int s0), some (.int (x3 + 1))] _ 0 0 kd _ _ mr _
  refine wp_goto (tgt := 4) (pc := 50) dX12_broken_50 (by decide) ?_
  exact wp_less (L' := [some (.ref h), some (.int x1), some (.int s0), some (.int (x3 + 1))]) ⟨rfl, ⟨rfl, ⟨rfl, ⟨rfl, trivial⟩⟩⟩⟩ F
theorem w_X12_broken_45 {l : Launch} {d : Nat} {kd : pm_K} {mr : pm_R} {h : Nat} {x1 : Int32} {x2 : Int32} {x3 : Int32} {mi : pm_I} {ml : pm_L} {K : Int32 → pm_I → pm_L → Prop} (th : TX12s kd mr h)
    (F : c_X12_broken_46 l (d + 1) kd mr h x1 x3 x2 mi ml K) :
    c_X12_broken_45 l (d + 1) kd mr h x1 x2 x3 mi ml K := by
  show wp l M_X12_broken (d + 1) 0 0 45 [some (.ref h), some (.int x1), some (.int x2), some (.int x3)] [] 0 0 kd mi ml mr _
  refine wp_iload_n (pc := 45) dX12_broken_45 rfl ?_
  exact wp_less (L' := [some (.ref h), some (.int x1), none, some (.int x3)]) ⟨rfl, ⟨rfl, ⟨rfl, trivial⟩⟩⟩ F
/-- broken(Z)I -/
theorem w_X12_broken {l : Launch} {d : Nat} {kd : pm_K} {mr : pm_R} {h : Nat} {x1 : Bool} {mi : pm_I} {ml : pm_L} {K : Int32 → pm_I → pm_L → Prop} (th : TX12s kd mr h)
    (F : c_X12_broken_4 l (d + 1) kd mr h (b2i x1) (-1) 0 mi ml K) :
    wI l M_X12_broken (d + 1) [.ref h, .int (b2i x1)] kd mr mi ml K := by
  show wp l M_X12_broken (d + 1) 0 0 0 [some (.ref h), some (.int (b2i x1)), none, none] [] 0 0 kd mi ml mr _
  refine wp_iconst (v := -1) (pc := 0) dX12_broken_0 (by decide) ?_
  refine wp_istore_n (pc := 1) dX12_broken_1 (Nat.le_of_ble_eq_true rfl) rfl ?_
  show wp l M_X12_broken (d + 1) 0 0 _ [some (.ref h), some (.int (b2i x1)), some (.int (-1)), none] _ 0 0 kd _ _ mr _
  refine wp_iconst (v := 0) (pc := 2) dX12_broken_2 (by decide) ?_
  refine wp_istore_n (pc := 3) dX12_broken_3 (Nat.le_of_ble_eq_true rfl) rfl ?_
  show wp l M_X12_broken (d + 1) 0 0 _ [some (.ref h), some (.int (b2i x1)), some (.int (-1)), some (.int 0)] _ 0 0 kd _ _ mr _
  exact wp_less (L' := [some (.ref h), some (.int (b2i x1)), some (.int (-1)), some (.int 0)]) ⟨rfl, ⟨rfl, ⟨rfl, ⟨rfl, trivial⟩⟩⟩⟩ F
/-- fact(III)I -/
theorem w_X12_fact {l : Launch} {d : Nat} {kd : pm_K} {mr : pm_R} {h : Nat} {x1 : Int32} {x2 : Int32} {x3 : Int32} {mi : pm_I} {ml : pm_L} {K : Int32 → pm_I → pm_L → Prop} (th : TX12s kd mr h)
    (F : wB l M_X12_hasSight d [.ref h, .int x1] kd mr (pm_up mi h 0 0) ml (fun r1 mi2 ml3 => ((r1 = true → ((¬ x2 = (-1) → wI l M_X12_facts d [.ref h] kd mr mi2 ml3 (fun r6 mi7 ml8 => wB l M_X12_in d [.int x2, .int 0, .int (r6 - 1)] kd mr mi7 ml8 (fun r9 mi10 ml11 => ((r9 = false → K (-2) mi10 ml11) ∧ (r9 = true → wB l M_X12_in d [.int x3, .int 0, .int 2] kd mr mi10 ml11 (fun r13 mi14 ml15 => ((r13 = false → K (-2) mi14 ml15) ∧ (r13 = true → wI l M_X12_factOf d [.ref h, .int x2, .int x3] kd mr mi14 ml15 (fun r17 mi18 ml19 => K r17 mi18 ml19))))))))) ∧ (x2 = (-1) → ((¬ x3 = 0 → K (-2) mi2 ml3) ∧ (x3 = 0 → wI l M_X12_facts d [.ref h] kd mr mi2 ml3 (fun r21 mi22 ml23 => K r21 mi22 ml23)))))) ∧ (r1 = false → K (-2) mi2 ml3)))) :
    wI l M_X12_fact (d + 1) [.ref h, .int x1, .int x2, .int x3] kd mr mi ml K := by
  show wp l M_X12_fact (d + 1) 0 0 0 [some (.ref h), some (.int x1), some (.int x2), some (.int x3)] [] 0 0 kd mi ml mr _
  refine wp_aload_n (pc := 0) dX12_fact_0 rfl ?_
  refine wp_iconst (v := 0) (pc := 1) dX12_fact_1 (by decide) ?_
  refine wp_putI (pc := 2) dX12_fact_2 fl_X12_107 rfl rfl (TX12s_k th) ?_
  refine wp_aload_n (pc := 5) dX12_fact_5 rfl ?_
  refine wp_iload_n (pc := 6) dX12_fact_6 rfl ?_
  refine cvB [.int x1] [] (pc := 7) dX12_fact_7 ml_X12_548 iv_X12_hasSight (TX12s_k th) (cl_X12 rfl) rfl rfl (Nat.le_of_ble_eq_true rfl) (Nat.le_of_ble_eq_true rfl) (wB.mono (fun r1 mi2 ml3 F => ?_) F)
  refine b_ne (tgt := 16) (pc := 10) dX12_fact_10 (by decide) (fun c4 => ?_) (fun c4 => ?_)
  · have F := F.1 c4
    refine wp_iload_n (pc := 16) dX12_fact_16 rfl ?_
    refine wp_iconst (v := -1) (pc := 17) dX12_fact_17 (by decide) ?_
    refine wp_icmp_ne (tgt := 35) (pc := 18) dX12_fact_18 (by decide) (fun c5 => ?_) (fun c5 => ?_)
    · have F := F.1 c5
      refine wp_iload_n (pc := 35) dX12_fact_35 rfl ?_
      refine wp_iconst (v := 0) (pc := 36) dX12_fact_36 (by decide) ?_
      refine wp_aload_n (pc := 37) dX12_fact_37 rfl ?_
      refine cvI [] [.int 0, .int x2] (pc := 38) dX12_fact_38 ml_X12_551 iv_X12_facts (TX12s_k th) (cl_X12 rfl) rfl rfl (Nat.le_of_ble_eq_true rfl) (Nat.le_of_ble_eq_true rfl) (wI.mono (fun r6 mi7 ml8 F => ?_) F)
      refine wp_iconst (v := 1) (pc := 41) dX12_fact_41 (by decide) ?_
      refine wp_isub (pc := 42) dX12_fact_42 ?_
      refine csB [.int x2, .int 0, .int (r6 - 1)] [] (pc := 43) dX12_fact_43 ml_X12_119 st_X12_in rfl rfl (Nat.le_of_ble_eq_true rfl) (Nat.le_of_ble_eq_true rfl) (wB.mono (fun r9 mi10 ml11 F => ?_) F)
      refine b_eq (tgt := 67) (pc := 46) dX12_fact_46 (by decide) (fun c12 => ?_) (fun c12 => ?_)
      · have F := F.1 c12
        refine wp_bipush (v := -2) (pc := 67) dX12_fact_67 (by decide) ?_
        exact r_I (pc := 69) dX12_fact_69 rfl F
      · have F := F.2 c12
        refine wp_iload_n (pc := 49) dX12_fact_49 rfl ?_
        refine wp_iconst (v := 0) (pc := 50) dX12_fact_50 (by decide) ?_
        refine wp_iconst (v := 2) (pc := 51) dX12_fact_51 (by decide) ?_
        refine csB [.int x3, .int 0, .int 2] [] (pc := 52) dX12_fact_52 ml_X12_119 st_X12_in rfl rfl (Nat.le_of_ble_eq_true rfl) (Nat.le_of_ble_eq_true rfl) (wB.mono (fun r13 mi14 ml15 F => ?_) F)
        refine b_eq (tgt := 67) (pc := 55) dX12_fact_55 (by decide) (fun c16 => ?_) (fun c16 => ?_)
        · have F := F.1 c16
          refine wp_bipush (v := -2) (pc := 67) dX12_fact_67 (by decide) ?_
          exact r_I (pc := 69) dX12_fact_69 rfl F
        · have F := F.2 c16
          refine wp_aload_n (pc := 58) dX12_fact_58 rfl ?_
          refine wp_iload_n (pc := 59) dX12_fact_59 rfl ?_
          refine wp_iload_n (pc := 60) dX12_fact_60 rfl ?_
          refine cvI [.int x2, .int x3] [] (pc := 61) dX12_fact_61 ml_X12_554 iv_X12_factOf (TX12s_k th) (cl_X12 rfl) rfl rfl (Nat.le_of_ble_eq_true rfl) (Nat.le_of_ble_eq_true rfl) (wI.mono (fun r17 mi18 ml19 F => ?_) F)
          refine wp_goto (tgt := 69) (pc := 64) dX12_fact_64 (by decide) ?_
          exact r_I (pc := 69) dX12_fact_69 rfl F
    · have F := F.2 c5
      refine wp_iload_n (pc := 21) dX12_fact_21 rfl ?_
      refine wp_if_ne (tgt := 32) (pc := 22) dX12_fact_22 (by decide) (fun c20 => ?_) (fun c20 => ?_)
      · have F := F.1 c20
        refine wp_bipush (v := -2) (pc := 32) dX12_fact_32 (by decide) ?_
        exact r_I (pc := 34) dX12_fact_34 rfl F
      · have F := F.2 c20
        refine wp_aload_n (pc := 25) dX12_fact_25 rfl ?_
        refine cvI [] [] (pc := 26) dX12_fact_26 ml_X12_551 iv_X12_facts (TX12s_k th) (cl_X12 rfl) rfl rfl (Nat.le_of_ble_eq_true rfl) (Nat.le_of_ble_eq_true rfl) (wI.mono (fun r21 mi22 ml23 F => ?_) F)
        refine wp_goto (tgt := 34) (pc := 29) dX12_fact_29 (by decide) ?_
        exact r_I (pc := 34) dX12_fact_34 rfl F
  · have F := F.2 c4
    refine wp_bipush (v := -2) (pc := 13) dX12_fact_13 (by decide) ?_
    exact r_I (pc := 15) dX12_fact_15 rfl F
/-- hasSight(I)Z -/
theorem w_X12_hasSight {l : Launch} {d : Nat} {kd : pm_K} {mr : pm_R} {h : Nat} {x1 : Int32} {mi : pm_I} {ml : pm_L} {K : Bool → pm_I → pm_L → Prop} (th : TX12s kd mr h)
    (F : wB l M_X12_is d [.ref h, .int 3, .int x1] kd mr (pm_up mi h 49 x1) ml (fun r1 mi2 ml3 => K r1 mi2 ml3)) :
    wB l M_X12_hasSight (d + 1) [.ref h, .int x1] kd mr mi ml K := by
  show wp l M_X12_hasSight (d + 1) 0 0 0 [some (.ref h), some (.int x1)] [] 0 0 kd mi ml mr _
  refine wp_aload_n (pc := 0) dX12_hasSight_0 rfl ?_
  refine wp_iload_n (pc := 1) dX12_hasSight_1 rfl ?_
  refine wp_putI (pc := 2) dX12_hasSight_2 fl_X12_545 rfl rfl (TX12s_k th) ?_
  refine wp_aload_n (pc := 5) dX12_hasSight_5 rfl ?_
  refine wp_iconst (v := 3) (pc := 6) dX12_hasSight_6 (by decide) ?_
  refine wp_iload_n (pc := 7) dX12_hasSight_7 rfl ?_
  refine cvB [.int 3, .int x1] [] (pc := 8) dX12_hasSight_8 ml_X12_312 iv_X12_is (TX12s_k th) (cl_X12 rfl) rfl rfl (Nat.le_of_ble_eq_true rfl) (Nat.le_of_ble_eq_true rfl) (wB.mono (fun r1 mi2 ml3 F => ?_) F)
  exact r_B (pc := 11) dX12_hasSight_11 rfl F
/-- facts()I -/
theorem w_X12_facts {l : Launch} {d : Nat} {kd : pm_K} {mr : pm_R} {h : Nat}  {mi : pm_I} {ml : pm_L} {K : Int32 → pm_I → pm_L → Prop} (th : TX12s kd mr h)
    (F : vp_in (31 * (mi h 49)) 248 ∧ K (mi (h + 9) (Int32.toNatClampNeg (31 * (mi h 49)))) mi ml) :
    wI l M_X12_facts d [.ref h] kd mr mi ml K := by
  show wp l M_X12_facts d 0 0 0 [some (.ref h)] [] 0 0 kd mi ml mr _
  refine wp_aload_n (pc := 0) dX12_facts_0 rfl ?_
  refine wp_getR (pc := 1) dX12_facts_1 fl_X12_35 rfl (TX12s_k th) (TX12s_r9 th) ?_
  refine wp_bipush (v := 31) (pc := 4) dX12_facts_4 (by decide) ?_
  refine wp_aload_n (pc := 6) dX12_facts_6 rfl ?_
  refine wp_getI (pc := 7) dX12_facts_7 fl_X12_545 rfl (TX12s_k th) ?_
  refine wp_imul (pc := 10) dX12_facts_10 ?_
  refine wp_iald (pc := 11) dX12_facts_11 (TX12s_a9 th) F.1 ?_
  have F := F.2
  exact r_I (pc := 12) dX12_facts_12 rfl F
/-- factOf(II)I -/
theorem w_X12_factOf {l : Launch} {d : Nat} {kd : pm_K} {mr : pm_R} {h : Nat} {x1 : Int32} {x2 : Int32} {mi : pm_I} {ml : pm_L} {K : Int32 → pm_I → pm_L → Prop} (th : TX12s kd mr h)
    (F : vp_in ((((31 * (mi h 49)) + 1) + (3 * x1)) + x2) 248 ∧ K (mi (h + 9) (Int32.toNatClampNeg ((((31 * (mi h 49)) + 1) + (3 * x1)) + x2))) mi ml) :
    wI l M_X12_factOf d [.ref h, .int x1, .int x2] kd mr mi ml K := by
  show wp l M_X12_factOf d 0 0 0 [some (.ref h), some (.int x1), some (.int x2)] [] 0 0 kd mi ml mr _
  refine wp_aload_n (pc := 0) dX12_factOf_0 rfl ?_
  refine wp_getR (pc := 1) dX12_factOf_1 fl_X12_35 rfl (TX12s_k th) (TX12s_r9 th) ?_
  refine wp_bipush (v := 31) (pc := 4) dX12_factOf_4 (by decide) ?_
  refine wp_aload_n (pc := 6) dX12_factOf_6 rfl ?_
  refine wp_getI (pc := 7) dX12_factOf_7 fl_X12_545 rfl (TX12s_k th) ?_
  refine wp_imul (pc := 10) dX12_factOf_10 ?_
  refine wp_iconst (v := 1) (pc := 11) dX12_factOf_11 (by decide) ?_
  refine wp_iadd (pc := 12) dX12_factOf_12 ?_
  refine wp_iconst (v := 3) (pc := 13) dX12_factOf_13 (by decide) ?_
  refine wp_iload_n (pc := 14) dX12_factOf_14 rfl ?_
  refine wp_imul (pc := 15) dX12_factOf_15 ?_
  refine wp_iadd (pc := 16) dX12_factOf_16 ?_
  refine wp_iload_n (pc := 17) dX12_factOf_17 rfl ?_
  refine wp_iadd (pc := 18) dX12_factOf_18 ?_
  refine wp_iald (pc := 19) dX12_factOf_19 (TX12s_a9 th) F.1 ?_
  have F := F.2
  exact r_I (pc := 20) dX12_factOf_20 rfl F
def c_X12_seen_68 (l : Launch) (d : Nat) (kd : pm_K) (mr : pm_R) (h : Nat) (x3 : Int32) (x4 : Int32) (mi : pm_I) (ml : pm_L) (K : Int32 → pm_I → pm_L → Prop) : Prop := wp l M_X12_seen d 0 0 68 [some (.ref h), none, none, some (.int x3), some (.int x4)] [] 0 0 kd mi ml mr (qI kd mr K)
def c_X12_seen_29 (l : Launch) (d : Nat) (kd : pm_K) (mr : pm_R) (h : Nat) (x3 : Int32) (x4 : Int32) (mi : pm_I) (ml : pm_L) (K : Int32 → pm_I → pm_L → Prop) : Prop := wp l M_X12_seen d 0 0 29 [some (.ref h), none, none, some (.int x3), some (.int x4)] [] 0 0 kd mi ml mr (qI kd mr K)
theorem w_X12_seen_29 {l : Launch} {d : Nat} {kd : pm_K} {mr : pm_R} {h : Nat} {x3 : Int32} {x4 : Int32} {mi : pm_I} {ml : pm_L} {K : Int32 → pm_I → pm_L → Prop} (th : TX12s kd mr h)
    (F : wI l M_X12_everybody d [.ref h] kd mr mi ml (fun r8 mi9 ml10 => ((r8 < x4 → ((x3 < 10 → ((¬ x3 = 0 → wB l M_X12_in d [.int x3, .int 1, .int 2] kd mr mi9 ml10 (fun r14 mi15 ml16 => ((r14 = true → ((¬ (mi15 h 48) = 0 → ((¬ x3 = 1 → wI l M_X12_listen d [.ref h] kd mr mi15 ml16 (fun r20 mi21 ml22 => K r20 mi21 ml22)) ∧ (x3 = 1 → wI l M_X12_surely d [.ref h] kd mr mi15 ml16 (fun r23 mi24 ml25 => K r23 mi24 ml25)))) ∧ ((mi15 h 48) = 0 → K (-1) mi15 ml16))) ∧ (r14 = false → K (-2) mi15 ml16)))) ∧ (x3 = 0 → K (mi9 h 48) mi9 ml10))) ∧ (¬ x3 < 10 → (((mi9 h 48) ≤ (x3 - 10) → K (-2) mi9 ml10) ∧ (¬ (mi9 h 48) ≤ (x3 - 10) → vp_in (x3 - 10) 256 ∧ K (mi9 (h + 22) (Int32.toNatClampNeg (x3 - 10))) mi9 ml10))))) ∧ (¬ r8 < x4 → wB l M_X12_isSeen d [.ref h, .int x4] kd mr mi9 ml10 (fun r27 mi28 ml29 => ((r27 = false → c_X12_seen_68 l (d + 1) kd mr h x3 x4 mi28 ml29 K) ∧ (r27 = true → vp_in (mi28 h 48) 256 ∧ c_X12_seen_68 l (d + 1) kd mr h x3 x4 (pm_up (pm_up mi28 (h + 22) (Int32.toNatClampNeg (mi28 h 48)) x4) h 48 ((mi28 h 48) + 1)) ml29 K))))))) :
    c_X12_seen_29 l (d + 1) kd mr h x3 x4 mi ml K := by
  show wp l M_X12_seen (d + 1) 0 0 29 [some (.ref h), none, none, some (.int x3), some (.int x4)] [] 0 0 kd mi ml mr _
  refine wp_iload (pc := 29) dX12_seen_29 rfl ?_
  refine wp_aload_n (pc := 31) dX12_seen_31 rfl ?_
  refine cvI [] [.int x4] (pc := 32) dX12_seen_32 ml_X12_435 iv_X12_everybody (TX12s_k th) (cl_X12 rfl) rfl rfl (Nat.le_of_ble_eq_true rfl) (Nat.le_of_ble_eq_true rfl) (wI.mono (fun r8 mi9 ml10 F => ?_) F)
  refine wp_icmp_gt (tgt := 74) (pc := 35) dX12_seen_35 (by decide) (fun c11 => ?_) (fun c11 => ?_)
  · have F := F.1 c11
    refine wp_iload_n (pc := 74) dX12_seen_74 rfl ?_
    refine wp_bipush (v := 10) (pc := 75) dX12_seen_75 (by decide) ?_
    refine wp_icmp_lt (tgt := 106) (pc := 77) dX12_seen_77 (by decide) (fun c12 => ?_) (fun c12 => ?_)
    · have F := F.1 c12
      refine wp_iload_n (pc := 106) dX12_seen_106 rfl ?_
      refine wp_if_ne (tgt := 117) (pc := 107) dX12_seen_107 (by decide) (fun c13 => ?_) (fun c13 => ?_)
      · have F := F.1 c13
        refine wp_iload_n (pc := 117) dX12_seen_117 rfl ?_
        refine wp_iconst (v := 1) (pc := 118) dX12_seen_118 (by decide) ?_
        refine wp_iconst (v := 2) (pc := 119) dX12_seen_119 (by decide) ?_
        refine csB [.int x3, .int 1, .int 2] [] (pc := 120) dX12_seen_120 ml_X12_119 st_X12_in rfl rfl (Nat.le_of_ble_eq_true rfl) (Nat.le_of_ble_eq_true rfl) (wB.mono (fun r14 mi15 ml16 F => ?_) F)
        refine b_ne (tgt := 131) (pc := 123) dX12_seen_123 (by decide) (fun c17 => ?_) (fun c17 => ?_)
        · have F := F.1 c17
          refine wp_aload_n (pc := 131) dX12_seen_131 rfl ?_
          refine wp_getI (pc := 132) dX12_seen_132 fl_X12_523 rfl (TX12s_k th) ?_
          refine wp_if_ne (tgt := 142) (pc := 135) dX12_seen_135 (by decide) (fun c18 => ?_) (fun c18 => ?_)
          · have F := F.1 c18
            refine wp_iload_n (pc := 142) dX12_seen_142 rfl ?_
            refine wp_iconst (v := 1) (pc := 143) dX12_seen_143 (by decide) ?_
            refine wp_icmp_ne (tgt := 154) (pc := 144) dX12_seen_144 (by decide) (fun c19 => ?_) (fun c19 => ?_)
            · have F := F.1 c19
              refine wp_aload_n (pc := 154) dX12_seen_154 rfl ?_
              refine cvI [] [] (pc := 155) dX12_seen_155 ml_X12_566 iv_X12_listen (TX12s_k th) (cl_X12 rfl) rfl rfl (Nat.le_of_ble_eq_true rfl) (Nat.le_of_ble_eq_true rfl) (wI.mono (fun r20 mi21 ml22 F => ?_) F)
              exact r_I (pc := 158) dX12_seen_158 rfl F
            · have F := F.2 c19
              refine wp_aload_n (pc := 147) dX12_seen_147 rfl ?_
              refine cvI [] [] (pc := 148) dX12_seen_148 ml_X12_563 iv_X12_surely (TX12s_k th) (cl_X12 rfl) rfl rfl (Nat.le_of_ble_eq_true rfl) (Nat.le_of_ble_eq_true rfl) (wI.mono (fun r23 mi24 ml25 F => ?_) F)
              refine wp_goto (tgt := 158) (pc := 151) dX12_seen_151 (by decide) ?_
              exact r_I (pc := 158) dX12_seen_158 rfl F
          · have F := F.2 c18
            refine wp_iconst (v := -1) (pc := 138) dX12_seen_138 (by decide) ?_
            refine wp_goto (tgt := 158) (pc := 139) dX12_seen_139 (by decide) ?_
            exact r_I (pc := 158) dX12_seen_158 rfl F
        · have F := F.2 c17
          refine wp_bipush (v := -2) (pc := 126) dX12_seen_126 (by decide) ?_
          refine wp_goto (tgt := 158) (pc := 128) dX12_seen_128 (by decide) ?_
          exact r_I (pc := 158) dX12_seen_158 rfl F
      · have F := F.2 c13
        refine wp_aload_n (pc := 110) dX12_seen_110 rfl ?_
        refine wp_getI (pc := 111) dX12_seen_111 fl_X12_523 rfl (TX12s_k th) ?_
        refine wp_goto (tgt := 158) (pc := 114) dX12_seen_114 (by decide) ?_
        exact r_I (pc := 158) dX12_seen_158 rfl F
    · have F := F.2 c12
      refine wp_iload_n (pc := 80) dX12_seen_80 rfl ?_
      refine wp_bipush (v := 10) (pc := 81) dX12_seen_81 (by decide) ?_
      refine wp_isub (pc := 83) dX12_seen_83 ?_
      refine wp_aload_n (pc := 84) dX12_seen_84 rfl ?_
      refine wp_getI (pc := 85) dX12_seen_85 fl_X12_523 rfl (TX12s_k th) ?_
      refine wp_icmp_ge (tgt := 103) (pc := 88) dX12_seen_88 (by decide) (fun c26 => ?_) (fun c26 => ?_)
      · have F := F.1 c26
        refine wp_bipush (v := -2) (pc := 103) dX12_seen_103 (by decide) ?_
        exact r_I (pc := 105) dX12_seen_105 rfl F
      · have F := F.2 c26
        refine wp_aload_n (pc := 91) dX12_seen_91 rfl ?_
        refine wp_getR (pc := 92) dX12_seen_92 fl_X12_76 rfl (TX12s_k th) (TX12s_r47 th) ?_
        refine wp_iload_n (pc := 95) dX12_seen_95 rfl ?_
        refine wp_bipush (v := 10) (pc := 96) dX12_seen_96 (by decide) ?_
        refine wp_isub (pc := 98) dX12_seen_98 ?_
        refine wp_iald (pc := 99) dX12_seen_99 (TX12s_a47 th) F.1 ?_
        have F := F.2
        refine wp_goto (tgt := 105) (pc := 100) dX12_seen_100 (by decide) ?_
        exact r_I (pc := 105) dX12_seen_105 rfl F
  · have F := F.2 c11
    refine wp_aload_n (pc := 38) dX12_seen_38 rfl ?_
    refine wp_iload (pc := 39) dX12_seen_39 rfl ?_
    refine cvB [.int x4] [] (pc := 41) dX12_seen_41 ml_X12_560 iv_X12_isSeen (TX12s_k th) (cl_X12 rfl) rfl rfl (Nat.le_of_ble_eq_true rfl) (Nat.le_of_ble_eq_true rfl) (wB.mono (fun r27 mi28 ml29 F => ?_) F)
    refine b_eq (tgt := 68) (pc := 44) dX12_seen_44 (by decide) (fun c30 => ?_) (fun c30 => ?_)
    · have F := F.1 c30
      exact wp_less (L' := [some (.ref h), none, none, some (.int x3), some (.int x4)]) ⟨rfl, ⟨rfl, ⟨rfl, trivial⟩⟩⟩ F
    · have F := F.2 c30
      refine wp_aload_n (pc := 47) dX12_seen_47 rfl ?_
      refine wp_getR (pc := 48) dX12_seen_48 fl_X12_76 rfl (TX12s_k th) (TX12s_r47 th) ?_
      refine wp_aload_n (pc := 51) dX12_seen_51 rfl ?_
      refine wp_getI (pc := 52) dX12_seen_52 fl_X12_523 rfl (TX12s_k th) ?_
      refine wp_iload (pc := 55) dX12_seen_55 rfl ?_
      refine wp_iast (pc := 57) dX12_seen_57 (TX12s_a47 th) F.1 ?_
      have F := F.2
      refine wp_aload_n (pc := 58) dX12_seen_58 rfl ?_
      refine wp_dup (pc := 59) dX12_seen_59 rfl ?_
      refine wp_getI (pc := 60) dX12_seen_60 fl_X12_523 rfl (TX12s_k th) ?_
      refine t_I (show ((pm_up mi28 (h + 22) (Int32.toNatClampNeg (mi28 h 48)) x4) h 48) = (mi28 h 48) from pm_up_k _ _ (by omega)) ?_
      refine wp_iconst (v := 1) (pc := 63) dX12_seen_63 (by decide) ?_
      refine wp_iadd (pc := 64) dX12_seen_64 ?_
      refine wp_putI (pc := 65) dX12_seen_65 fl_X12_523 rfl rfl (TX12s_k th) ?_
      exact wp_less (L' := [some (.ref h), none, none, some (.int x3), some (.int x4)]) ⟨rfl, ⟨rfl, ⟨rfl, trivial⟩⟩⟩ F
theorem w_X12_seen_68 {l : Launch} {d : Nat} {kd : pm_K} {mr : pm_R} {h : Nat} {x3 : Int32} {x4 : Int32} {mi : pm_I} {ml : pm_L} {K : Int32 → pm_I → pm_L → Prop} (th : TX12s kd mr h)
    (F : c_X12_seen_29 l (d + 1) kd mr h x3 (x4 + 1) mi ml K) :
    c_X12_seen_68 l (d + 1) kd mr h x3 x4 mi ml K := by
  show wp l M_X12_seen (d + 1) 0 0 68 [some (.ref h), none, none, some (.int x3), some (.int x4)] [] 0 0 kd mi ml mr _
  refine wp_iinc (v := (x4 + 1)) (pc := 68) dX12_seen_68 rfl rfl rfl ?_
  show wp l M_X12_seen (d + 1) 0 0 _ [some (.ref h), none, none, some (.int x3), some (.int (x4 + 1))] _ 0 0 kd _ _ mr _
  refine wp_goto (tgt := 29) (pc := 71) dX12_seen_71 (by decide) ?_
  exact wp_less (L' := [some (.ref h), none, none, some (.int x3), some (.int (x4 + 1))]) ⟨rfl, ⟨rfl, ⟨rfl, trivial⟩⟩⟩ F
/-- seen(III)I -/
theorem w_X12_seen {l : Launch} {d : Nat} {kd : pm_K} {mr : pm_R} {h : Nat} {x1 : Int32} {x2 : Int32} {x3 : Int32} {mi : pm_I} {ml : pm_L} {K : Int32 → pm_I → pm_L → Prop} (th : TX12s kd mr h)
    (F : wB l M_X12_laySight d [.ref h, .int x1, .int x2] kd mr (pm_up mi h 0 0) ml (fun r1 mi2 ml3 => ((r1 = true → wV l M_X12_findHeard d [.ref h] kd mr mi2 ml3 (fun mi6 ml7 => c_X12_seen_29 l (d + 1) kd mr h x3 0 (pm_up mi6 h 48 0) ml7 K)) ∧ (r1 = false → K (-2) mi2 ml3)))) :
    wI l M_X12_seen (d + 1) [.ref h, .int x1, .int x2, .int x3] kd mr mi ml K := by
  show wp l M_X12_seen (d + 1) 0 0 0 [some (.ref h), some (.int x1), some (.int x2), some (.int x3), none] [] 0 0 kd mi ml mr _
  refine wp_aload_n (pc := 0) dX12_seen_0 rfl ?_
  refine wp_iconst (v := 0) (pc := 1) dX12_seen_1 (by decide) ?_
  refine wp_putI (pc := 2) dX12_seen_2 fl_X12_107 rfl rfl (TX12s_k th) ?_
  refine wp_aload_n (pc := 5) dX12_seen_5 rfl ?_
  refine wp_iload_n (pc := 6) dX12_seen_6 rfl ?_
  refine wp_iload_n (pc := 7) dX12_seen_7 rfl ?_
  refine cvB [.int x1, .int x2] [] (pc := 8) dX12_seen_8 ml_X12_557 iv_X12_laySight (TX12s_k th) (cl_X12 rfl) rfl rfl (Nat.le_of_ble_eq_true rfl) (Nat.le_of_ble_eq_true rfl) (wB.mono (fun r1 mi2 ml3 F => ?_) F)
  refine b_ne (tgt := 17) (pc := 11) dX12_seen_11 (by decide) (fun c4 => ?_) (fun c4 => ?_)
  · have F := F.1 c4
    refine wp_aload_n (pc := 17) dX12_seen_17 rfl ?_
    refine cvV [] [] (pc := 18) dX12_seen_18 ml_X12_432 iv_X12_findHeard (TX12s_k th) (cl_X12 rfl) rfl rfl (Nat.le_of_ble_eq_true rfl) (Nat.le_of_ble_eq_true rfl) (wV.mono (fun mi6 ml7 F => ?_) F)
    refine wp_aload_n (pc := 21) dX12_seen_21 rfl ?_
    refine wp_iconst (v := 0) (pc := 22) dX12_seen_22 (by decide) ?_
    refine wp_putI (pc := 23) dX12_seen_23 fl_X12_523 rfl rfl (TX12s_k th) ?_
    refine wp_iconst (v := 0) (pc := 26) dX12_seen_26 (by decide) ?_
    refine wp_istore (pc := 27) dX12_seen_27 (Nat.le_of_ble_eq_true rfl) rfl ?_
    show wp l M_X12_seen (d + 1) 0 0 _ [some (.ref h), some (.int x1), some (.int x2), some (.int x3), some (.int 0)] _ 0 0 kd _ _ mr _
    exact wp_less (L' := [some (.ref h), none, none, some (.int x3), some (.int 0)]) ⟨rfl, ⟨rfl, ⟨rfl, trivial⟩⟩⟩ F
  · have F := F.2 c4
    refine wp_bipush (v := -2) (pc := 14) dX12_seen_14 (by decide) ?_
    exact r_I (pc := 16) dX12_seen_16 rfl F
def c_X12_laySight_20 (l : Launch) (d : Nat) (kd : pm_K) (mr : pm_R) (h : Nat) (x3 : Int32) (mi : pm_I) (ml : pm_L) (K : Bool → pm_I → pm_L → Prop) : Prop := wp l M_X12_laySight d 0 0 20 [some (.ref h), none, none, some (.int x3)] [] 0 0 kd mi ml mr (qB kd mr K)
theorem w_X12_laySight_20 {l : Launch} {d : Nat} {kd : pm_K} {mr : pm_R} {h : Nat} {x3 : Int32} {mi : pm_I} {ml : pm_L} {K : Bool → pm_I → pm_L → Prop} (th : TX12s kd mr h)
    (F : wI l M_X12_facts d [.ref h] kd mr mi ml (fun r9 mi10 ml11 => ((r9 ≤ x3 → K true mi10 ml11) ∧ (¬ r9 ≤ x3 → wI l M_X12_factOf d [.ref h, .int x3, .int 1] kd mr mi10 ml11 (fun r13 mi14 ml15 => (((mi14 h 26) ≤ r13 → K false mi14 ml15) ∧ (¬ (mi14 h 26) ≤ r13 → wI l M_X12_factOf d [.ref h, .int x3, .int 2] kd mr mi14 ml15 (fun r17 mi18 ml19 => ((((mi14 h 26) * r17) < (mi18 h 27) → c_X12_laySight_20 l (d + 1) kd mr h (x3 + 1) mi18 ml19 K) ∧ (¬ ((mi14 h 26) * r17) < (mi18 h 27) → K false mi18 ml19)))))))))) :
    c_X12_laySight_20 l (d + 1) kd mr h x3 mi ml K := by
  show wp l M_X12_laySight (d + 1) 0 0 20 [some (.ref h), none, none, some (.int x3)] [] 0 0 kd mi ml mr _
  refine wp_iload_n (pc := 20) dX12_laySight_20 rfl ?_
  refine wp_aload_n (pc := 21) dX12_laySight_21 rfl ?_
  refine cvI [] [.int x3] (pc := 22) dX12_laySight_22 ml_X12_551 iv_X12_facts (TX12s_k th) (cl_X12 rfl) rfl rfl (Nat.le_of_ble_eq_true rfl) (Nat.le_of_ble_eq_true rfl) (wI.mono (fun r9 mi10 ml11 F => ?_) F)
  refine wp_icmp_ge (tgt := 67) (pc := 25) dX12_laySight_25 (by decide) (fun c12 => ?_) (fun c12 => ?_)
  · have F := F.1 c12
    refine wp_iconst (v := 1) (pc := 67) dX12_laySight_67 (by decide) ?_
    exact r_Bx (pc := 68) dX12_laySight_68 rfl rfl F
  · have F := F.2 c12
    refine wp_aload_n (pc := 28) dX12_laySight_28 rfl ?_
    refine wp_iload_n (pc := 29) dX12_laySight_29 rfl ?_
    refine wp_iconst (v := 1) (pc := 30) dX12_laySight_30 (by decide) ?_
    refine cvI [.int x3, .int 1] [] (pc := 31) dX12_laySight_31 ml_X12_554 iv_X12_factOf (TX12s_k th) (cl_X12 rfl) rfl rfl (Nat.le_of_ble_eq_true rfl) (Nat.le_of_ble_eq_true rfl) (wI.mono (fun r13 mi14 ml15 F => ?_) F)
    refine wp_aload_n (pc := 34) dX12_laySight_34 rfl ?_
    refine wp_getI (pc := 35) dX12_laySight_35 fl_X12_328 rfl (TX12s_k th) ?_
    refine wp_icmp_ge (tgt := 59) (pc := 38) dX12_laySight_38 (by decide) (fun c16 => ?_) (fun c16 => ?_)
    · have F := F.1 c16
      refine wp_iconst (v := 0) (pc := 59) dX12_laySight_59 (by decide) ?_
      exact r_Bx (pc := 60) dX12_laySight_60 rfl rfl F
    · have F := F.2 c16
      refine wp_aload_n (pc := 41) dX12_laySight_41 rfl ?_
      refine wp_getI (pc := 42) dX12_laySight_42 fl_X12_328 rfl (TX12s_k th) ?_
      refine wp_aload_n (pc := 45) dX12_laySight_45 rfl ?_
      refine wp_iload_n (pc := 46) dX12_laySight_46 rfl ?_
      refine wp_iconst (v := 2) (pc := 47) dX12_laySight_47 (by decide) ?_
      refine cvI [.int x3, .int 2] [.int (mi14 h 26)] (pc := 48) dX12_laySight_48 ml_X12_554 iv_X12_factOf (TX12s_k th) (cl_X12 rfl) rfl rfl (Nat.le_of_ble_eq_true rfl) (Nat.le_of_ble_eq_true rfl) (wI.mono (fun r17 mi18 ml19 F => ?_) F)
      refine wp_imul (pc := 51) dX12_laySight_51 ?_
      refine wp_aload_n (pc := 52) dX12_laySight_52 rfl ?_
      refine wp_getI (pc := 53) dX12_laySight_53 fl_X12_331 rfl (TX12s_k th) ?_
      refine wp_icmp_lt (tgt := 61) (pc := 56) dX12_laySight_56 (by decide) (fun c20 => ?_) (fun c20 => ?_)
      · have F := F.1 c20
        refine wp_iinc (v := (x3 + 1)) (pc := 61) dX12_laySight_61 rfl rfl rfl ?_
        show wp l M_X12_laySight (d + 1) 0 0 _ [some (.ref h), none, none, some (.int (x3 + 1))] _ 0 0 kd _ _ mr _
        refine wp_goto (tgt := 20) (pc := 64) dX12_laySight_64 (by decide) ?_
        exact wp_less (L' := [some (.ref h), none, none, some (.int (x3 + 1))]) ⟨rfl, ⟨rfl, trivial⟩⟩ F
      · have F := F.2 c20
        refine wp_iconst (v := 0) (pc := 59) dX12_laySight_59 (by decide) ?_
        exact r_Bx (pc := 60) dX12_laySight_60 rfl rfl F
/-- laySight(II)Z -/
theorem w_X12_laySight {l : Launch} {d : Nat} {kd : pm_K} {mr : pm_R} {h : Nat} {x1 : Int32} {x2 : Int32} {mi : pm_I} {ml : pm_L} {K : Bool → pm_I → pm_L → Prop} (th : TX12s kd mr h)
    (F : wB l M_X12_hasSight d [.ref h, .int x2] kd mr mi ml (fun r1 mi2 ml3 => ((r1 = false → K false mi2 ml3) ∧ (r1 = true → wB l M_X12_hand d [.ref h, .int x1] kd mr mi2 ml3 (fun r5 mi6 ml7 => ((r5 = true → c_X12_laySight_20 l (d + 1) kd mr h 0 mi6 ml7 K) ∧ (r5 = false → K false mi6 ml7))))))) :
    wB l M_X12_laySight (d + 1) [.ref h, .int x1, .int x2] kd mr mi ml K := by
  show wp l M_X12_laySight (d + 1) 0 0 0 [some (.ref h), some (.int x1), some (.int x2), none] [] 0 0 kd mi ml mr _
  refine wp_aload_n (pc := 0) dX12_laySight_0 rfl ?_
  refine wp_iload_n (pc := 1) dX12_laySight_1 rfl ?_
  refine cvB [.int x2] [] (pc := 2) dX12_laySight_2 ml_X12_548 iv_X12_hasSight (TX12s_k th) (cl_X12 rfl) rfl rfl (Nat.le_of_ble_eq_true rfl) (Nat.le_of_ble_eq_true rfl) (wB.mono (fun r1 mi2 ml3 F => ?_) F)
  refine b_eq (tgt := 16) (pc := 5) dX12_laySight_5 (by decide) (fun c4 => ?_) (fun c4 => ?_)
  · have F := F.1 c4
    refine wp_iconst (v := 0) (pc := 16) dX12_laySight_16 (by decide) ?_
    exact r_Bx (pc := 17) dX12_laySight_17 rfl rfl F
  · have F := F.2 c4
    refine wp_aload_n (pc := 8) dX12_laySight_8 rfl ?_
    refine wp_iload_n (pc := 9) dX12_laySight_9 rfl ?_
    refine cvB [.int x1] [] (pc := 10) dX12_laySight_10 ml_X12_346 iv_X12_hand (TX12s_k th) (cl_X12 rfl) rfl rfl (Nat.le_of_ble_eq_true rfl) (Nat.le_of_ble_eq_true rfl) (wB.mono (fun r5 mi6 ml7 F => ?_) F)
    refine b_ne (tgt := 18) (pc := 13) dX12_laySight_13 (by decide) (fun c8 => ?_) (fun c8 => ?_)
    · have F := F.1 c8
      refine wp_iconst (v := 0) (pc := 18) dX12_laySight_18 (by decide) ?_
      refine wp_istore_n (pc := 19) dX12_laySight_19 (Nat.le_of_ble_eq_true rfl) rfl ?_
      show wp l M_X12_laySight (d + 1) 0 0 _ [some (.ref h), some (.int x1), some (.int x2), some (.int 0)] _ 0 0 kd _ _ mr _
      exact wp_less (L' := [some (.ref h), none, none, some (.int 0)]) ⟨rfl, ⟨rfl, trivial⟩⟩ F
    · have F := F.2 c8
      refine wp_iconst (v := 0) (pc := 16) dX12_laySight_16 (by decide) ?_
      exact r_Bx (pc := 17) dX12_laySight_17 rfl rfl F
def c_X12_isSeen_2 (l : Launch) (d : Nat) (kd : pm_K) (mr : pm_R) (h : Nat) (x1 : Int32) (x2 : Int32) (mi : pm_I) (ml : pm_L) (K : Bool → pm_I → pm_L → Prop) : Prop := wp l M_X12_isSeen d 0 0 2 [some (.ref h), some (.int x1), some (.int x2)] [] 0 0 kd mi ml mr (qB kd mr K)
theorem w_X12_isSeen_2 {l : Launch} {d : Nat} {kd : pm_K} {mr : pm_R} {h : Nat} {x1 : Int32} {x2 : Int32} {mi : pm_I} {ml : pm_L} {K : Bool → pm_I → pm_L → Prop} (th : TX12s kd mr h)
    (F : wI l M_X12_facts d [.ref h] kd mr mi ml (fun r1 mi2 ml3 => ((r1 ≤ x2 → K true mi2 ml3) ∧ (¬ r1 ≤ x2 → wL l M_X12_heardBy d [.ref h, .int x1] kd mr mi2 ml3 (fun r5 mi6 ml7 => wI l M_X12_factOf d [.ref h, .int x2, .int 2] kd mr mi6 ml7 (fun r8 mi9 ml10 => wI l M_X12_factOf d [.ref h, .int x2, .int 1] kd mr mi9 ml10 (fun r11 mi12 ml13 => wB l M_X12_isIn d [.long r5, .int (((mi6 h 26) * r8) + r11)] kd mr mi12 ml13 (fun r14 mi15 ml16 => wI l M_X12_factOf d [.ref h, .int x2, .int 0] kd mr mi15 ml16 (fun r17 mi18 ml19 => (((b2i r14) = (b2i (decide (r17 = 1))) → c_X12_isSeen_2 l (d + 1) kd mr h x1 (x2 + 1) mi18 ml19 K) ∧ (¬ (b2i r14) = (b2i (decide (r17 = 1))) → K false mi18 ml19))))))))))) :
    c_X12_isSeen_2 l (d + 1) kd mr h x1 x2 mi ml K := by
  show wp l M_X12_isSeen (d + 1) 0 0 2 [some (.ref h), some (.int x1), some (.int x2)] [] 0 0 kd mi ml mr _
  refine wp_iload_n (pc := 2) dX12_isSeen_2 rfl ?_
  refine wp_aload_n (pc := 3) dX12_isSeen_3 rfl ?_
  refine cvI [] [.int x2] (pc := 4) dX12_isSeen_4 ml_X12_551 iv_X12_facts (TX12s_k th) (cl_X12 rfl) rfl rfl (Nat.le_of_ble_eq_true rfl) (Nat.le_of_ble_eq_true rfl) (wI.mono (fun r1 mi2 ml3 F => ?_) F)
  refine wp_icmp_ge (tgt := 62) (pc := 7) dX12_isSeen_7 (by decide) (fun c4 => ?_) (fun c4 => ?_)
  · have F := F.1 c4
    refine wp_iconst (v := 1) (pc := 62) dX12_isSeen_62 (by decide) ?_
    exact r_Bx (pc := 63) dX12_isSeen_63 rfl rfl F
  · have F := F.2 c4
    refine wp_aload_n (pc := 10) dX12_isSeen_10 rfl ?_
    refine wp_iload_n (pc := 11) dX12_isSeen_11 rfl ?_
    refine cvL [.int x1] [] (pc := 12) dX12_isSeen_12 ml_X12_438 iv_X12_heardBy (TX12s_k th) (cl_X12 rfl) rfl rfl (Nat.le_of_ble_eq_true rfl) (Nat.le_of_ble_eq_true rfl) (wL.mono (fun r5 mi6 ml7 F => ?_) F)
    refine wp_aload_n (pc := 15) dX12_isSeen_15 rfl ?_
    refine wp_getI (pc := 16) dX12_isSeen_16 fl_X12_328 rfl (TX12s_k th) ?_
    refine wp_aload_n (pc := 19) dX12_isSeen_19 rfl ?_
    refine wp_iload_n (pc := 20) dX12_isSeen_20 rfl ?_
    refine wp_iconst (v := 2) (pc := 21) dX12_isSeen_21 (by decide) ?_
    refine cvI [.int x2, .int 2] [.int (mi6 h 26), .long r5] (pc := 22) dX12_isSeen_22 ml_X12_554 iv_X12_factOf (TX12s_k th) (cl_X12 rfl) rfl rfl (Nat.le_of_ble_eq_true rfl) (Nat.le_of_ble_eq_true rfl) (wI.mono (fun r8 mi9 ml10 F => ?_) F)
    refine wp_imul (pc := 25) dX12_isSeen_25 ?_
    refine wp_aload_n (pc := 26) dX12_isSeen_26 rfl ?_
    refine wp_iload_n (pc := 27) dX12_isSeen_27 rfl ?_
    refine wp_iconst (v := 1) (pc := 28) dX12_isSeen_28 (by decide) ?_
    refine cvI [.int x2, .int 1] [.int ((mi6 h 26) * r8), .long r5] (pc := 29) dX12_isSeen_29 ml_X12_554 iv_X12_factOf (TX12s_k th) (cl_X12 rfl) rfl rfl (Nat.le_of_ble_eq_true rfl) (Nat.le_of_ble_eq_true rfl) (wI.mono (fun r11 mi12 ml13 F => ?_) F)
    refine wp_iadd (pc := 32) dX12_isSeen_32 ?_
    refine csB [.long r5, .int (((mi6 h 26) * r8) + r11)] [] (pc := 33) dX12_isSeen_33 ml_X12_462 st_X12_isIn rfl rfl (Nat.le_of_ble_eq_true rfl) (Nat.le_of_ble_eq_true rfl) (wB.mono (fun r14 mi15 ml16 F => ?_) F)
    refine wp_aload_n (pc := 36) dX12_isSeen_36 rfl ?_
    refine wp_iload_n (pc := 37) dX12_isSeen_37 rfl ?_
    refine wp_iconst (v := 0) (pc := 38) dX12_isSeen_38 (by decide) ?_
    refine cvI [.int x2, .int 0] [.int (b2i r14)] (pc := 39) dX12_isSeen_39 ml_X12_554 iv_X12_factOf (TX12s_k th) (cl_X12 rfl) rfl rfl (Nat.le_of_ble_eq_true rfl) (Nat.le_of_ble_eq_true rfl) (wI.mono (fun r17 mi18 ml19 F => ?_) F)
    refine wp_iconst (v := 1) (pc := 42) dX12_isSeen_42 (by decide) ?_
    suffices J20 : ∀ v21 : Int32, v21 = (b2i (decide (r17 = 1))) → wp l M_X12_isSeen (d + 1) 0 0 51 [some (.ref h), some (.int x1), some (.int x2)] [.int v21, .int (b2i r14)] 0 0 kd mi18 ml19 mr _ by
        refine wp_icmp_ne (tgt := 50) (pc := 43) dX12_isSeen_43 (by decide) (fun c22 => ?_) (fun c22 => ?_)
        · refine wp_iconst (v := 0) (pc := 50) dX12_isSeen_50 (by decide) ?_
          exact J20 _ (by simp only [c22, if_true, if_false, decide_true, decide_false, Bool.not_true, Bool.not_false, Bool.true_and, Bool.false_and, Bool.true_or, Bool.false_or, b2i_t, b2i_f, ite_true, ite_false, not_true_eq_false, not_false_eq_true, reduceCtorEq, decide_eq_true_eq])
        · refine wp_iconst (v := 1) (pc := 46) dX12_isSeen_46 (by decide) ?_
          refine wp_goto (tgt := 51) (pc := 47) dX12_isSeen_47 (by decide) ?_
          exact J20 _ (by simp only [eq_true c22, if_true, if_false, decide_true, decide_false, Bool.not_true, Bool.not_false, Bool.true_and, Bool.false_and, Bool.true_or, Bool.false_or, b2i_t, b2i_f, ite_true, ite_false, not_true_eq_false, not_false_eq_true, reduceCtorEq, decide_eq_true_eq])
    intro v21 ev21
    subst ev21
    refine wp_icmp_eq (tgt := 56) (pc := 51) dX12_isSeen_51 (by decide) (fun c23 => ?_) (fun c23 => ?_)
    · have F := F.1 c23
      refine wp_iinc (v := (x2 + 1)) (pc := 56) dX12_isSeen_56 rfl rfl rfl ?_
      show wp l M_X12_isSeen (d + 1) 0 0 _ [some (.ref h), some (.int x1), some (.int (x2 + 1))] _ 0 0 kd _ _ mr _
      refine wp_goto (tgt := 2) (pc := 59) dX12_isSeen_59 (by decide) ?_
      exact wp_less (L' := [some (.ref h), some (.int x1), some (.int (x2 + 1))]) ⟨rfl, ⟨rfl, ⟨rfl, trivial⟩⟩⟩ F
    · have F := F.2 c23
      refine wp_iconst (v := 0) (pc := 54) dX12_isSeen_54 (by decide) ?_
      exact r_Bx (pc := 55) dX12_isSeen_55 rfl rfl F
/-- isSeen(I)Z -/
theorem w_X12_isSeen {l : Launch} {d : Nat} {kd : pm_K} {mr : pm_R} {h : Nat} {x1 : Int32} {mi : pm_I} {ml : pm_L} {K : Bool → pm_I → pm_L → Prop} (th : TX12s kd mr h)
    (F : c_X12_isSeen_2 l (d + 1) kd mr h x1 0 mi ml K) :
    wB l M_X12_isSeen (d + 1) [.ref h, .int x1] kd mr mi ml K := by
  show wp l M_X12_isSeen (d + 1) 0 0 0 [some (.ref h), some (.int x1), none] [] 0 0 kd mi ml mr _
  refine wp_iconst (v := 0) (pc := 0) dX12_isSeen_0 (by decide) ?_
  refine wp_istore_n (pc := 1) dX12_isSeen_1 (Nat.le_of_ble_eq_true rfl) rfl ?_
  show wp l M_X12_isSeen (d + 1) 0 0 _ [some (.ref h), some (.int x1), some (.int 0)] _ 0 0 kd _ _ mr _
  exact wp_less (L' := [some (.ref h), some (.int x1), some (.int 0)]) ⟨rfl, ⟨rfl, ⟨rfl, trivial⟩⟩⟩ F
def c_X12_surely_7 (l : Launch) (d : Nat) (kd : pm_K) (mr : pm_R) (h : Nat) (x1 : Int32) (x2 : Int32) (mi : pm_I) (ml : pm_L) (K : Int32 → pm_I → pm_L → Prop) : Prop := wp l M_X12_surely d 0 0 7 [some (.ref h), some (.int x1), some (.int x2)] [] 0 0 kd mi ml mr (qI kd mr K)
theorem w_X12_surely_7 {l : Launch} {d : Nat} {kd : pm_K} {mr : pm_R} {h : Nat} {x1 : Int32} {x2 : Int32} {mi : pm_I} {ml : pm_L} {K : Int32 → pm_I → pm_L → Prop} (th : TX12s kd mr h)
    (F : (((mi h 48) ≤ x2 → K x1 mi ml) ∧ (¬ (mi h 48) ≤ x2 → vp_in x2 256 ∧ c_X12_surely_7 l (d + 1) kd mr h (x1 &&& (mi (h + 22) (Int32.toNatClampNeg x2))) (x2 + 1) mi ml K))) :
    c_X12_surely_7 l (d + 1) kd mr h x1 x2 mi ml K := by
  show wp l M_X12_surely (d + 1) 0 0 7 [some (.ref h), some (.int x1), some (.int x2)] [] 0 0 kd mi ml mr _
  refine wp_iload_n (pc := 7) dX12_surely_7 rfl ?_
  refine wp_aload_n (pc := 8) dX12_surely_8 rfl ?_
  refine wp_getI (pc := 9) dX12_surely_9 fl_X12_523 rfl (TX12s_k th) ?_
  refine wp_icmp_ge (tgt := 30) (pc := 12) dX12_surely_12 (by decide) (fun c4 => ?_) (fun c4 => ?_)
  · have F := F.1 c4
    refine wp_iload_n (pc := 30) dX12_surely_30 rfl ?_
    exact r_I (pc := 31) dX12_surely_31 rfl F
  · have F := F.2 c4
    refine wp_iload_n (pc := 15) dX12_surely_15 rfl ?_
    refine wp_aload_n (pc := 16) dX12_surely_16 rfl ?_
    refine wp_getR (pc := 17) dX12_surely_17 fl_X12_76 rfl (TX12s_k th) (TX12s_r47 th) ?_
    refine wp_iload_n (pc := 20) dX12_surely_20 rfl ?_
    refine wp_iald (pc := 21) dX12_surely_21 (TX12s_a47 th) F.1 ?_
    have F := F.2
    refine wp_iand (pc := 22) dX12_surely_22 ?_
    refine wp_istore_n (pc := 23) dX12_surely_23 (Nat.le_of_ble_eq_true rfl) rfl ?_
    show wp l M_X12_surely (d + 1) 0 0 _ [some (.ref h), some (.int (x1 &&& (mi (h + 22) (Int32.toNatClampNeg x2)))), some (.int x2)] _ 0 0 kd _ _ mr _
    refine wp_iinc (v := (x2 + 1)) (pc := 24) dX12_surely_24 rfl rfl rfl ?_
    show wp l M_X12_surely (d + 1) 0 0 _ [some (.ref h), some (.int (x1 &&& (mi (h + 22) (Int32.toNatClampNeg x2)))), some (.int (x2 + 1))] _ 0 0 kd _ _ mr _
    refine wp_goto (tgt := 7) (pc := 27) dX12_surely_27 (by decide) ?_
    exact wp_less (L' := [some (.ref h), some (.int (x1 &&& (mi (h + 22) (Int32.toNatClampNeg x2)))), some (.int (x2 + 1))]) ⟨rfl, ⟨rfl, ⟨rfl, trivial⟩⟩⟩ F
/-- surely()I -/
theorem w_X12_surely {l : Launch} {d : Nat} {kd : pm_K} {mr : pm_R} {h : Nat}  {mi : pm_I} {ml : pm_L} {K : Int32 → pm_I → pm_L → Prop} (th : TX12s kd mr h)
    (F : wI l M_X12_everybody d [.ref h] kd mr mi ml (fun r1 mi2 ml3 => c_X12_surely_7 l (d + 1) kd mr h r1 0 mi2 ml3 K)) :
    wI l M_X12_surely (d + 1) [.ref h] kd mr mi ml K := by
  show wp l M_X12_surely (d + 1) 0 0 0 [some (.ref h), none, none] [] 0 0 kd mi ml mr _
  refine wp_aload_n (pc := 0) dX12_surely_0 rfl ?_
  refine cvI [] [] (pc := 1) dX12_surely_1 ml_X12_435 iv_X12_everybody (TX12s_k th) (cl_X12 rfl) rfl rfl (Nat.le_of_ble_eq_true rfl) (Nat.le_of_ble_eq_true rfl) (wI.mono (fun r1 mi2 ml3 F => ?_) F)
  refine wp_istore_n (pc := 4) dX12_surely_4 (Nat.le_of_ble_eq_true rfl) rfl ?_
  show wp l M_X12_surely (d + 1) 0 0 _ [some (.ref h), some (.int r1), none] _ 0 0 kd _ _ mr _
  refine wp_iconst (v := 0) (pc := 5) dX12_surely_5 (by decide) ?_
  refine wp_istore_n (pc := 6) dX12_surely_6 (Nat.le_of_ble_eq_true rfl) rfl ?_
  show wp l M_X12_surely (d + 1) 0 0 _ [some (.ref h), some (.int r1), some (.int 0)] _ 0 0 kd _ _ mr _
  exact wp_less (L' := [some (.ref h), some (.int r1), some (.int 0)]) ⟨rfl, ⟨rfl, ⟨rfl, trivial⟩⟩⟩ F
def c_X12_listen_22 (l : Launch) (d : Nat) (kd : pm_K) (mr : pm_R) (h : Nat) (x1 : Int32) (x2 : Int32) (x3 : Int32) (x4 : Int32) (x5 : Int32) (mi : pm_I) (ml : pm_L) (K : Int32 → pm_I → pm_L → Prop) : Prop := wp l M_X12_listen d 0 0 22 [some (.ref h), some (.int x1), some (.int x2), some (.int x3), some (.int x4), some (.int x5)] [] 0 0 kd mi ml mr (qI kd mr K)
def c_X12_listen_8 (l : Launch) (d : Nat) (kd : pm_K) (mr : pm_R) (h : Nat) (x1 : Int32) (x2 : Int32) (x3 : Int32) (mi : pm_I) (ml : pm_L) (K : Int32 → pm_I → pm_L → Prop) : Prop := wp l M_X12_listen d 0 0 8 [some (.ref h), some (.int x1), some (.int x2), some (.int x3), none, none] [] 0 0 kd mi ml mr (qI kd mr K)
theorem w_X12_listen_8 {l : Launch} {d : Nat} {kd : pm_K} {mr : pm_R} {h : Nat} {x1 : Int32} {x2 : Int32} {x3 : Int32} {mi : pm_I} {ml : pm_L} {K : Int32 → pm_I → pm_L → Prop} (th : TX12s kd mr h)
    (F : (((mi h 27) ≤ x3 → K x1 mi ml) ∧ (¬ (mi h 27) ≤ x3 → c_X12_listen_22 l (d + 1) kd mr h x1 x2 x3 0 0 mi ml K))) :
    c_X12_listen_8 l (d + 1) kd mr h x1 x2 x3 mi ml K := by
  show wp l M_X12_listen (d + 1) 0 0 8 [some (.ref h), some (.int x1), some (.int x2), some (.int x3), none, none] [] 0 0 kd mi ml mr _
  refine wp_iload_n (pc := 8) dX12_listen_8 rfl ?_
  refine wp_aload_n (pc := 9) dX12_listen_9 rfl ?_
  refine wp_getI (pc := 10) dX12_listen_10 fl_X12_331 rfl (TX12s_k th) ?_
  refine wp_icmp_ge (tgt := 104) (pc := 13) dX12_listen_13 (by decide) (fun c1 => ?_) (fun c1 => ?_)
  · have F := F.1 c1
    refine wp_iload_n (pc := 104) dX12_listen_104 rfl ?_
    exact r_I (pc := 105) dX12_listen_105 rfl F
  · have F := F.2 c1
    refine wp_iconst (v := 0) (pc := 16) dX12_listen_16 (by decide) ?_
    refine wp_istore (pc := 17) dX12_listen_17 (Nat.le_of_ble_eq_true rfl) rfl ?_
    show wp l M_X12_listen (d + 1) 0 0 _ [some (.ref h), some (.int x1), some (.int x2), some (.int x3), some (.int 0), none] _ 0 0 kd _ _ mr _
    refine wp_iconst (v := 0) (pc := 19) dX12_listen_19 (by decide) ?_
    refine wp_istore (pc := 20) dX12_listen_20 (Nat.le_of_ble_eq_true rfl) rfl ?_
    show wp l M_X12_listen (d + 1) 0 0 _ [some (.ref h), some (.int x1), some (.int x2), some (.int x3), some (.int 0), some (.int 0)] _ 0 0 kd _ _ mr _
    exact wp_less (L' := [some (.ref h), some (.int x1), some (.int x2), some (.int x3), some (.int 0), some (.int 0)]) ⟨rfl, ⟨rfl, ⟨rfl, ⟨rfl, ⟨rfl, ⟨rfl, trivial⟩⟩⟩⟩⟩⟩ F
theorem w_X12_listen_22 {l : Launch} {d : Nat} {kd : pm_K} {mr : pm_R} {h : Nat} {x1 : Int32} {x2 : Int32} {x3 : Int32} {x4 : Int32} {x5 : Int32} {mi : pm_I} {ml : pm_L} {K : Int32 → pm_I → pm_L → Prop} (th : TX12s kd mr h)
    (F : (((mi h 48) ≤ x5 → wI l M_X12_greater d [.int x4, .int ((mi h 48) - x4)] kd mr mi ml (fun r3 mi4 ml5 => wI l M_X12_lesser d [.int x2, .int r3] kd mr mi4 ml5 (fun r9 mi10 ml11 => c_X12_listen_8 l (d + 1) kd mr h (if x2 ≤ r3 then x1 else x3) r9 (x3 + 1) mi10 ml11 K))) ∧ (¬ (mi h 48) ≤ x5 → vp_in x5 256 ∧ wL l M_X12_heardBy d [.ref h, .int (mi (h + 22) (Int32.toNatClampNeg x5))] kd mr mi ml (fun r12 mi13 ml14 => wB l M_X12_isIn d [.long r12, .int x3] kd mr mi13 ml14 (fun r15 mi16 ml17 => c_X12_listen_22 l (d + 1) kd mr h x1 x2 x3 (x4 + (b2i (decide (r15 = true)))) (x5 + 1) mi16 ml17 K))))) :
    c_X12_listen_22 l (d + 1) kd mr h x1 x2 x3 x4 x5 mi ml K := by
  show wp l M_X12_listen (d + 1) 0 0 22 [some (.ref h), some (.int x1), some (.int x2), some (.int x3), some (.int x4), some (.int x5)] [] 0 0 kd mi ml mr _
  refine wp_iload (pc := 22) dX12_listen_22 rfl ?_
  refine wp_aload_n (pc := 24) dX12_listen_24 rfl ?_
  refine wp_getI (pc := 25) dX12_listen_25 fl_X12_523 rfl (TX12s_k th) ?_
  refine wp_icmp_ge (tgt := 65) (pc := 28) dX12_listen_28 (by decide) (fun c2 => ?_) (fun c2 => ?_)
  · have F := F.1 c2
    refine wp_iload (pc := 65) dX12_listen_65 rfl ?_
    refine wp_aload_n (pc := 67) dX12_listen_67 rfl ?_
    refine wp_getI (pc := 68) dX12_listen_68 fl_X12_523 rfl (TX12s_k th) ?_
    refine wp_iload (pc := 71) dX12_listen_71 rfl ?_
    refine wp_isub (pc := 73) dX12_listen_73 ?_
    refine csI [.int x4, .int ((mi h 48) - x4)] [] (pc := 74) dX12_listen_74 ml_X12_180 st_X12_greater rfl rfl (Nat.le_of_ble_eq_true rfl) (Nat.le_of_ble_eq_true rfl) (wI.mono (fun r3 mi4 ml5 F => ?_) F)
    refine wp_istore (pc := 77) dX12_listen_77 (Nat.le_of_ble_eq_true rfl) rfl ?_
    show wp l M_X12_listen (d + 1) 0 0 _ [some (.ref h), some (.int x1), some (.int x2), some (.int x3), some (.int x4), some (.int r3)] _ 0 0 kd _ _ mr _
    refine wp_iload (pc := 79) dX12_listen_79 rfl ?_
    refine wp_iload_n (pc := 81) dX12_listen_81 rfl ?_
    suffices J6 : ∀ v7 : Int32, v7 = (if x2 ≤ r3 then x1 else x3) → wp l M_X12_listen (d + 1) 0 0 90 [some (.ref h), some (.int x1), some (.int x2), some (.int x3), some (.int x4), some (.int r3)] [.int v7] 0 0 kd mi4 ml5 mr _ by
        refine wp_icmp_ge (tgt := 89) (pc := 82) dX12_listen_82 (by decide) (fun c8 => ?_) (fun c8 => ?_)
        · refine wp_iload_n (pc := 89) dX12_listen_89 rfl ?_
          exact J6 _ (by simp only [eq_true c8, if_true, if_false, decide_true, decide_false, Bool.not_true, Bool.not_false, Bool.true_and, Bool.false_and, Bool.true_or, Bool.false_or, b2i_t, b2i_f, ite_true, ite_false, not_true_eq_false, not_false_eq_true, reduceCtorEq, decide_eq_true_eq])
        · refine wp_iload_n (pc := 85) dX12_listen_85 rfl ?_
          refine wp_goto (tgt := 90) (pc := 86) dX12_listen_86 (by decide) ?_
          exact J6 _ (by simp only [c8, if_true, if_false, decide_true, decide_false, Bool.not_true, Bool.not_false, Bool.true_and, Bool.false_and, Bool.true_or, Bool.false_or, b2i_t, b2i_f, ite_true, ite_false, not_true_eq_false, not_false_eq_true, reduceCtorEq, decide_eq_true_eq])
    intro v7 ev7
    subst ev7
    refine wp_istore_n (pc := 90) dX12_listen_90 (Nat.le_of_ble_eq_true rfl) rfl ?_
    show wp l M_X12_listen (d + 1) 0 0 _ [some (.ref h), some (.int (if x2 ≤ r3 then x1 else x3)), some (.int x2), some (.int x3), some (.int x4), some (.int r3)] _ 0 0 kd _ _ mr _
    refine wp_iload_n (pc := 91) dX12_listen_91 rfl ?_
    refine wp_iload (pc := 92) dX12_listen_92 rfl ?_
    refine csI [.int x2, .int r3] [] (pc := 94) dX12_listen_94 ml_X12_476 st_X12_lesser rfl rfl (Nat.le_of_ble_eq_true rfl) (Nat.le_of_ble_eq_true rfl) (wI.mono (fun r9 mi10 ml11 F => ?_) F)
    refine wp_istore_n (pc := 97) dX12_listen_97 (Nat.le_of_ble_eq_true rfl) rfl ?_
    show wp l M_X12_listen (d + 1) 0 0 _ [some (.ref h), some (.int (if x2 ≤ r3 then x1 else x3)), some (.int r9), some (.int x3), some (.int x4), some (.int r3)] _ 0 0 kd _ _ mr _
    refine wp_iinc (v := (x3 + 1)) (pc := 98) dX12_listen_98 rfl rfl rfl ?_
    show wp l M_X12_listen (d + 1) 0 0 _ [some (.ref h), some (.int (if x2 ≤ r3 then x1 else x3)), some (.int r9), some (.int (x3 + 1)), some (.int x4), some (.int r3)] _ 0 0 kd _ _ mr _
    refine wp_goto (tgt := 8) (pc := 101) dX12_listen_101 (by decide) ?_
    exact wp_less (L' := [some (.ref h), some (.int (if x2 ≤ r3 then x1 else x3)), some (.int r9), some (.int (x3 + 1)), none, none]) ⟨rfl, ⟨rfl, ⟨rfl, ⟨rfl, trivial⟩⟩⟩⟩ F
  · have F := F.2 c2
    refine wp_iload (pc := 31) dX12_listen_31 rfl ?_
    refine wp_aload_n (pc := 33) dX12_listen_33 rfl ?_
    refine wp_aload_n (pc := 34) dX12_listen_34 rfl ?_
    refine wp_getR (pc := 35) dX12_listen_35 fl_X12_76 rfl (TX12s_k th) (TX12s_r47 th) ?_
    refine wp_iload (pc := 38) dX12_listen_38 rfl ?_
    refine wp_iald (pc := 40) dX12_listen_40 (TX12s_a47 th) F.1 ?_
    have F := F.2
    refine cvL [.int (mi (h + 22) (Int32.toNatClampNeg x5))] [.int x4] (pc := 41) dX12_listen_41 ml_X12_438 iv_X12_heardBy (TX12s_k th) (cl_X12 rfl) rfl rfl (Nat.le_of_ble_eq_true rfl) (Nat.le_of_ble_eq_true rfl) (wL.mono (fun r12 mi13 ml14 F => ?_) F)
    refine wp_iload_n (pc := 44) dX12_listen_44 rfl ?_
    refine csB [.long r12, .int x3] [.int x4] (pc := 45) dX12_listen_45 ml_X12_462 st_X12_isIn rfl rfl (Nat.le_of_ble_eq_true rfl) (Nat.le_of_ble_eq_true rfl) (wB.mono (fun r15 mi16 ml17 F => ?_) F)
    suffices J18 : ∀ v19 : Int32, v19 = (b2i (decide (r15 = true))) → wp l M_X12_listen (d + 1) 0 0 56 [some (.ref h), some (.int x1), some (.int x2), some (.int x3), some (.int x4), some (.int x5)] [.int v19, .int x4] 0 0 kd mi16 ml17 mr _ by
        refine b_eq (tgt := 55) (pc := 48) dX12_listen_48 (by decide) (fun c20 => ?_) (fun c20 => ?_)
        · refine wp_iconst (v := 0) (pc := 55) dX12_listen_55 (by decide) ?_
          exact J18 _ (by simp only [c20, if_true, if_false, decide_true, decide_false, Bool.not_true, Bool.not_false, Bool.true_and, Bool.false_and, Bool.true_or, Bool.false_or, b2i_t, b2i_f, ite_true, ite_false, not_true_eq_false, not_false_eq_true, reduceCtorEq, decide_eq_true_eq])
        · refine wp_iconst (v := 1) (pc := 51) dX12_listen_51 (by decide) ?_
          refine wp_goto (tgt := 56) (pc := 52) dX12_listen_52 (by decide) ?_
          exact J18 _ (by simp only [c20, if_true, if_false, decide_true, decide_false, Bool.not_true, Bool.not_false, Bool.true_and, Bool.false_and, Bool.true_or, Bool.false_or, b2i_t, b2i_f, ite_true, ite_false, not_true_eq_false, not_false_eq_true, reduceCtorEq, decide_eq_true_eq])
    intro v19 ev19
    subst ev19
    refine wp_iadd (pc := 56) dX12_listen_56 ?_
    refine wp_istore (pc := 57) dX12_listen_57 (Nat.le_of_ble_eq_true rfl) rfl ?_
    show wp l M_X12_listen (d + 1) 0 0 _ [some (.ref h), some (.int x1), some (.int x2), some (.int x3), some (.int (x4 + (b2i (decide (r15 = true))))), some (.int x5)] _ 0 0 kd _ _ mr _
    refine wp_iinc (v := (x5 + 1)) (pc := 59) dX12_listen_59 rfl rfl rfl ?_
    show wp l M_X12_listen (d + 1) 0 0 _ [some (.ref h), some (.int x1), some (.int x2), some (.int x3), some (.int (x4 + (b2i (decide (r15 = true))))), some (.int (x5 + 1))] _ 0 0 kd _ _ mr _
    refine wp_goto (tgt := 22) (pc := 62) dX12_listen_62 (by decide) ?_
    exact wp_less (L' := [some (.ref h), some (.int x1), some (.int x2), some (.int x3), some (.int (x4 + (b2i (decide (r15 = true))))), some (.int (x5 + 1))]) ⟨rfl, ⟨rfl, ⟨rfl, ⟨rfl, ⟨rfl, ⟨rfl, trivial⟩⟩⟩⟩⟩⟩ F
/-- listen()I -/
theorem w_X12_listen {l : Launch} {d : Nat} {kd : pm_K} {mr : pm_R} {h : Nat}  {mi : pm_I} {ml : pm_L} {K : Int32 → pm_I → pm_L → Prop} (th : TX12s kd mr h)
    (F : c_X12_listen_8 l (d + 1) kd mr h (-1) 1000000 0 mi ml K) :
    wI l M_X12_listen (d + 1) [.ref h] kd mr mi ml K := by
  show wp l M_X12_listen (d + 1) 0 0 0 [some (.ref h), none, none, none, none, none] [] 0 0 kd mi ml mr _
  refine wp_iconst (v := -1) (pc := 0) dX12_listen_0 (by decide) ?_
  refine wp_istore_n (pc := 1) dX12_listen_1 (Nat.le_of_ble_eq_true rfl) rfl ?_
  show wp l M_X12_listen (d + 1) 0 0 _ [some (.ref h), some (.int (-1)), none, none, none, none] _ 0 0 kd _ _ mr _
  refine wp_ldcw (v := 1000000) (pc := 2) dX12_listen_2 (tb_7 197 rfl rfl) ?_
  refine wp_istore_n (pc := 5) dX12_listen_5 (Nat.le_of_ble_eq_true rfl) rfl ?_
  show wp l M_X12_listen (d + 1) 0 0 _ [some (.ref h), some (.int (-1)), some (.int 1000000), none, none, none] _ 0 0 kd _ _ mr _
  refine wp_iconst (v := 0) (pc := 6) dX12_listen_6 (by decide) ?_
  refine wp_istore_n (pc := 7) dX12_listen_7 (Nat.le_of_ble_eq_true rfl) rfl ?_
  show wp l M_X12_listen (d + 1) 0 0 _ [some (.ref h), some (.int (-1)), some (.int 1000000), some (.int 0), none, none] _ 0 0 kd _ _ mr _
  exact wp_less (L' := [some (.ref h), some (.int (-1)), some (.int 1000000), some (.int 0), none, none]) ⟨rfl, ⟨rfl, ⟨rfl, ⟨rfl, trivial⟩⟩⟩⟩ F
def c_X12_drawn_38 (l : Launch) (d : Nat) (kd : pm_K) (mr : pm_R) (h : Nat) (x3 : Int32) (x4 : Int32) (x5 : Int32) (mi : pm_I) (ml : pm_L) (K : Int32 → pm_I → pm_L → Prop) : Prop := wp l M_X12_drawn d 0 0 38 [some (.ref h), none, none, some (.int x3), some (.int x4), some (.int x5)] [] 0 0 kd mi ml mr (qI kd mr K)
theorem w_X12_drawn_38 {l : Launch} {d : Nat} {kd : pm_K} {mr : pm_R} {h : Nat} {x3 : Int32} {x4 : Int32} {x5 : Int32} {mi : pm_I} {ml : pm_L} {K : Int32 → pm_I → pm_L → Prop} (th : TX12s kd mr h)
    (F : ((x3 ≤ x5 → wI l M_X12_ofState d [.ref h, .int x4] kd mr mi ml (fun r13 mi14 ml15 => K r13 mi14 ml15)) ∧ (¬ x3 ≤ x5 → wV l M_X12_drawDeed d [.ref h] kd mr mi ml (fun mi17 ml18 => c_X12_drawn_38 l (d + 1) kd mr h x3 x4 (x5 + 1) mi17 ml18 K)))) :
    c_X12_drawn_38 l (d + 1) kd mr h x3 x4 x5 mi ml K := by
  show wp l M_X12_drawn (d + 1) 0 0 38 [some (.ref h), none, none, some (.int x3), some (.int x4), some (.int x5)] [] 0 0 kd mi ml mr _
  refine wp_iload (pc := 38) dX12_drawn_38 rfl ?_
  refine wp_iload_n (pc := 40) dX12_drawn_40 rfl ?_
  refine wp_icmp_ge (tgt := 54) (pc := 41) dX12_drawn_41 (by decide) (fun c12 => ?_) (fun c12 => ?_)
  · have F := F.1 c12
    refine wp_aload_n (pc := 54) dX12_drawn_54 rfl ?_
    refine wp_iload (pc := 55) dX12_drawn_55 rfl ?_
    refine cvI [.int x4] [] (pc := 57) dX12_drawn_57 ml_X12_422 iv_X12_ofState (TX12s_k th) (cl_X12 rfl) rfl rfl (Nat.le_of_ble_eq_true rfl) (Nat.le_of_ble_eq_true rfl) (wI.mono (fun r13 mi14 ml15 F => ?_) F)
    exact r_I (pc := 60) dX12_drawn_60 rfl F
  · have F := F.2 c12
    refine wp_aload_n (pc := 44) dX12_drawn_44 rfl ?_
    refine cvV [] [] (pc := 45) dX12_drawn_45 ml_X12_576 iv_X12_drawDeed (TX12s_k th) (cl_X12 rfl) rfl rfl (Nat.le_of_ble_eq_true rfl) (Nat.le_of_ble_eq_true rfl) (wV.mono (fun mi17 ml18 F => ?_) F)
    refine wp_iinc (v := (x5 + 1)) (pc := 48) dX12_drawn_48 rfl rfl rfl ?_
    show wp l M_X12_drawn (d + 1) 0 0 _ [some (.ref h), none, none, some (.int x3), some (.int x4), some (.int (x5 + 1))] _ 0 0 kd _ _ mr _
    refine wp_goto (tgt := 38) (pc := 51) dX12_drawn_51 (by decide) ?_
    exact wp_less (L' := [some (.ref h), none, none, some (.int x3), some (.int x4), some (.int (x5 + 1))]) ⟨rfl, ⟨rfl, ⟨rfl, ⟨rfl, trivial⟩⟩⟩⟩ F
/-- drawn(IIII)I -/
theorem w_X12_drawn {l : Launch} {d : Nat} {kd : pm_K} {mr : pm_R} {h : Nat} {x1 : Int32} {x2 : Int32} {x3 : Int32} {x4 : Int32} {mi : pm_I} {ml : pm_L} {K : Int32 → pm_I → pm_L → Prop} (th : TX12s kd mr h)
    (F : wB l M_X12_in d [.int x3, .int 0, .int 60] kd mr (pm_up mi h 0 0) ml (fun r1 mi2 ml3 => ((r1 = false → K (-2) mi2 ml3) ∧ (r1 = true → wB l M_X12_hand d [.ref h, .int x1] kd mr mi2 ml3 (fun r5 mi6 ml7 => ((r5 = true → wV l M_X12_begin d [.ref h] kd mr (pm_up mi6 h 50 x2) ml7 (fun mi10 ml11 => c_X12_drawn_38 l (d + 1) kd mr h x3 x4 0 mi10 ml11 K)) ∧ (r5 = false → K (-2) mi6 ml7))))))) :
    wI l M_X12_drawn (d + 1) [.ref h, .int x1, .int x2, .int x3, .int x4] kd mr mi ml K := by
  show wp l M_X12_drawn (d + 1) 0 0 0 [some (.ref h), some (.int x1), some (.int x2), some (.int x3), some (.int x4), none] [] 0 0 kd mi ml mr _
  refine wp_aload_n (pc := 0) dX12_drawn_0 rfl ?_
  refine wp_iconst (v := 0) (pc := 1) dX12_drawn_1 (by decide) ?_
  refine wp_putI (pc := 2) dX12_drawn_2 fl_X12_107 rfl rfl (TX12s_k th) ?_
  refine wp_iload_n (pc := 5) dX12_drawn_5 rfl ?_
  refine wp_iconst (v := 0) (pc := 6) dX12_drawn_6 (by decide) ?_
  refine wp_bipush (v := 60) (pc := 7) dX12_drawn_7 (by decide) ?_
  refine csB [.int x3, .int 0, .int 60] [] (pc := 9) dX12_drawn_9 ml_X12_119 st_X12_in rfl rfl (Nat.le_of_ble_eq_true rfl) (Nat.le_of_ble_eq_true rfl) (wB.mono (fun r1 mi2 ml3 F => ?_) F)
  refine b_eq (tgt := 23) (pc := 12) dX12_drawn_12 (by decide) (fun c4 => ?_) (fun c4 => ?_)
  · have F := F.1 c4
    refine wp_bipush (v := -2) (pc := 23) dX12_drawn_23 (by decide) ?_
    exact r_I (pc := 25) dX12_drawn_25 rfl F
  · have F := F.2 c4
    refine wp_aload_n (pc := 15) dX12_drawn_15 rfl ?_
    refine wp_iload_n (pc := 16) dX12_drawn_16 rfl ?_
    refine cvB [.int x1] [] (pc := 17) dX12_drawn_17 ml_X12_346 iv_X12_hand (TX12s_k th) (cl_X12 rfl) rfl rfl (Nat.le_of_ble_eq_true rfl) (Nat.le_of_ble_eq_true rfl) (wB.mono (fun r5 mi6 ml7 F => ?_) F)
    refine b_ne (tgt := 26) (pc := 20) dX12_drawn_20 (by decide) (fun c8 => ?_) (fun c8 => ?_)
    · have F := F.1 c8
      refine wp_aload_n (pc := 26) dX12_drawn_26 rfl ?_
      refine wp_iload_n (pc := 27) dX12_drawn_27 rfl ?_
      refine wp_putI (pc := 28) dX12_drawn_28 fl_X12_569 rfl rfl (TX12s_k th) ?_
      refine wp_aload_n (pc := 31) dX12_drawn_31 rfl ?_
      refine cvV [] [] (pc := 32) dX12_drawn_32 ml_X12_410 iv_X12_begin (TX12s_k th) (cl_X12 rfl) rfl rfl (Nat.le_of_ble_eq_true rfl) (Nat.le_of_ble_eq_true rfl) (wV.mono (fun mi10 ml11 F => ?_) F)
      refine wp_iconst (v := 0) (pc := 35) dX12_drawn_35 (by decide) ?_
      refine wp_istore (pc := 36) dX12_drawn_36 (Nat.le_of_ble_eq_true rfl) rfl ?_
      show wp l M_X12_drawn (d + 1) 0 0 _ [some (.ref h), some (.int x1), some (.int x2), some (.int x3), some (.int x4), some (.int 0)] _ 0 0 kd _ _ mr _
      exact wp_less (L' := [some (.ref h), none, none, some (.int x3), some (.int x4), some (.int 0)]) ⟨rfl, ⟨rfl, ⟨rfl, ⟨rfl, trivial⟩⟩⟩⟩ F
    · have F := F.2 c8
      refine wp_bipush (v := -2) (pc := 23) dX12_drawn_23 (by decide) ?_
      exact r_I (pc := 25) dX12_drawn_25 rfl F
def c_X12_drawDeed_94 (l : Launch) (d : Nat) (kd : pm_K) (mr : pm_R) (h : Nat) (s0 : Int32) (s1 : Int32) (s2 : Int32) (mi : pm_I) (ml : pm_L) (K : pm_I → pm_L → Prop) : Prop := wp l M_X12_drawDeed d 0 0 94 [none, none, none, none, none] [.int s0, .int s1, .int s2, .ref h] 0 0 kd mi ml mr (qV kd mr K)
theorem w_X12_drawDeed_94 {l : Launch} {d : Nat} {kd : pm_K} {mr : pm_R} {h : Nat} {s0 : Int32} {s1 : Int32} {s2 : Int32} {mi : pm_I} {ml : pm_L} {K : pm_I → pm_L → Prop} (th : TX12s kd mr h)
    (F : wB l M_X12_does d [.ref h, .int s2, .int s1, .int s0] kd mr mi ml (fun r24 mi25 ml26 => K mi25 ml26)) :
    c_X12_drawDeed_94 l (d + 1) kd mr h s0 s1 s2 mi ml K := by
  show wp l M_X12_drawDeed (d + 1) 0 0 94 [none, none, none, none, none] [.int s0, .int s1, .int s2, .ref h] 0 0 kd mi ml mr _
  refine cvB [.int s2, .int s1, .int s0] [] (pc := 94) dX12_drawDeed_94 ml_X12_413 iv_X12_does (TX12s_k th) (cl_X12 rfl) rfl rfl (Nat.le_of_ble_eq_true rfl) (Nat.le_of_ble_eq_true rfl) (wB.mono (fun r24 mi25 ml26 F => ?_) F)
  refine wp_pop (pc := 97) dX12_drawDeed_97 rfl ?_
  exact r_V (pc := 98) dX12_drawDeed_98 rfl F
/-- drawDeed()V -/
theorem w_X12_drawDeed {l : Launch} {d : Nat} {kd : pm_K} {mr : pm_R} {h : Nat}  {mi : pm_I} {ml : pm_L} {K : pm_I → pm_L → Prop} (th : TX12s kd mr h)
    (F : wI l M_X12_draw d [.ref h, .int 8] kd mr mi ml (fun r1 mi2 ml3 => ((¬ r1 = 7 → (((if (if 3 ≤ r1 then (if 5 ≤ r1 then (if r1 = 5 then (4 : Int32) else (5 : Int32)) else (3 : Int32)) else r1) = 4 then (mi2 h 29) else (mi2 h 28)) ≤ 0 → K mi2 ml3) ∧ (¬ (if (if 3 ≤ r1 then (if 5 ≤ r1 then (if r1 = 5 then (4 : Int32) else (5 : Int32)) else (3 : Int32)) else r1) = 4 then (mi2 h 29) else (mi2 h 28)) ≤ 0 → wI l M_X12_draw d [.ref h, .int (if (if 3 ≤ r1 then (if 5 ≤ r1 then (if r1 = 5 then (4 : Int32) else (5 : Int32)) else (3 : Int32)) else r1) = 4 then (mi2 h 29) else (mi2 h 28))] kd mr mi2 ml3 (fun r14 mi15 ml16 => ((3 ≤ (if 3 ≤ r1 then (if 5 ≤ r1 then (if r1 = 5 then (4 : Int32) else (5 : Int32)) else (3 : Int32)) else r1) → wI l M_X12_draw d [.ref h, .int 4] kd mr mi15 ml16 (fun r18 mi19 ml20 => c_X12_drawDeed_94 l (d + 1) kd mr h r18 r14 (if 3 ≤ r1 then (if 5 ≤ r1 then (if r1 = 5 then (4 : Int32) else (5 : Int32)) else (3 : Int32)) else r1) mi19 ml20 K)) ∧ (¬ 3 ≤ (if 3 ≤ r1 then (if 5 ≤ r1 then (if r1 = 5 then (4 : Int32) else (5 : Int32)) else (3 : Int32)) else r1) → c_X12_drawDeed_94 l (d + 1) kd mr h (-1) r14 (if 3 ≤ r1 then (if 5 ≤ r1 then (if r1 = 5 then (4 : Int32) else (5 : Int32)) else (3 : Int32)) else r1) mi15 ml16 K)))))) ∧ (r1 = 7 → wB l M_X12_rests d [.ref h] kd mr mi2 ml3 (fun r21 mi22 ml23 => K mi22 ml23))))) :
    wV l M_X12_drawDeed (d + 1) [.ref h] kd mr mi ml K := by
  show wp l M_X12_drawDeed (d + 1) 0 0 0 [some (.ref h), none, none, none, none] [] 0 0 kd mi ml mr _
  refine wp_aload_n (pc := 0) dX12_drawDeed_0 rfl ?_
  refine wp_bipush (v := 8) (pc := 1) dX12_drawDeed_1 (by decide) ?_
  refine cvI [.int 8] [] (pc := 3) dX12_drawDeed_3 ml_X12_573 iv_X12_draw (TX12s_k th) (cl_X12 rfl) rfl rfl (Nat.le_of_ble_eq_true rfl) (Nat.le_of_ble_eq_true rfl) (wI.mono (fun r1 mi2 ml3 F => ?_) F)
  refine wp_istore_n (pc := 6) dX12_drawDeed_6 (Nat.le_of_ble_eq_true rfl) rfl ?_
  show wp l M_X12_drawDeed (d + 1) 0 0 _ [some (.ref h), some (.int r1), none, none, none] _ 0 0 kd _ _ mr _
  refine wp_iload_n (pc := 7) dX12_drawDeed_7 rfl ?_
  refine wp_bipush (v := 7) (pc := 8) dX12_drawDeed_8 (by decide) ?_
  refine wp_icmp_ne (tgt := 19) (pc := 10) dX12_drawDeed_10 (by decide) (fun c4 => ?_) (fun c4 => ?_)
  · have F := F.1 c4
    refine wp_iload_n (pc := 19) dX12_drawDeed_19 rfl ?_
    refine wp_iconst (v := 3) (pc := 20) dX12_drawDeed_20 (by decide) ?_
    suffices J5 : ∀ v6 : Int32, v6 = (if 3 ≤ r1 then (if 5 ≤ r1 then (if r1 = 5 then (4 : Int32) else (5 : Int32)) else (3 : Int32)) else r1) → wp l M_X12_drawDeed (d + 1) 0 0 47 [some (.ref h), some (.int r1), none, none, none] [.int v6] 0 0 kd mi2 ml3 mr _ by
        refine wp_icmp_ge (tgt := 28) (pc := 21) dX12_drawDeed_21 (by decide) (fun c7 => ?_) (fun c7 => ?_)
        · refine wp_iload_n (pc := 28) dX12_drawDeed_28 rfl ?_
          refine wp_iconst (v := 5) (pc := 29) dX12_drawDeed_29 (by decide) ?_
          refine wp_icmp_ge (tgt := 37) (pc := 30) dX12_drawDeed_30 (by decide) (fun c8 => ?_) (fun c8 => ?_)
          · refine wp_iload_n (pc := 37) dX12_drawDeed_37 rfl ?_
            refine wp_iconst (v := 5) (pc := 38) dX12_drawDeed_38 (by decide) ?_
            refine wp_icmp_ne (tgt := 46) (pc := 39) dX12_drawDeed_39 (by decide) (fun c9 => ?_) (fun c9 => ?_)
            · refine wp_iconst (v := 5) (pc := 46) dX12_drawDeed_46 (by decide) ?_
              exact J5 _ (by simp only [eq_true c7, eq_true c8, c9, if_true, if_false, decide_true, decide_false, Bool.not_true, Bool.not_false, Bool.true_and, Bool.false_and, Bool.true_or, Bool.false_or, b2i_t, b2i_f, ite_true, ite_false, not_true_eq_false, not_false_eq_true, reduceCtorEq, decide_eq_true_eq])
            · refine wp_iconst (v := 4) (pc := 42) dX12_drawDeed_42 (by decide) ?_
              refine wp_goto (tgt := 47) (pc := 43) dX12_drawDeed_43 (by decide) ?_
              exact J5 _ (by simp only [eq_true c7, eq_true c8, eq_true c9, if_true, if_false, decide_true, decide_false, Bool.not_true, Bool.not_false, Bool.true_and, Bool.false_and, Bool.true_or, Bool.false_or, b2i_t, b2i_f, ite_true, ite_false, not_true_eq_false, not_false_eq_true, reduceCtorEq, decide_eq_true_eq])
          · refine wp_iconst (v := 3) (pc := 33) dX12_drawDeed_33 (by decide) ?_
            refine wp_goto (tgt := 47) (pc := 34) dX12_drawDeed_34 (by decide) ?_
            exact J5 _ (by simp only [eq_true c7, c8, if_true, if_false, decide_true, decide_false, Bool.not_true, Bool.not_false, Bool.true_and, Bool.false_and, Bool.true_or, Bool.false_or, b2i_t, b2i_f, ite_true, ite_false, not_true_eq_false, not_false_eq_true, reduceCtorEq, decide_eq_true_eq])
        · refine wp_iload_n (pc := 24) dX12_drawDeed_24 rfl ?_
          refine wp_goto (tgt := 47) (pc := 25) dX12_drawDeed_25 (by decide) ?_
          exact J5 _ (by simp only [c7, if_true, if_false, decide_true, decide_false, Bool.not_true, Bool.not_false, Bool.true_and, Bool.false_and, Bool.true_or, Bool.false_or, b2i_t, b2i_f, ite_true, ite_false, not_true_eq_false, not_false_eq_true, reduceCtorEq, decide_eq_true_eq])
    intro v6 ev6
    subst ev6
    refine wp_istore_n (pc := 47) dX12_drawDeed_47 (Nat.le_of_ble_eq_true rfl) rfl ?_
    show wp l M_X12_drawDeed (d + 1) 0 0 _ [some (.ref h), some (.int r1), some (.int (if 3 ≤ r1 then (if 5 ≤ r1 then (if r1 = 5 then (4 : Int32) else (5 : Int32)) else (3 : Int32)) else r1)), none, none] _ 0 0 kd _ _ mr _
    refine wp_iload_n (pc := 48) dX12_drawDeed_48 rfl ?_
    refine wp_iconst (v := 4) (pc := 49) dX12_drawDeed_49 (by decide) ?_
    suffices J10 : ∀ v11 : Int32, v11 = (if (if 3 ≤ r1 then (if 5 ≤ r1 then (if r1 = 5 then (4 : Int32) else (5 : Int32)) else (3 : Int32)) else r1) = 4 then (mi2 h 29) else (mi2 h 28)) → wp l M_X12_drawDeed (d + 1) 0 0 64 [some (.ref h), some (.int r1), some (.int (if 3 ≤ r1 then (if 5 ≤ r1 then (if r1 = 5 then (4 : Int32) else (5 : Int32)) else (3 : Int32)) else r1)), none, none] [.int v11] 0 0 kd mi2 ml3 mr _ by
        refine wp_icmp_ne (tgt := 60) (pc := 50) dX12_drawDeed_50 (by decide) (fun c12 => ?_) (fun c12 => ?_)
        · refine wp_aload_n (pc := 60) dX12_drawDeed_60 rfl ?_
          refine wp_getI (pc := 61) dX12_drawDeed_61 fl_X12_334 rfl (TX12s_k th) ?_
          exact J10 _ (by simp only [c12, if_true, if_false, decide_true, decide_false, Bool.not_true, Bool.not_false, Bool.true_and, Bool.false_and, Bool.true_or, Bool.false_or, b2i_t, b2i_f, ite_true, ite_false, not_true_eq_false, not_false_eq_true, reduceCtorEq, decide_eq_true_eq])
        · refine wp_aload_n (pc := 53) dX12_drawDeed_53 rfl ?_
          refine wp_getI (pc := 54) dX12_drawDeed_54 fl_X12_337 rfl (TX12s_k th) ?_
          refine wp_goto (tgt := 64) (pc := 57) dX12_drawDeed_57 (by decide) ?_
          exact J10 _ (by simp only [eq_true c12, if_true, if_false, decide_true, decide_false, Bool.not_true, Bool.not_false, Bool.true_and, Bool.false_and, Bool.true_or, Bool.false_or, b2i_t, b2i_f, ite_true, ite_false, not_true_eq_false, not_false_eq_true, reduceCtorEq, decide_eq_true_eq])
    intro v11 ev11
    subst ev11
    refine wp_istore_n (pc := 64) dX12_drawDeed_64 (Nat.le_of_ble_eq_true rfl) rfl ?_
    show wp l M_X12_drawDeed (d + 1) 0 0 _ [some (.ref h), some (.int r1), some (.int (if 3 ≤ r1 then (if 5 ≤ r1 then (if r1 = 5 then (4 : Int32) else (5 : Int32)) else (3 : Int32)) else r1)), some (.int (if (if 3 ≤ r1 then (if 5 ≤ r1 then (if r1 = 5 then (4 : Int32) else (5 : Int32)) else (3 : Int32)) else r1) = 4 then (mi2 h 29) else (mi2 h 28))), none] _ 0 0 kd _ _ mr _
    refine wp_iload_n (pc := 65) dX12_drawDeed_65 rfl ?_
    refine wp_if_le (tgt := 98) (pc := 66) dX12_drawDeed_66 (by decide) (fun c13 => ?_) (fun c13 => ?_)
    · have F := F.1 c13
      exact r_V (pc := 98) dX12_drawDeed_98 rfl F
    · have F := F.2 c13
      refine wp_aload_n (pc := 69) dX12_drawDeed_69 rfl ?_
      refine wp_iload_n (pc := 70) dX12_drawDeed_70 rfl ?_
      refine cvI [.int (if (if 3 ≤ r1 then (if 5 ≤ r1 then (if r1 = 5 then (4 : Int32) else (5 : Int32)) else (3 : Int32)) else r1) = 4 then (mi2 h 29) else (mi2 h 28))] [] (pc := 71) dX12_drawDeed_71 ml_X12_573 iv_X12_draw (TX12s_k th) (cl_X12 rfl) rfl rfl (Nat.le_of_ble_eq_true rfl) (Nat.le_of_ble_eq_true rfl) (wI.mono (fun r14 mi15 ml16 F => ?_) F)
      refine wp_istore (pc := 74) dX12_drawDeed_74 (Nat.le_of_ble_eq_true rfl) rfl ?_
      show wp l M_X12_drawDeed (d + 1) 0 0 _ [some (.ref h), some (.int r1), some (.int (if 3 ≤ r1 then (if 5 ≤ r1 then (if r1 = 5 then (4 : Int32) else (5 : Int32)) else (3 : Int32)) else r1)), some (.int (if (if 3 ≤ r1 then (if 5 ≤ r1 then (if r1 = 5 then (4 : Int32) else (5 : Int32)) else (3 : Int32)) else r1) = 4 then (mi2 h 29) else (mi2 h 28))), some (.int r14)] _ 0 0 kd _ _ mr _
      refine wp_aload_n (pc := 76) dX12_drawDeed_76 rfl ?_
      refine wp_iload_n (pc := 77) dX12_drawDeed_77 rfl ?_
      refine wp_iload (pc := 78) dX12_drawDeed_78 rfl ?_
      refine wp_iload_n (pc := 80) dX12_drawDeed_80 rfl ?_
      refine wp_iconst (v := 3) (pc := 81) dX12_drawDeed_81 (by decide) ?_
      refine wp_icmp_ge (tgt := 89) (pc := 82) dX12_drawDeed_82 (by decide) (fun c17 => ?_) (fun c17 => ?_)
      · have F := F.1 c17
        refine wp_aload_n (pc := 89) dX12_drawDeed_89 rfl ?_
        refine wp_iconst (v := 4) (pc := 90) dX12_drawDeed_90 (by decide) ?_
        refine cvI [.int 4] [.int r14, .int (if 3 ≤ r1 then (if 5 ≤ r1 then (if r1 = 5 then (4 : Int32) else (5 : Int32)) else (3 : Int32)) else r1), .ref h] (pc := 91) dX12_drawDeed_91 ml_X12_573 iv_X12_draw (TX12s_k th) (cl_X12 rfl) rfl rfl (Nat.le_of_ble_eq_true rfl) (Nat.le_of_ble_eq_true rfl) (wI.mono (fun r18 mi19 ml20 F => ?_) F)
        exact wp_less (L' := [none, none, none, none, none]) trivial F
      · have F := F.2 c17
        refine wp_iconst (v := -1) (pc := 85) dX12_drawDeed_85 (by decide) ?_
        refine wp_goto (tgt := 94) (pc := 86) dX12_drawDeed_86 (by decide) ?_
        exact wp_less (L' := [none, none, none, none, none]) trivial F
  · have F := F.2 c4
    refine wp_aload_n (pc := 13) dX12_drawDeed_13 rfl ?_
    refine cvB [] [] (pc := 14) dX12_drawDeed_14 ml_X12_407 iv_X12_rests (TX12s_k th) (cl_X12 rfl) rfl rfl (Nat.le_of_ble_eq_true rfl) (Nat.le_of_ble_eq_true rfl) (wB.mono (fun r21 mi22 ml23 F => ?_) F)
    refine wp_pop (pc := 17) dX12_drawDeed_17 rfl ?_
    exact r_V (pc := 18) dX12_drawDeed_18 rfl F
/-- draw(I)I -/
theorem w_X12_draw {l : Launch} {d : Nat} {kd : pm_K} {mr : pm_R} {h : Nat} {x1 : Int32} {mi : pm_I} {ml : pm_L} {K : Int32 → pm_I → pm_L → Prop} (th : TX12s kd mr h)
    (F : ¬ x1 = 0 ∧ K (((((((mi h 50) * 1103515245) + 12345)).toUInt32 >>> (Int32.toUInt32 16 &&& Int32.toUInt32 31)).toInt32) - ((((((mi h 50) * 1103515245) + 12345)).toUInt32 >>> (Int32.toUInt32 16 &&& Int32.toUInt32 31)).toInt32) / x1 * x1) (pm_up mi h 50 (((mi h 50) * 1103515245) + 12345)) ml) :
    wI l M_X12_draw d [.ref h, .int x1] kd mr mi ml K := by
  show wp l M_X12_draw d 0 0 0 [some (.ref h), some (.int x1)] [] 0 0 kd mi ml mr _
  refine wp_aload_n (pc := 0) dX12_draw_0 rfl ?_
  refine wp_aload_n (pc := 1) dX12_draw_1 rfl ?_
  refine wp_getI (pc := 2) dX12_draw_2 fl_X12_569 rfl (TX12s_k th) ?_
  refine wp_ldcw (v := 1103515245) (pc := 5) dX12_draw_5 (tb_8 215 rfl rfl) ?_
  refine wp_imul (pc := 8) dX12_draw_8 ?_
  refine wp_sipush (v := 12345) (pc := 9) dX12_draw_9 (by decide) ?_
  refine wp_iadd (pc := 12) dX12_draw_12 ?_
  refine wp_putI (pc := 13) dX12_draw_13 fl_X12_569 rfl rfl (TX12s_k th) ?_
  refine wp_aload_n (pc := 16) dX12_draw_16 rfl ?_
  refine wp_getI (pc := 17) dX12_draw_17 fl_X12_569 rfl (TX12s_k th) ?_
  refine t_I (show ((pm_up mi h 50 (((mi h 50) * 1103515245) + 12345)) h 50) = (((mi h 50) * 1103515245) + 12345) from pm_up_s _ _ _ _) ?_
  refine wp_bipush (v := 16) (pc := 20) dX12_draw_20 (by decide) ?_
  refine wp_iushr (pc := 22) dX12_draw_22 ?_
  refine wp_iload_n (pc := 23) dX12_draw_23 rfl ?_
  refine wp_irem (pc := 24) dX12_draw_24 F.1 ?_
  have F := F.2
  exact r_I (pc := 25) dX12_draw_25 rfl F
/-- steps(III)I -/
theorem w_X12_steps {l : Launch} {d : Nat} {kd : pm_K} {mr : pm_R} {h : Nat} {x1 : Int32} {x2 : Int32} {x3 : Int32} {mi : pm_I} {ml : pm_L} {K : Int32 → pm_I → pm_L → Prop} (th : TX12s kd mr h)
    (F : wB l M_X12_hand d [.ref h, .int x1] kd mr (pm_up mi h 0 0) ml (fun r1 mi2 ml3 => ((r1 = false → K (-1) mi2 ml3) ∧ (r1 = true → wB l M_X12_isCell d [.ref h, .int x2] kd mr mi2 ml3 (fun r5 mi6 ml7 => ((r5 = false → K (-1) mi6 ml7) ∧ (r5 = true → wB l M_X12_isCell d [.ref h, .int x3] kd mr mi6 ml7 (fun r9 mi10 ml11 => ((r9 = false → K (-1) mi10 ml11) ∧ (r9 = true → wB l M_X12_isWall d [.ref h, .int x2] kd mr mi10 ml11 (fun r13 mi14 ml15 => ((r13 = true → K (-1) mi14 ml15) ∧ (r13 = false → wB l M_X12_isWall d [.ref h, .int x3] kd mr mi14 ml15 (fun r17 mi18 ml19 => ((r17 = false → wV l M_X12_findSoon d [.ref h, .int x2] kd mr mi18 ml19 (fun mi22 ml23 => vp_in x3 64 ∧ (((mi22 (h + 23) (Int32.toNatClampNeg x3)) < 1000000 → vp_in x3 64 ∧ K (mi22 (h + 23) (Int32.toNatClampNeg x3)) mi22 ml23) ∧ (¬ (mi22 (h + 23) (Int32.toNatClampNeg x3)) < 1000000 → K (-1) mi22 ml23)))) ∧ (r17 = true → K (-1) mi18 ml19)))))))))))))))) :
    wI l M_X12_steps (d + 1) [.ref h, .int x1, .int x2, .int x3] kd mr mi ml K := by
  show wp l M_X12_steps (d + 1) 0 0 0 [some (.ref h), some (.int x1), some (.int x2), some (.int x3)] [] 0 0 kd mi ml mr _
  refine wp_aload_n (pc := 0) dX12_steps_0 rfl ?_
  refine wp_iconst (v := 0) (pc := 1) dX12_steps_1 (by decide) ?_
  refine wp_putI (pc := 2) dX12_steps_2 fl_X12_107 rfl rfl (TX12s_k th) ?_
  refine wp_aload_n (pc := 5) dX12_steps_5 rfl ?_
  refine wp_iload_n (pc := 6) dX12_steps_6 rfl ?_
  refine cvB [.int x1] [] (pc := 7) dX12_steps_7 ml_X12_346 iv_X12_hand (TX12s_k th) (cl_X12 rfl) rfl rfl (Nat.le_of_ble_eq_true rfl) (Nat.le_of_ble_eq_true rfl) (wB.mono (fun r1 mi2 ml3 F => ?_) F)
  refine b_eq (tgt := 45) (pc := 10) dX12_steps_10 (by decide) (fun c4 => ?_) (fun c4 => ?_)
  · have F := F.1 c4
    refine wp_iconst (v := -1) (pc := 45) dX12_steps_45 (by decide) ?_
    exact r_I (pc := 46) dX12_steps_46 rfl F
  · have F := F.2 c4
    refine wp_aload_n (pc := 13) dX12_steps_13 rfl ?_
    refine wp_iload_n (pc := 14) dX12_steps_14 rfl ?_
    refine cvB [.int x2] [] (pc := 15) dX12_steps_15 ml_X12_425 iv_X12_isCell (TX12s_k th) (cl_X12 rfl) rfl rfl (Nat.le_of_ble_eq_true rfl) (Nat.le_of_ble_eq_true rfl) (wB.mono (fun r5 mi6 ml7 F => ?_) F)
    refine b_eq (tgt := 45) (pc := 18) dX12_steps_18 (by decide) (fun c8 => ?_) (fun c8 => ?_)
    · have F := F.1 c8
      refine wp_iconst (v := -1) (pc := 45) dX12_steps_45 (by decide) ?_
      exact r_I (pc := 46) dX12_steps_46 rfl F
    · have F := F.2 c8
      refine wp_aload_n (pc := 21) dX12_steps_21 rfl ?_
      refine wp_iload_n (pc := 22) dX12_steps_22 rfl ?_
      refine cvB [.int x3] [] (pc := 23) dX12_steps_23 ml_X12_425 iv_X12_isCell (TX12s_k th) (cl_X12 rfl) rfl rfl (Nat.le_of_ble_eq_true rfl) (Nat.le_of_ble_eq_true rfl) (wB.mono (fun r9 mi10 ml11 F => ?_) F)
      refine b_eq (tgt := 45) (pc := 26) dX12_steps_26 (by decide) (fun c12 => ?_) (fun c12 => ?_)
      · have F := F.1 c12
        refine wp_iconst (v := -1) (pc := 45) dX12_steps_45 (by decide) ?_
        exact r_I (pc := 46) dX12_steps_46 rfl F
      · have F := F.2 c12
        refine wp_aload_n (pc := 29) dX12_steps_29 rfl ?_
        refine wp_iload_n (pc := 30) dX12_steps_30 rfl ?_
        refine cvB [.int x2] [] (pc := 31) dX12_steps_31 ml_X12_343 iv_X12_isWall (TX12s_k th) (cl_X12 rfl) rfl rfl (Nat.le_of_ble_eq_true rfl) (Nat.le_of_ble_eq_true rfl) (wB.mono (fun r13 mi14 ml15 F => ?_) F)
        refine b_ne (tgt := 45) (pc := 34) dX12_steps_34 (by decide) (fun c16 => ?_) (fun c16 => ?_)
        · have F := F.1 c16
          refine wp_iconst (v := -1) (pc := 45) dX12_steps_45 (by decide) ?_
          exact r_I (pc := 46) dX12_steps_46 rfl F
        · have F := F.2 c16
          refine wp_aload_n (pc := 37) dX12_steps_37 rfl ?_
          refine wp_iload_n (pc := 38) dX12_steps_38 rfl ?_
          refine cvB [.int x3] [] (pc := 39) dX12_steps_39 ml_X12_343 iv_X12_isWall (TX12s_k th) (cl_X12 rfl) rfl rfl (Nat.le_of_ble_eq_true rfl) (Nat.le_of_ble_eq_true rfl) (wB.mono (fun r17 mi18 ml19 F => ?_) F)
          refine b_eq (tgt := 47) (pc := 42) dX12_steps_42 (by decide) (fun c20 => ?_) (fun c20 => ?_)
          · have F := F.1 c20
            refine wp_aload_n (pc := 47) dX12_steps_47 rfl ?_
            refine wp_iload_n (pc := 48) dX12_steps_48 rfl ?_
            refine cvV [.int x2] [] (pc := 49) dX12_steps_49 ml_X12_579 iv_X12_findSoon (TX12s_k th) (cl_X12 rfl) rfl rfl (Nat.le_of_ble_eq_true rfl) (Nat.le_of_ble_eq_true rfl) (wV.mono (fun mi22 ml23 F => ?_) F)
            refine wp_aload_n (pc := 52) dX12_steps_52 rfl ?_
            refine wp_getR (pc := 53) dX12_steps_53 fl_X12_79 rfl (TX12s_k th) (TX12s_r51 th) ?_
            refine wp_iload_n (pc := 56) dX12_steps_56 rfl ?_
            refine wp_iald (pc := 57) dX12_steps_57 (TX12s_a51 th) F.1 ?_
            have F := F.2
            refine wp_ldcw (v := 1000000) (pc := 58) dX12_steps_58 (tb_7 197 rfl rfl) ?_
            refine wp_icmp_lt (tgt := 68) (pc := 61) dX12_steps_61 (by decide) (fun c24 => ?_) (fun c24 => ?_)
            · have F := F.1 c24
              refine wp_aload_n (pc := 68) dX12_steps_68 rfl ?_
              refine wp_getR (pc := 69) dX12_steps_69 fl_X12_79 rfl (TX12s_k th) (TX12s_r51 th) ?_
              refine wp_iload_n (pc := 72) dX12_steps_72 rfl ?_
              refine wp_iald (pc := 73) dX12_steps_73 (TX12s_a51 th) F.1 ?_
              have F := F.2
              exact r_I (pc := 74) dX12_steps_74 rfl F
            · have F := F.2 c24
              refine wp_iconst (v := -1) (pc := 64) dX12_steps_64 (by decide) ?_
              refine wp_goto (tgt := 74) (pc := 65) dX12_steps_65 (by decide) ?_
              exact r_I (pc := 74) dX12_steps_74 rfl F
          · have F := F.2 c20
            refine wp_iconst (v := -1) (pc := 45) dX12_steps_45 (by decide) ?_
            exact r_I (pc := 46) dX12_steps_46 rfl F
def c_X12_findSoon_111 (l : Launch) (d : Nat) (kd : pm_K) (mr : pm_R) (h : Nat) (x2 : Int32) (x3 : Int32) (x4 : Int32) (mi : pm_I) (ml : pm_L) (K : pm_I → pm_L → Prop) : Prop := wp l M_X12_findSoon d 0 0 111 [some (.ref h), none, some (.int x2), some (.int x3), some (.int x4), none] [] 0 0 kd mi ml mr (qV kd mr K)
def c_X12_findSoon_55 (l : Launch) (d : Nat) (kd : pm_K) (mr : pm_R) (h : Nat) (x2 : Int32) (x3 : Int32) (x4 : Int32) (mi : pm_I) (ml : pm_L) (K : pm_I → pm_L → Prop) : Prop := wp l M_X12_findSoon d 0 0 55 [some (.ref h), none, some (.int x2), some (.int x3), some (.int x4), none] [] 0 0 kd mi ml mr (qV kd mr K)
def c_X12_findSoon_44 (l : Launch) (d : Nat) (kd : pm_K) (mr : pm_R) (h : Nat) (x2 : Int32) (x3 : Int32) (mi : pm_I) (ml : pm_L) (K : pm_I → pm_L → Prop) : Prop := wp l M_X12_findSoon d 0 0 44 [some (.ref h), none, some (.int x2), some (.int x3), none, none] [] 0 0 kd mi ml mr (qV kd mr K)
def c_X12_findSoon_36 (l : Launch) (d : Nat) (kd : pm_K) (mr : pm_R) (h : Nat) (x2 : Int32) (mi : pm_I) (ml : pm_L) (K : pm_I → pm_L → Prop) : Prop := wp l M_X12_findSoon d 0 0 36 [some (.ref h), none, some (.int x2), none, none, none] [] 0 0 kd mi ml mr (qV kd mr K)
def c_X12_findSoon_2 (l : Launch) (d : Nat) (kd : pm_K) (mr : pm_R) (h : Nat) (x1 : Int32) (x2 : Int32) (mi : pm_I) (ml : pm_L) (K : pm_I → pm_L → Prop) : Prop := wp l M_X12_findSoon d 0 0 2 [some (.ref h), some (.int x1), some (.int x2), none, none, none] [] 0 0 kd mi ml mr (qV kd mr K)
theorem w_X12_findSoon_2 {l : Launch} {d : Nat} {kd : pm_K} {mr : pm_R} {h : Nat} {x1 : Int32} {x2 : Int32} {mi : pm_I} {ml : pm_L} {K : pm_I → pm_L → Prop} (th : TX12s kd mr h)
    (F : (((mi h 27) ≤ x2 → c_X12_findSoon_36 l (d + 1) kd mr h 1 mi ml K) ∧ (¬ (mi h 27) ≤ x2 → vp_in x2 64 ∧ c_X12_findSoon_2 l (d + 1) kd mr h x1 (x2 + 1) (pm_up mi (h + 23) (Int32.toNatClampNeg x2) (if x2 = x1 then (0 : Int32) else (1000000 : Int32))) ml K))) :
    c_X12_findSoon_2 l (d + 1) kd mr h x1 x2 mi ml K := by
  show wp l M_X12_findSoon (d + 1) 0 0 2 [some (.ref h), some (.int x1), some (.int x2), none, none, none] [] 0 0 kd mi ml mr _
  refine wp_iload_n (pc := 2) dX12_findSoon_2 rfl ?_
  refine wp_aload_n (pc := 3) dX12_findSoon_3 rfl ?_
  refine wp_getI (pc := 4) dX12_findSoon_4 fl_X12_331 rfl (TX12s_k th) ?_
  refine wp_icmp_ge (tgt := 34) (pc := 7) dX12_findSoon_7 (by decide) (fun c1 => ?_) (fun c1 => ?_)
  · have F := F.1 c1
    refine wp_iconst (v := 1) (pc := 34) dX12_findSoon_34 (by decide) ?_
    refine wp_istore_n (pc := 35) dX12_findSoon_35 (Nat.le_of_ble_eq_true rfl) rfl ?_
    show wp l M_X12_findSoon (d + 1) 0 0 _ [some (.ref h), some (.int x1), some (.int 1), none, none, none] _ 0 0 kd _ _ mr _
    exact wp_less (L' := [some (.ref h), none, some (.int 1), none, none, none]) ⟨rfl, ⟨rfl, trivial⟩⟩ F
  · have F := F.2 c1
    refine wp_aload_n (pc := 10) dX12_findSoon_10 rfl ?_
    refine wp_getR (pc := 11) dX12_findSoon_11 fl_X12_79 rfl (TX12s_k th) (TX12s_r51 th) ?_
    refine wp_iload_n (pc := 14) dX12_findSoon_14 rfl ?_
    refine wp_iload_n (pc := 15) dX12_findSoon_15 rfl ?_
    refine wp_iload_n (pc := 16) dX12_findSoon_16 rfl ?_
    suffices J2 : ∀ v3 : Int32, v3 = (if x2 = x1 then (0 : Int32) else (1000000 : Int32)) → wp l M_X12_findSoon (d + 1) 0 0 27 [some (.ref h), some (.int x1), some (.int x2), none, none, none] [.int v3, .int x2, .ref (h + 23)] 0 0 kd mi ml mr _ by
        refine wp_icmp_ne (tgt := 24) (pc := 17) dX12_findSoon_17 (by decide) (fun c4 => ?_) (fun c4 => ?_)
        · refine wp_ldcw (v := 1000000) (pc := 24) dX12_findSoon_24 (tb_7 197 rfl rfl) ?_
          exact J2 _ (by simp only [c4, if_true, if_false, decide_true, decide_false, Bool.not_true, Bool.not_false, Bool.true_and, Bool.false_and, Bool.true_or, Bool.false_or, b2i_t, b2i_f, ite_true, ite_false, not_true_eq_false, not_false_eq_true, reduceCtorEq, decide_eq_true_eq])
        · refine wp_iconst (v := 0) (pc := 20) dX12_findSoon_20 (by decide) ?_
          refine wp_goto (tgt := 27) (pc := 21) dX12_findSoon_21 (by decide) ?_
          exact J2 _ (by simp only [eq_true c4, if_true, if_false, decide_true, decide_false, Bool.not_true, Bool.not_false, Bool.true_and, Bool.false_and, Bool.true_or, Bool.false_or, b2i_t, b2i_f, ite_true, ite_false, not_true_eq_false, not_false_eq_true, reduceCtorEq, decide_eq_true_eq])
    intro v3 ev3
    subst ev3
    refine wp_iast (pc := 27) dX12_findSoon_27 (TX12s_a51 th) F.1 ?_
    have F := F.2
    refine wp_iinc (v := (x2 + 1)) (pc := 28) dX12_findSoon_28 rfl rfl rfl ?_
    show wp l M_X12_findSoon (d + 1) 0 0 _ [some (.ref h), some (.int x1), some (.int (x2 + 1)), none, none, none] _ 0 0 kd _ _ mr _
    refine wp_goto (tgt := 2) (pc := 31) dX12_findSoon_31 (by decide) ?_
    exact wp_less (L' := [some (.ref h), some (.int x1), some (.int (x2 + 1)), none, none, none]) ⟨rfl, ⟨rfl, ⟨rfl, trivial⟩⟩⟩ F
theorem w_X12_findSoon_36 {l : Launch} {d : Nat} {kd : pm_K} {mr : pm_R} {h : Nat} {x2 : Int32} {mi : pm_I} {ml : pm_L} {K : pm_I → pm_L → Prop} (th : TX12s kd mr h)
    (F : ((x2 = 0 → K mi ml) ∧ (¬ x2 = 0 → c_X12_findSoon_44 l (d + 1) kd mr h 0 0 mi ml K))) :
    c_X12_findSoon_36 l (d + 1) kd mr h x2 mi ml K := by
  show wp l M_X12_findSoon (d + 1) 0 0 36 [some (.ref h), none, some (.int x2), none, none, none] [] 0 0 kd mi ml mr _
  refine wp_iload_n (pc := 36) dX12_findSoon_36 rfl ?_
  refine wp_if_eq (tgt := 126) (pc := 37) dX12_findSoon_37 (by decide) (fun c5 => ?_) (fun c5 => ?_)
  · have F := F.1 c5
    exact r_V (pc := 126) dX12_findSoon_126 rfl F
  · have F := F.2 c5
    refine wp_iconst (v := 0) (pc := 40) dX12_findSoon_40 (by decide) ?_
    refine wp_istore_n (pc := 41) dX12_findSoon_41 (Nat.le_of_ble_eq_true rfl) rfl ?_
    show wp l M_X12_findSoon (d + 1) 0 0 _ [some (.ref h), none, some (.int 0), none, none, none] _ 0 0 kd _ _ mr _
    refine wp_iconst (v := 0) (pc := 42) dX12_findSoon_42 (by decide) ?_
    refine wp_istore_n (pc := 43) dX12_findSoon_43 (Nat.le_of_ble_eq_true rfl) rfl ?_
    show wp l M_X12_findSoon (d + 1) 0 0 _ [some (.ref h), none, some (.int 0), some (.int 0), none, none] _ 0 0 kd _ _ mr _
    exact wp_less (L' := [some (.ref h), none, some (.int 0), some (.int 0), none, none]) ⟨rfl, ⟨rfl, ⟨rfl, trivial⟩⟩⟩ F
theorem w_X12_findSoon_44 {l : Launch} {d : Nat} {kd : pm_K} {mr : pm_R} {h : Nat} {x2 : Int32} {x3 : Int32} {mi : pm_I} {ml : pm_L} {K : pm_I → pm_L → Prop} (th : TX12s kd mr h)
    (F : (((mi h 27) ≤ x3 → c_X12_findSoon_36 l (d + 1) kd mr h x2 mi ml K) ∧ (¬ (mi h 27) ≤ x3 → c_X12_findSoon_55 l (d + 1) kd mr h x2 x3 0 mi ml K))) :
    c_X12_findSoon_44 l (d + 1) kd mr h x2 x3 mi ml K := by
  show wp l M_X12_findSoon (d + 1) 0 0 44 [some (.ref h), none, some (.int x2), some (.int x3), none, none] [] 0 0 kd mi ml mr _
  refine wp_iload_n (pc := 44) dX12_findSoon_44 rfl ?_
  refine wp_aload_n (pc := 45) dX12_findSoon_45 rfl ?_
  refine wp_getI (pc := 46) dX12_findSoon_46 fl_X12_331 rfl (TX12s_k th) ?_
  refine wp_icmp_ge (tgt := 123) (pc := 49) dX12_findSoon_49 (by decide) (fun c6 => ?_) (fun c6 => ?_)
  · have F := F.1 c6
    refine wp_goto (tgt := 36) (pc := 123) dX12_findSoon_123 (by decide) ?_
    exact wp_less (L' := [some (.ref h), none, some (.int x2), none, none, none]) ⟨rfl, ⟨rfl, trivial⟩⟩ F
  · have F := F.2 c6
    refine wp_iconst (v := 0) (pc := 52) dX12_findSoon_52 (by decide) ?_
    refine wp_istore (pc := 53) dX12_findSoon_53 (Nat.le_of_ble_eq_true rfl) rfl ?_
    show wp l M_X12_findSoon (d + 1) 0 0 _ [some (.ref h), none, some (.int x2), some (.int x3), some (.int 0), none] _ 0 0 kd _ _ mr _
    exact wp_less (L' := [some (.ref h), none, some (.int x2), some (.int x3), some (.int 0), none]) ⟨rfl, ⟨rfl, ⟨rfl, ⟨rfl, trivial⟩⟩⟩⟩ F
theorem w_X12_findSoon_55 {l : Launch} {d : Nat} {kd : pm_K} {mr : pm_R} {h : Nat} {x2 : Int32} {x3 : Int32} {x4 : Int32} {mi : pm_I} {ml : pm_L} {K : pm_I → pm_L → Prop} (th : TX12s kd mr h)
    (F : ((4 ≤ x4 → c_X12_findSoon_44 l (d + 1) kd mr h x2 (x3 + 1) mi ml K) ∧ (¬ 4 ≤ x4 → wI l M_X12_free d [.ref h, .int x3, .int x4] kd mr mi ml (fun r8 mi9 ml10 => ((r8 = (-1) → c_X12_findSoon_111 l (d + 1) kd mr h x2 x3 x4 mi9 ml10 K) ∧ (¬ r8 = (-1) → vp_in x3 64 ∧ vp_in r8 64 ∧ (((mi9 (h + 23) (Int32.toNatClampNeg r8)) ≤ ((mi9 (h + 23) (Int32.toNatClampNeg x3)) + 1) → c_X12_findSoon_111 l (d + 1) kd mr h x2 x3 x4 mi9 ml10 K) ∧ (¬ (mi9 (h + 23) (Int32.toNatClampNeg r8)) ≤ ((mi9 (h + 23) (Int32.toNatClampNeg x3)) + 1) → vp_in x3 64 ∧ vp_in r8 64 ∧ c_X12_findSoon_111 l (d + 1) kd mr h 1 x3 x4 (pm_up mi9 (h + 23) (Int32.toNatClampNeg r8) ((mi9 (h + 23) (Int32.toNatClampNeg x3)) + 1)) ml10 K)))))))) :
    c_X12_findSoon_55 l (d + 1) kd mr h x2 x3 x4 mi ml K := by
  show wp l M_X12_findSoon (d + 1) 0 0 55 [some (.ref h), none, some (.int x2), some (.int x3), some (.int x4), none] [] 0 0 kd mi ml mr _
  refine wp_iload (pc := 55) dX12_findSoon_55 rfl ?_
  refine wp_iconst (v := 4) (pc := 57) dX12_findSoon_57 (by decide) ?_
  refine wp_icmp_ge (tgt := 117) (pc := 58) dX12_findSoon_58 (by decide) (fun c7 => ?_) (fun c7 => ?_)
  · have F := F.1 c7
    refine wp_iinc (v := (x3 + 1)) (pc := 117) dX12_findSoon_117 rfl rfl rfl ?_
    show wp l M_X12_findSoon (d + 1) 0 0 _ [some (.ref h), none, some (.int x2), some (.int (x3 + 1)), some (.int x4), none] _ 0 0 kd _ _ mr _
    refine wp_goto (tgt := 44) (pc := 120) dX12_findSoon_120 (by decide) ?_
    exact wp_less (L' := [some (.ref h), none, some (.int x2), some (.int (x3 + 1)), none, none]) ⟨rfl, ⟨rfl, ⟨rfl, trivial⟩⟩⟩ F
  · have F := F.2 c7
    refine wp_aload_n (pc := 61) dX12_findSoon_61 rfl ?_
    refine wp_iload_n (pc := 62) dX12_findSoon_62 rfl ?_
    refine wp_iload (pc := 63) dX12_findSoon_63 rfl ?_
    refine cvI [.int x3, .int x4] [] (pc := 65) dX12_findSoon_65 ml_X12_383 iv_X12_free (TX12s_k th) (cl_X12 rfl) rfl rfl (Nat.le_of_ble_eq_true rfl) (Nat.le_of_ble_eq_true rfl) (wI.mono (fun r8 mi9 ml10 F => ?_) F)
    refine wp_istore (pc := 68) dX12_findSoon_68 (Nat.le_of_ble_eq_true rfl) rfl ?_
    show wp l M_X12_findSoon (d + 1) 0 0 _ [some (.ref h), none, some (.int x2), some (.int x3), some (.int x4), some (.int r8)] _ 0 0 kd _ _ mr _
    refine wp_iload (pc := 70) dX12_findSoon_70 rfl ?_
    refine wp_iconst (v := -1) (pc := 72) dX12_findSoon_72 (by decide) ?_
    refine wp_icmp_eq (tgt := 111) (pc := 73) dX12_findSoon_73 (by decide) (fun c11 => ?_) (fun c11 => ?_)
    · have F := F.1 c11
      exact wp_less (L' := [some (.ref h), none, some (.int x2), some (.int x3), some (.int x4), none]) ⟨rfl, ⟨rfl, ⟨rfl, ⟨rfl, trivial⟩⟩⟩⟩ F
    · have F := F.2 c11
      refine wp_aload_n (pc := 76) dX12_findSoon_76 rfl ?_
      refine wp_getR (pc := 77) dX12_findSoon_77 fl_X12_79 rfl (TX12s_k th) (TX12s_r51 th) ?_
      refine wp_iload_n (pc := 80) dX12_findSoon_80 rfl ?_
      refine wp_iald (pc := 81) dX12_findSoon_81 (TX12s_a51 th) F.1 ?_
      have F := F.2
      refine wp_iconst (v := 1) (pc := 82) dX12_findSoon_82 (by decide) ?_
      refine wp_iadd (pc := 83) dX12_findSoon_83 ?_
      refine wp_aload_n (pc := 84) dX12_findSoon_84 rfl ?_
      refine wp_getR (pc := 85) dX12_findSoon_85 fl_X12_79 rfl (TX12s_k th) (TX12s_r51 th) ?_
      refine wp_iload (pc := 88) dX12_findSoon_88 rfl ?_
      refine wp_iald (pc := 90) dX12_findSoon_90 (TX12s_a51 th) F.1 ?_
      have F := F.2
      refine wp_icmp_ge (tgt := 111) (pc := 91) dX12_findSoon_91 (by decide) (fun c12 => ?_) (fun c12 => ?_)
      · have F := F.1 c12
        exact wp_less (L' := [some (.ref h), none, some (.int x2), some (.int x3), some (.int x4), none]) ⟨rfl, ⟨rfl, ⟨rfl, ⟨rfl, trivial⟩⟩⟩⟩ F
      · have F := F.2 c12
        refine wp_aload_n (pc := 94) dX12_findSoon_94 rfl ?_
        refine wp_getR (pc := 95) dX12_findSoon_95 fl_X12_79 rfl (TX12s_k th) (TX12s_r51 th) ?_
        refine wp_iload (pc := 98) dX12_findSoon_98 rfl ?_
        refine wp_aload_n (pc := 100) dX12_findSoon_100 rfl ?_
        refine wp_getR (pc := 101) dX12_findSoon_101 fl_X12_79 rfl (TX12s_k th) (TX12s_r51 th) ?_
        refine wp_iload_n (pc := 104) dX12_findSoon_104 rfl ?_
        refine wp_iald (pc := 105) dX12_findSoon_105 (TX12s_a51 th) F.1 ?_
        have F := F.2
        refine wp_iconst (v := 1) (pc := 106) dX12_findSoon_106 (by decide) ?_
        refine wp_iadd (pc := 107) dX12_findSoon_107 ?_
        refine wp_iast (pc := 108) dX12_findSoon_108 (TX12s_a51 th) F.1 ?_
        have F := F.2
        refine wp_iconst (v := 1) (pc := 109) dX12_findSoon_109 (by decide) ?_
        refine wp_istore_n (pc := 110) dX12_findSoon_110 (Nat.le_of_ble_eq_true rfl) rfl ?_
        show wp l M_X12_findSoon (d + 1) 0 0 _ [some (.ref h), none, some (.int 1), some (.int x3), some (.int x4), some (.int r8)] _ 0 0 kd _ _ mr _
        exact wp_less (L' := [some (.ref h), none, some (.int 1), some (.int x3), some (.int x4), none]) ⟨rfl, ⟨rfl, ⟨rfl, ⟨rfl, trivial⟩⟩⟩⟩ F
theorem w_X12_findSoon_111 {l : Launch} {d : Nat} {kd : pm_K} {mr : pm_R} {h : Nat} {x2 : Int32} {x3 : Int32} {x4 : Int32} {mi : pm_I} {ml : pm_L} {K : pm_I → pm_L → Prop} (th : TX12s kd mr h)
    (F : c_X12_findSoon_55 l (d + 1) kd mr h x2 x3 (x4 + 1) mi ml K) :
    c_X12_findSoon_111 l (d + 1) kd mr h x2 x3 x4 mi ml K := by
  show wp l M_X12_findSoon (d + 1) 0 0 111 [some (.ref h), none, some (.int x2), some (.int x3), some (.int x4), none] [] 0 0 kd mi ml mr _
  refine wp_iinc (v := (x4 + 1)) (pc := 111) dX12_findSoon_111 rfl rfl rfl ?_
  show wp l M_X12_findSoon (d + 1) 0 0 _ [some (.ref h), none, some (.int x2), some (.int x3), some (.int (x4 + 1)), none] _ 0 0 kd _ _ mr _
  refine wp_goto (tgt := 55) (pc := 114) dX12_findSoon_114 (by decide) ?_
  exact wp_less (L' := [some (.ref h), none, some (.int x2), some (.int x3), some (.int (x4 + 1)), none]) ⟨rfl, ⟨rfl, ⟨rfl, ⟨rfl, trivial⟩⟩⟩⟩ F
/-- findSoon(I)V -/
theorem w_X12_findSoon {l : Launch} {d : Nat} {kd : pm_K} {mr : pm_R} {h : Nat} {x1 : Int32} {mi : pm_I} {ml : pm_L} {K : pm_I → pm_L → Prop} (th : TX12s kd mr h)
    (F : c_X12_findSoon_2 l (d + 1) kd mr h x1 0 mi ml K) :
    wV l M_X12_findSoon (d + 1) [.ref h, .int x1] kd mr mi ml K := by
  show wp l M_X12_findSoon (d + 1) 0 0 0 [some (.ref h), some (.int x1), none, none, none, none] [] 0 0 kd mi ml mr _
  refine wp_iconst (v := 0) (pc := 0) dX12_findSoon_0 (by decide) ?_
  refine wp_istore_n (pc := 1) dX12_findSoon_1 (Nat.le_of_ble_eq_true rfl) rfl ?_
  show wp l M_X12_findSoon (d + 1) 0 0 _ [some (.ref h), some (.int x1), some (.int 0), none, none, none] _ 0 0 kd _ _ mr _
  exact wp_less (L' := [some (.ref h), some (.int x1), some (.int 0), none, none, none]) ⟨rfl, ⟨rfl, ⟨rfl, trivial⟩⟩⟩ F
def c_X12_blocks_117 (l : Launch) (d : Nat) (kd : pm_K) (mr : pm_R) (h : Nat) (x2 : Int32) (x3 : Int32) (x4 : Int32) (x5 : Int32) (x6 : Int32) (x7 : Int32) (mi : pm_I) (ml : pm_L) (K : Int32 → pm_I → pm_L → Prop) : Prop := wp l M_X12_blocks d 0 0 117 [some (.ref h), none, some (.int x2), some (.int x3), some (.int x4), some (.int x5), some (.int x6), some (.int x7), none] [] 0 0 kd mi ml mr (qI kd mr K)
def c_X12_blocks_52 (l : Launch) (d : Nat) (kd : pm_K) (mr : pm_R) (h : Nat) (x2 : Int32) (x3 : Int32) (x4 : Int32) (x5 : Int32) (x6 : Int32) (x7 : Int32) (x8 : Int32) (mi : pm_I) (ml : pm_L) (K : Int32 → pm_I → pm_L → Prop) : Prop := wp l M_X12_blocks d 0 0 52 [some (.ref h), none, some (.int x2), some (.int x3), some (.int x4), some (.int x5), some (.int x6), some (.int x7), some (.int x8)] [] 0 0 kd mi ml mr (qI kd mr K)
def c_X12_blocks_23 (l : Launch) (d : Nat) (kd : pm_K) (mr : pm_R) (h : Nat) (x2 : Int32) (x3 : Int32) (x4 : Int32) (x5 : Int32) (mi : pm_I) (ml : pm_L) (K : Int32 → pm_I → pm_L → Prop) : Prop := wp l M_X12_blocks d 0 0 23 [some (.ref h), none, some (.int x2), some (.int x3), some (.int x4), some (.int x5), none, none, none] [] 0 0 kd mi ml mr (qI kd mr K)
theorem w_X12_blocks_23 {l : Launch} {d : Nat} {kd : pm_K} {mr : pm_R} {h : Nat} {x2 : Int32} {x3 : Int32} {x4 : Int32} {x5 : Int32} {mi : pm_I} {ml : pm_L} {K : Int32 → pm_I → pm_L → Prop} (th : TX12s kd mr h)
    (F : (((mi h 27) ≤ x5 → K (if x2 = 0 then x3 else x4) mi ml) ∧ (¬ (mi h 27) ≤ x5 → wV l M_X12_findSoon d [.ref h, .int x5] kd mr mi ml (fun mi10 ml11 => c_X12_blocks_52 l (d + 1) kd mr h x2 x3 x4 x5 0 (-1) ((mi10 h 27) - 1) mi10 ml11 K)))) :
    c_X12_blocks_23 l (d + 1) kd mr h x2 x3 x4 x5 mi ml K := by
  show wp l M_X12_blocks (d + 1) 0 0 23 [some (.ref h), none, some (.int x2), some (.int x3), some (.int x4), some (.int x5), none, none, none] [] 0 0 kd mi ml mr _
  refine wp_iload (pc := 23) dX12_blocks_23 rfl ?_
  refine wp_aload_n (pc := 25) dX12_blocks_25 rfl ?_
  refine wp_getI (pc := 26) dX12_blocks_26 fl_X12_331 rfl (TX12s_k th) ?_
  refine wp_icmp_ge (tgt := 147) (pc := 29) dX12_blocks_29 (by decide) (fun c5 => ?_) (fun c5 => ?_)
  · have F := F.1 c5
    refine wp_iload_n (pc := 147) dX12_blocks_147 rfl ?_
    suffices J6 : ∀ v7 : Int32, v7 = (if x2 = 0 then x3 else x4) → wp l M_X12_blocks (d + 1) 0 0 157 [some (.ref h), none, some (.int x2), some (.int x3), some (.int x4), some (.int x5), none, none, none] [.int v7] 0 0 kd mi ml mr _ by
        refine wp_if_eq (tgt := 156) (pc := 148) dX12_blocks_148 (by decide) (fun c8 => ?_) (fun c8 => ?_)
        · refine wp_iload_n (pc := 156) dX12_blocks_156 rfl ?_
          exact J6 _ (by simp only [eq_true c8, if_true, if_false, decide_true, decide_false, Bool.not_true, Bool.not_false, Bool.true_and, Bool.false_and, Bool.true_or, Bool.false_or, b2i_t, b2i_f, ite_true, ite_false, not_true_eq_false, not_false_eq_true, reduceCtorEq, decide_eq_true_eq])
        · refine wp_iload (pc := 151) dX12_blocks_151 rfl ?_
          refine wp_goto (tgt := 157) (pc := 153) dX12_blocks_153 (by decide) ?_
          exact J6 _ (by simp only [c8, if_true, if_false, decide_true, decide_false, Bool.not_true, Bool.not_false, Bool.true_and, Bool.false_and, Bool.true_or, Bool.false_or, b2i_t, b2i_f, ite_true, ite_false, not_true_eq_false, not_false_eq_true, reduceCtorEq, decide_eq_true_eq])
    intro v7 ev7
    subst ev7
    exact r_I (pc := 157) dX12_blocks_157 rfl F
  · have F := F.2 c5
    refine wp_iconst (v := 0) (pc := 32) dX12_blocks_32 (by decide) ?_
    refine wp_istore (pc := 33) dX12_blocks_33 (Nat.le_of_ble_eq_true rfl) rfl ?_
    show wp l M_X12_blocks (d + 1) 0 0 _ [some (.ref h), none, some (.int x2), some (.int x3), some (.int x4), some (.int x5), some (.int 0), none, none] _ 0 0 kd _ _ mr _
    refine wp_iconst (v := -1) (pc := 35) dX12_blocks_35 (by decide) ?_
    refine wp_istore (pc := 36) dX12_blocks_36 (Nat.le_of_ble_eq_true rfl) rfl ?_
    show wp l M_X12_blocks (d + 1) 0 0 _ [some (.ref h), none, some (.int x2), some (.int x3), some (.int x4), some (.int x5), some (.int 0), some (.int (-1)), none] _ 0 0 kd _ _ mr _
    refine wp_aload_n (pc := 38) dX12_blocks_38 rfl ?_
    refine wp_iload (pc := 39) dX12_blocks_39 rfl ?_
    refine cvV [.int x5] [] (pc := 41) dX12_blocks_41 ml_X12_579 iv_X12_findSoon (TX12s_k th) (cl_X12 rfl) rfl rfl (Nat.le_of_ble_eq_true rfl) (Nat.le_of_ble_eq_true rfl) (wV.mono (fun mi10 ml11 F => ?_) F)
    refine wp_aload_n (pc := 44) dX12_blocks_44 rfl ?_
    refine wp_getI (pc := 45) dX12_blocks_45 fl_X12_331 rfl (TX12s_k th) ?_
    refine wp_iconst (v := 1) (pc := 48) dX12_blocks_48 (by decide) ?_
    refine wp_isub (pc := 49) dX12_blocks_49 ?_
    refine wp_istore (pc := 50) dX12_blocks_50 (Nat.le_of_ble_eq_true rfl) rfl ?_
    show wp l M_X12_blocks (d + 1) 0 0 _ [some (.ref h), none, some (.int x2), some (.int x3), some (.int x4), some (.int x5), some (.int 0), some (.int (-1)), some (.int ((mi10 h 27) - 1))] _ 0 0 kd _ _ mr _
    exact wp_less (L' := [some (.ref h), none, some (.int x2), some (.int x3), some (.int x4), some (.int x5), some (.int 0), some (.int (-1)), some (.int ((mi10 h 27) - 1))]) ⟨rfl, ⟨rfl, ⟨rfl, ⟨rfl, ⟨rfl, ⟨rfl, ⟨rfl, ⟨rfl, trivial⟩⟩⟩⟩⟩⟩⟩⟩ F
theorem w_X12_blocks_52 {l : Launch} {d : Nat} {kd : pm_K} {mr : pm_R} {h : Nat} {x2 : Int32} {x3 : Int32} {x4 : Int32} {x5 : Int32} {x6 : Int32} {x7 : Int32} {x8 : Int32} {mi : pm_I} {ml : pm_L} {K : Int32 → pm_I → pm_L → Prop} (th : TX12s kd mr h)
    (F : ((x8 < 0 → c_X12_blocks_117 l (d + 1) kd mr h x2 x3 x4 x5 x6 x7 mi ml K) ∧ (¬ x8 < 0 → wB l M_X12_isWall d [.ref h, .int x5] kd mr mi ml (fun r13 mi14 ml15 => ((r13 = true → c_X12_blocks_117 l (d + 1) kd mr h x2 x3 x4 x5 x6 x7 mi14 ml15 K) ∧ (r13 = false → vp_in x8 64 ∧ vp_in x8 64 ∧ c_X12_blocks_52 l (d + 1) kd mr h x2 x3 x4 x5 (x6 + (b2i (!decide (1000000 ≤ (mi14 (h + 23) (Int32.toNatClampNeg x8)))))) (if 1000000 ≤ (mi14 (h + 23) (Int32.toNatClampNeg x8)) then x7 else x8) (x8 + (-1)) mi14 ml15 K)))))) :
    c_X12_blocks_52 l (d + 1) kd mr h x2 x3 x4 x5 x6 x7 x8 mi ml K := by
  show wp l M_X12_blocks (d + 1) 0 0 52 [some (.ref h), none, some (.int x2), some (.int x3), some (.int x4), some (.int x5), some (.int x6), some (.int x7), some (.int x8)] [] 0 0 kd mi ml mr _
  refine wp_iload (pc := 52) dX12_blocks_52 rfl ?_
  refine wp_if_lt (tgt := 117) (pc := 54) dX12_blocks_54 (by decide) (fun c12 => ?_) (fun c12 => ?_)
  · have F := F.1 c12
    exact wp_less (L' := [some (.ref h), none, some (.int x2), some (.int x3), some (.int x4), some (.int x5), some (.int x6), some (.int x7), none]) ⟨rfl, ⟨rfl, ⟨rfl, ⟨rfl, ⟨rfl, ⟨rfl, ⟨rfl, trivial⟩⟩⟩⟩⟩⟩⟩ F
  · have F := F.2 c12
    refine wp_aload_n (pc := 57) dX12_blocks_57 rfl ?_
    refine wp_iload (pc := 58) dX12_blocks_58 rfl ?_
    refine cvB [.int x5] [] (pc := 60) dX12_blocks_60 ml_X12_343 iv_X12_isWall (TX12s_k th) (cl_X12 rfl) rfl rfl (Nat.le_of_ble_eq_true rfl) (Nat.le_of_ble_eq_true rfl) (wB.mono (fun r13 mi14 ml15 F => ?_) F)
    refine b_ne (tgt := 117) (pc := 63) dX12_blocks_63 (by decide) (fun c16 => ?_) (fun c16 => ?_)
    · have F := F.1 c16
      exact wp_less (L' := [some (.ref h), none, some (.int x2), some (.int x3), some (.int x4), some (.int x5), some (.int x6), some (.int x7), none]) ⟨rfl, ⟨rfl, ⟨rfl, ⟨rfl, ⟨rfl, ⟨rfl, ⟨rfl, trivial⟩⟩⟩⟩⟩⟩⟩ F
    · have F := F.2 c16
      refine wp_iload (pc := 66) dX12_blocks_66 rfl ?_
      refine wp_aload_n (pc := 68) dX12_blocks_68 rfl ?_
      refine wp_getR (pc := 69) dX12_blocks_69 fl_X12_79 rfl (TX12s_k th) (TX12s_r51 th) ?_
      refine wp_iload (pc := 72) dX12_blocks_72 rfl ?_
      refine wp_iald (pc := 74) dX12_blocks_74 (TX12s_a51 th) F.1 ?_
      have F := F.2
      refine wp_ldcw (v := 1000000) (pc := 75) dX12_blocks_75 (tb_7 197 rfl rfl) ?_
      suffices J17 : ∀ v18 : Int32, v18 = (b2i (!decide (1000000 ≤ (mi14 (h + 23) (Int32.toNatClampNeg x8))))) → wp l M_X12_blocks (d + 1) 0 0 86 [some (.ref h), none, some (.int x2), some (.int x3), some (.int x4), some (.int x5), some (.int x6), some (.int x7), some (.int x8)] [.int v18, .int x6] 0 0 kd mi14 ml15 mr _ by
          refine wp_icmp_ge (tgt := 85) (pc := 78) dX12_blocks_78 (by decide) (fun c19 => ?_) (fun c19 => ?_)
          · refine wp_iconst (v := 0) (pc := 85) dX12_blocks_85 (by decide) ?_
            exact J17 _ (by simp only [eq_true c19, if_true, if_false, decide_true, decide_false, Bool.not_true, Bool.not_false, Bool.true_and, Bool.false_and, Bool.true_or, Bool.false_or, b2i_t, b2i_f, ite_true, ite_false, not_true_eq_false, not_false_eq_true, reduceCtorEq, decide_eq_true_eq])
          · refine wp_iconst (v := 1) (pc := 81) dX12_blocks_81 (by decide) ?_
            refine wp_goto (tgt := 86) (pc := 82) dX12_blocks_82 (by decide) ?_
            exact J17 _ (by simp only [c19, if_true, if_false, decide_true, decide_false, Bool.not_true, Bool.not_false, Bool.true_and, Bool.false_and, Bool.true_or, Bool.false_or, b2i_t, b2i_f, ite_true, ite_false, not_true_eq_false, not_false_eq_true, reduceCtorEq, decide_eq_true_eq])
      intro v18 ev18
      subst ev18
      refine wp_iadd (pc := 86) dX12_blocks_86 ?_
      refine wp_istore (pc := 87) dX12_blocks_87 (Nat.le_of_ble_eq_true rfl) rfl ?_
      show wp l M_X12_blocks (d + 1) 0 0 _ [some (.ref h), none, some (.int x2), some (.int x3), some (.int x4), some (.int x5), some (.int (x6 + (b2i (!decide (1000000 ≤ (mi14 (h + 23) (Int32.toNatClampNeg x8))))))), some (.int x7), some (.int x8)] _ 0 0 kd _ _ mr _
      refine wp_aload_n (pc := 89) dX12_blocks_89 rfl ?_
      refine wp_getR (pc := 90) dX12_blocks_90 fl_X12_79 rfl (TX12s_k th) (TX12s_r51 th) ?_
      refine wp_iload (pc := 93) dX12_blocks_93 rfl ?_
      refine wp_iald (pc := 95) dX12_blocks_95 (TX12s_a51 th) F.1 ?_
      have F := F.2
      refine wp_ldcw (v := 1000000) (pc := 96) dX12_blocks_96 (tb_7 197 rfl rfl) ?_
      suffices J20 : ∀ v21 : Int32, v21 = (if 1000000 ≤ (mi14 (h + 23) (Int32.toNatClampNeg x8)) then x7 else x8) → wp l M_X12_blocks (d + 1) 0 0 109 [some (.ref h), none, some (.int x2), some (.int x3), some (.int x4), some (.int x5), some (.int (x6 + (b2i (!decide (1000000 ≤ (mi14 (h + 23) (Int32.toNatClampNeg x8))))))), some (.int x7), some (.int x8)] [.int v21] 0 0 kd mi14 ml15 mr _ by
          refine wp_icmp_ge (tgt := 107) (pc := 99) dX12_blocks_99 (by decide) (fun c22 => ?_) (fun c22 => ?_)
          · refine wp_iload (pc := 107) dX12_blocks_107 rfl ?_
            exact J20 _ (by simp only [eq_true c22, if_true, if_false, decide_true, decide_false, Bool.not_true, Bool.not_false, Bool.true_and, Bool.false_and, Bool.true_or, Bool.false_or, b2i_t, b2i_f, ite_true, ite_false, not_true_eq_false, not_false_eq_true, reduceCtorEq, decide_eq_true_eq])
          · refine wp_iload (pc := 102) dX12_blocks_102 rfl ?_
            refine wp_goto (tgt := 109) (pc := 104) dX12_blocks_104 (by decide) ?_
            exact J20 _ (by simp only [c22, if_true, if_false, decide_true, decide_false, Bool.not_true, Bool.not_false, Bool.true_and, Bool.false_and, Bool.true_or, Bool.false_or, b2i_t, b2i_f, ite_true, ite_false, not_true_eq_false, not_false_eq_true, reduceCtorEq, decide_eq_true_eq])
      intro v21 ev21
      subst ev21
      refine wp_istore (pc := 109) dX12_blocks_109 (Nat.le_of_ble_eq_true rfl) rfl ?_
      show wp l M_X12_blocks (d + 1) 0 0 _ [some (.ref h), none, some (.int x2), some (.int x3), some (.int x4), some (.int x5), some (.int (x6 + (b2i (!decide (1000000 ≤ (mi14 (h + 23) (Int32.toNatClampNeg x8))))))), some (.int (if 1000000 ≤ (mi14 (h + 23) (Int32.toNatClampNeg x8)) then x7 else x8)), some (.int x8)] _ 0 0 kd _ _ mr _
      refine wp_iinc (v := (x8 + (-1))) (pc := 111) dX12_blocks_111 rfl rfl rfl ?_
      show wp l M_X12_blocks (d + 1) 0 0 _ [some (.ref h), none, some (.int x2), some (.int x3), some (.int x4), some (.int x5), some (.int (x6 + (b2i (!decide (1000000 ≤ (mi14 (h + 23) (Int32.toNatClampNeg x8))))))), some (.int (if 1000000 ≤ (mi14 (h + 23) (Int32.toNatClampNeg x8)) then x7 else x8)), some (.int (x8 + (-1)))] _ 0 0 kd _ _ mr _
      refine wp_goto (tgt := 52) (pc := 114) dX12_blocks_114 (by decide) ?_
      exact wp_less (L' := [some (.ref h), none, some (.int x2), some (.int x3), some (.int x4), some (.int x5), some (.int (x6 + (b2i (!decide (1000000 ≤ (mi14 (h + 23) (Int32.toNatClampNeg x8))))))), some (.int (if 1000000 ≤ (mi14 (h + 23) (Int32.toNatClampNeg x8)) then x7 else x8)), some (.int (x8 + (-1)))]) ⟨rfl, ⟨rfl, ⟨rfl, ⟨rfl, ⟨rfl, ⟨rfl, ⟨rfl, ⟨rfl, trivial⟩⟩⟩⟩⟩⟩⟩⟩ F
theorem w_X12_blocks_117 {l : Launch} {d : Nat} {kd : pm_K} {mr : pm_R} {h : Nat} {x2 : Int32} {x3 : Int32} {x4 : Int32} {x5 : Int32} {x6 : Int32} {x7 : Int32} {mi : pm_I} {ml : pm_L} {K : Int32 → pm_I → pm_L → Prop} (th : TX12s kd mr h)
    (F : wI l M_X12_greater d [.int x4, .int x6] kd mr mi ml (fun r26 mi27 ml28 => c_X12_blocks_23 l (d + 1) kd mr h x2 (x3 + (b2i (decide (x7 = x5)))) r26 (x5 + 1) mi27 ml28 K)) :
    c_X12_blocks_117 l (d + 1) kd mr h x2 x3 x4 x5 x6 x7 mi ml K := by
  show wp l M_X12_blocks (d + 1) 0 0 117 [some (.ref h), none, some (.int x2), some (.int x3), some (.int x4), some (.int x5), some (.int x6), some (.int x7), none] [] 0 0 kd mi ml mr _
  refine wp_iload_n (pc := 117) dX12_blocks_117 rfl ?_
  refine wp_iload (pc := 118) dX12_blocks_118 rfl ?_
  refine wp_iload (pc := 120) dX12_blocks_120 rfl ?_
  suffices J23 : ∀ v24 : Int32, v24 = (b2i (decide (x7 = x5))) → wp l M_X12_blocks (d + 1) 0 0 130 [some (.ref h), none, some (.int x2), some (.int x3), some (.int x4), some (.int x5), some (.int x6), some (.int x7), none] [.int v24, .int x3] 0 0 kd mi ml mr _ by
      refine wp_icmp_ne (tgt := 129) (pc := 122) dX12_blocks_122 (by decide) (fun c25 => ?_) (fun c25 => ?_)
      · refine wp_iconst (v := 0) (pc := 129) dX12_blocks_129 (by decide) ?_
        exact J23 _ (by simp only [c25, if_true, if_false, decide_true, decide_false, Bool.not_true, Bool.not_false, Bool.true_and, Bool.false_and, Bool.true_or, Bool.false_or, b2i_t, b2i_f, ite_true, ite_false, not_true_eq_false, not_false_eq_true, reduceCtorEq, decide_eq_true_eq])
      · refine wp_iconst (v := 1) (pc := 125) dX12_blocks_125 (by decide) ?_
        refine wp_goto (tgt := 130) (pc := 126) dX12_blocks_126 (by decide) ?_
        exact J23 _ (by simp only [eq_true c25, if_true, if_false, decide_true, decide_false, Bool.not_true, Bool.not_false, Bool.true_and, Bool.false_and, Bool.true_or, Bool.false_or, b2i_t, b2i_f, ite_true, ite_false, not_true_eq_false, not_false_eq_true, reduceCtorEq, decide_eq_true_eq])
  intro v24 ev24
  subst ev24
  refine wp_iadd (pc := 130) dX12_blocks_130 ?_
  refine wp_istore_n (pc := 131) dX12_blocks_131 (Nat.le_of_ble_eq_true rfl) rfl ?_
  show wp l M_X12_blocks (d + 1) 0 0 _ [some (.ref h), none, some (.int x2), some (.int (x3 + (b2i (decide (x7 = x5))))), some (.int x4), some (.int x5), some (.int x6), some (.int x7), none] _ 0 0 kd _ _ mr _
  refine wp_iload (pc := 132) dX12_blocks_132 rfl ?_
  refine wp_iload (pc := 134) dX12_blocks_134 rfl ?_
  refine csI [.int x4, .int x6] [] (pc := 136) dX12_blocks_136 ml_X12_180 st_X12_greater rfl rfl (Nat.le_of_ble_eq_true rfl) (Nat.le_of_ble_eq_true rfl) (wI.mono (fun r26 mi27 ml28 F => ?_) F)
  refine wp_istore (pc := 139) dX12_blocks_139 (Nat.le_of_ble_eq_true rfl) rfl ?_
  show wp l M_X12_blocks (d + 1) 0 0 _ [some (.ref h), none, some (.int x2), some (.int (x3 + (b2i (decide (x7 = x5))))), some (.int r26), some (.int x5), some (.int x6), some (.int x7), none] _ 0 0 kd _ _ mr _
  refine wp_iinc (v := (x5 + 1)) (pc := 141) dX12_blocks_141 rfl rfl rfl ?_
  show wp l M_X12_blocks (d + 1) 0 0 _ [some (.ref h), none, some (.int x2), some (.int (x3 + (b2i (decide (x7 = x5))))), some (.int r26), some (.int (x5 + 1)), some (.int x6), some (.int x7), none] _ 0 0 kd _ _ mr _
  refine wp_goto (tgt := 23) (pc := 144) dX12_blocks_144 (by decide) ?_
  exact wp_less (L' := [some (.ref h), none, some (.int x2), some (.int (x3 + (b2i (decide (x7 = x5))))), some (.int r26), some (.int (x5 + 1)), none, none, none]) ⟨rfl, ⟨rfl, ⟨rfl, ⟨rfl, ⟨rfl, trivial⟩⟩⟩⟩⟩ F
/-- blocks(IZ)I -/
theorem w_X12_blocks {l : Launch} {d : Nat} {kd : pm_K} {mr : pm_R} {h : Nat} {x1 : Int32} {x2 : Bool} {mi : pm_I} {ml : pm_L} {K : Int32 → pm_I → pm_L → Prop} (th : TX12s kd mr h)
    (F : wB l M_X12_hand d [.ref h, .int x1] kd mr (pm_up mi h 0 0) ml (fun r1 mi2 ml3 => ((r1 = true → c_X12_blocks_23 l (d + 1) kd mr h (b2i x2) 0 0 0 mi2 ml3 K) ∧ (r1 = false → K (-1) mi2 ml3)))) :
    wI l M_X12_blocks (d + 1) [.ref h, .int x1, .int (b2i x2)] kd mr mi ml K := by
  show wp l M_X12_blocks (d + 1) 0 0 0 [some (.ref h), some (.int x1), some (.int (b2i x2)), none, none, none, none, none, none] [] 0 0 kd mi ml mr _
  refine wp_aload_n (pc := 0) dX12_blocks_0 rfl ?_
  refine wp_iconst (v := 0) (pc := 1) dX12_blocks_1 (by decide) ?_
  refine wp_putI (pc := 2) dX12_blocks_2 fl_X12_107 rfl rfl (TX12s_k th) ?_
  refine wp_aload_n (pc := 5) dX12_blocks_5 rfl ?_
  refine wp_iload_n (pc := 6) dX12_blocks_6 rfl ?_
  refine cvB [.int x1] [] (pc := 7) dX12_blocks_7 ml_X12_346 iv_X12_hand (TX12s_k th) (cl_X12 rfl) rfl rfl (Nat.le_of_ble_eq_true rfl) (Nat.le_of_ble_eq_true rfl) (wB.mono (fun r1 mi2 ml3 F => ?_) F)
  refine b_ne (tgt := 15) (pc := 10) dX12_blocks_10 (by decide) (fun c4 => ?_) (fun c4 => ?_)
  · have F := F.1 c4
    refine wp_iconst (v := 0) (pc := 15) dX12_blocks_15 (by decide) ?_
    refine wp_istore_n (pc := 16) dX12_blocks_16 (Nat.le_of_ble_eq_true rfl) rfl ?_
    show wp l M_X12_blocks (d + 1) 0 0 _ [some (.ref h), some (.int x1), some (.int (b2i x2)), some (.int 0), none, none, none, none, none] _ 0 0 kd _ _ mr _
    refine wp_iconst (v := 0) (pc := 17) dX12_blocks_17 (by decide) ?_
    refine wp_istore (pc := 18) dX12_blocks_18 (Nat.le_of_ble_eq_true rfl) rfl ?_
    show wp l M_X12_blocks (d + 1) 0 0 _ [some (.ref h), some (.int x1), some (.int (b2i x2)), some (.int 0), some (.int 0), none, none, none, none] _ 0 0 kd _ _ mr _
    refine wp_iconst (v := 0) (pc := 20) dX12_blocks_20 (by decide) ?_
    refine wp_istore (pc := 21) dX12_blocks_21 (Nat.le_of_ble_eq_true rfl) rfl ?_
    show wp l M_X12_blocks (d + 1) 0 0 _ [some (.ref h), some (.int x1), some (.int (b2i x2)), some (.int 0), some (.int 0), some (.int 0), none, none, none] _ 0 0 kd _ _ mr _
    exact wp_less (L' := [some (.ref h), none, some (.int (b2i x2)), some (.int 0), some (.int 0), some (.int 0), none, none, none]) ⟨rfl, ⟨rfl, ⟨rfl, ⟨rfl, ⟨rfl, trivial⟩⟩⟩⟩⟩ F
  · have F := F.2 c4
    refine wp_iconst (v := -1) (pc := 13) dX12_blocks_13 (by decide) ?_
    exact r_I (pc := 14) dX12_blocks_14 rfl F
def c_X12_cordon_94 (l : Launch) (d : Nat) (kd : pm_K) (mr : pm_R) (h : Nat) (x2 : Int32) (x3 : Int32) (x4 : Int32) (mi : pm_I) (ml : pm_L) (K : Int32 → pm_I → pm_L → Prop) : Prop := wp l M_X12_cordon d 0 0 94 [some (.ref h), none, some (.int x2), some (.int x3), some (.int x4)] [] 0 0 kd mi ml mr (qI kd mr K)
def c_X12_cordon_64 (l : Launch) (d : Nat) (kd : pm_K) (mr : pm_R) (h : Nat) (x2 : Int32) (x3 : Int32) (x4 : Int32) (mi : pm_I) (ml : pm_L) (K : Int32 → pm_I → pm_L → Prop) : Prop := wp l M_X12_cordon d 0 0 64 [some (.ref h), none, some (.int x2), some (.int x3), some (.int x4)] [] 0 0 kd mi ml mr (qI kd mr K)
theorem w_X12_cordon_64 {l : Launch} {d : Nat} {kd : pm_K} {mr : pm_R} {h : Nat} {x2 : Int32} {x3 : Int32} {x4 : Int32} {mi : pm_I} {ml : pm_L} {K : Int32 → pm_I → pm_L → Prop} (th : TX12s kd mr h)
    (F : ((4096 ≤ x4 → wV l M_X12_layRoads d [.ref h, .int x3] kd mr mi ml (fun mi28 ml29 => c_X12_cordon_94 l (d + 1) kd mr h x2 x3 0 mi28 ml29 K)) ∧ (¬ 4096 ≤ x4 → vp_in x4 4096 ∧ c_X12_cordon_64 l (d + 1) kd mr h x2 x3 (x4 + 1) (pm_up mi (h + 28) (Int32.toNatClampNeg x4) (0 &&& 1)) ml K))) :
    c_X12_cordon_64 l (d + 1) kd mr h x2 x3 x4 mi ml K := by
  show wp l M_X12_cordon (d + 1) 0 0 64 [some (.ref h), none, some (.int x2), some (.int x3), some (.int x4)] [] 0 0 kd mi ml mr _
  refine wp_iload (pc := 64) dX12_cordon_64 rfl ?_
  refine wp_sipush (v := 4096) (pc := 66) dX12_cordon_66 (by decide) ?_
  refine wp_icmp_ge (tgt := 86) (pc := 69) dX12_cordon_69 (by decide) (fun c26 => ?_) (fun c26 => ?_)
  · have F := F.1 c26
    refine wp_aload_n (pc := 86) dX12_cordon_86 rfl ?_
    refine wp_iload_n (pc := 87) dX12_cordon_87 rfl ?_
    refine cvV [.int x3] [] (pc := 88) dX12_cordon_88 ml_X12_597 iv_X12_layRoads (TX12s_k th) (cl_X12 rfl) rfl rfl (Nat.le_of_ble_eq_true rfl) (Nat.le_of_ble_eq_true rfl) (wV.mono (fun mi28 ml29 F => ?_) F)
    refine wp_iconst (v := 0) (pc := 91) dX12_cordon_91 (by decide) ?_
    refine wp_istore (pc := 92) dX12_cordon_92 (Nat.le_of_ble_eq_true rfl) rfl ?_
    show wp l M_X12_cordon (d + 1) 0 0 _ [some (.ref h), none, some (.int x2), some (.int x3), some (.int 0)] _ 0 0 kd _ _ mr _
    exact wp_less (L' := [some (.ref h), none, some (.int x2), some (.int x3), some (.int 0)]) ⟨rfl, ⟨rfl, ⟨rfl, ⟨rfl, trivial⟩⟩⟩⟩ F
  · have F := F.2 c26
    refine wp_aload_n (pc := 72) dX12_cordon_72 rfl ?_
    refine wp_getR (pc := 73) dX12_cordon_73 fl_X12_94 rfl (TX12s_k th) (TX12s_r57 th) ?_
    refine wp_iload (pc := 76) dX12_cordon_76 rfl ?_
    refine wp_iconst (v := 0) (pc := 78) dX12_cordon_78 (by decide) ?_
    refine wp_zast (pc := 79) dX12_cordon_79 (TX12s_a57 th) F.1 ?_
    have F := F.2
    refine wp_iinc (v := (x4 + 1)) (pc := 80) dX12_cordon_80 rfl rfl rfl ?_
    show wp l M_X12_cordon (d + 1) 0 0 _ [some (.ref h), none, some (.int x2), some (.int x3), some (.int (x4 + 1))] _ 0 0 kd _ _ mr _
    refine wp_goto (tgt := 64) (pc := 83) dX12_cordon_83 (by decide) ?_
    exact wp_less (L' := [some (.ref h), none, some (.int x2), some (.int x3), some (.int (x4 + 1))]) ⟨rfl, ⟨rfl, ⟨rfl, ⟨rfl, trivial⟩⟩⟩⟩ F
theorem w_X12_cordon_94 {l : Launch} {d : Nat} {kd : pm_K} {mr : pm_R} {h : Nat} {x2 : Int32} {x3 : Int32} {x4 : Int32} {mi : pm_I} {ml : pm_L} {K : Int32 → pm_I → pm_L → Prop} (th : TX12s kd mr h)
    (F : wB l M_X12_finds d [.ref h, .int x2, .int x3] kd mr mi ml (fun r30 mi31 ml32 => ((r30 = false → K x4 mi31 ml32) ∧ (r30 = true → wV l M_X12_lays d [.ref h, .int x3] kd mr mi31 ml32 (fun mi35 ml36 => wV l M_X12_layRoads d [.ref h, .int x3] kd mr mi35 ml36 (fun mi38 ml39 => c_X12_cordon_94 l (d + 1) kd mr h x2 x3 (x4 + 1) mi38 ml39 K)))))) :
    c_X12_cordon_94 l (d + 1) kd mr h x2 x3 x4 mi ml K := by
  show wp l M_X12_cordon (d + 1) 0 0 94 [some (.ref h), none, some (.int x2), some (.int x3), some (.int x4)] [] 0 0 kd mi ml mr _
  refine wp_aload_n (pc := 94) dX12_cordon_94 rfl ?_
  refine wp_iload_n (pc := 95) dX12_cordon_95 rfl ?_
  refine wp_iload_n (pc := 96) dX12_cordon_96 rfl ?_
  refine cvB [.int x2, .int x3] [] (pc := 97) dX12_cordon_97 ml_X12_600 iv_X12_finds (TX12s_k th) (cl_X12 rfl) rfl rfl (Nat.le_of_ble_eq_true rfl) (Nat.le_of_ble_eq_true rfl) (wB.mono (fun r30 mi31 ml32 F => ?_) F)
  refine b_eq (tgt := 119) (pc := 100) dX12_cordon_100 (by decide) (fun c33 => ?_) (fun c33 => ?_)
  · have F := F.1 c33
    refine wp_iload (pc := 119) dX12_cordon_119 rfl ?_
    exact r_I (pc := 121) dX12_cordon_121 rfl F
  · have F := F.2 c33
    refine wp_aload_n (pc := 103) dX12_cordon_103 rfl ?_
    refine wp_iload_n (pc := 104) dX12_cordon_104 rfl ?_
    refine cvV [.int x3] [] (pc := 105) dX12_cordon_105 ml_X12_603 iv_X12_lays (TX12s_k th) (cl_X12 rfl) rfl rfl (Nat.le_of_ble_eq_true rfl) (Nat.le_of_ble_eq_true rfl) (wV.mono (fun mi35 ml36 F => ?_) F)
    refine wp_aload_n (pc := 108) dX12_cordon_108 rfl ?_
    refine wp_iload_n (pc := 109) dX12_cordon_109 rfl ?_
    refine cvV [.int x3] [] (pc := 110) dX12_cordon_110 ml_X12_597 iv_X12_layRoads (TX12s_k th) (cl_X12 rfl) rfl rfl (Nat.le_of_ble_eq_true rfl) (Nat.le_of_ble_eq_true rfl) (wV.mono (fun mi38 ml39 F => ?_) F)
    refine wp_iinc (v := (x4 + 1)) (pc := 113) dX12_cordon_113 rfl rfl rfl ?_
    show wp l M_X12_cordon (d + 1) 0 0 _ [some (.ref h), none, some (.int x2), some (.int x3), some (.int (x4 + 1))] _ 0 0 kd _ _ mr _
    refine wp_goto (tgt := 94) (pc := 116) dX12_cordon_116 (by decide) ?_
    exact wp_less (L' := [some (.ref h), none, some (.int x2), some (.int x3), some (.int (x4 + 1))]) ⟨rfl, ⟨rfl, ⟨rfl, ⟨rfl, trivial⟩⟩⟩⟩ F
/-- cordon(III)I -/
theorem w_X12_cordon {l : Launch} {d : Nat} {kd : pm_K} {mr : pm_R} {h : Nat} {x1 : Int32} {x2 : Int32} {x3 : Int32} {mi : pm_I} {ml : pm_L} {K : Int32 → pm_I → pm_L → Prop} (th : TX12s kd mr h)
    (F : wB l M_X12_hand d [.ref h, .int x1] kd mr (pm_up mi h 0 0) ml (fun r1 mi2 ml3 => ((r1 = false → K (-1) mi2 ml3) ∧ (r1 = true → wB l M_X12_isCell d [.ref h, .int x2] kd mr mi2 ml3 (fun r5 mi6 ml7 => ((r5 = false → K (-1) mi6 ml7) ∧ (r5 = true → wB l M_X12_isCell d [.ref h, .int x3] kd mr mi6 ml7 (fun r9 mi10 ml11 => ((r9 = false → K (-1) mi10 ml11) ∧ (r9 = true → wB l M_X12_isWall d [.ref h, .int x2] kd mr mi10 ml11 (fun r13 mi14 ml15 => ((r13 = true → K (-1) mi14 ml15) ∧ (r13 = false → wB l M_X12_isWall d [.ref h, .int x3] kd mr mi14 ml15 (fun r17 mi18 ml19 => ((r17 = true → K (-1) mi18 ml19) ∧ (r17 = false → ((x2 = x3 → K (-1) mi18 ml19) ∧ (¬ x2 = x3 → wB l M_X12_isNext d [.ref h, .int x2, .int x3] kd mr mi18 ml19 (fun r22 mi23 ml24 => ((r22 = false → c_X12_cordon_64 l (d + 1) kd mr h x2 x3 0 mi23 ml24 K) ∧ (r22 = true → K (-1) mi23 ml24))))))))))))))))))))) :
    wI l M_X12_cordon (d + 1) [.ref h, .int x1, .int x2, .int x3] kd mr mi ml K := by
  show wp l M_X12_cordon (d + 1) 0 0 0 [some (.ref h), some (.int x1), some (.int x2), some (.int x3), none] [] 0 0 kd mi ml mr _
  refine wp_aload_n (pc := 0) dX12_cordon_0 rfl ?_
  refine wp_iconst (v := 0) (pc := 1) dX12_cordon_1 (by decide) ?_
  refine wp_putI (pc := 2) dX12_cordon_2 fl_X12_107 rfl rfl (TX12s_k th) ?_
  refine wp_aload_n (pc := 5) dX12_cordon_5 rfl ?_
  refine wp_iload_n (pc := 6) dX12_cordon_6 rfl ?_
  refine cvB [.int x1] [] (pc := 7) dX12_cordon_7 ml_X12_346 iv_X12_hand (TX12s_k th) (cl_X12 rfl) rfl rfl (Nat.le_of_ble_eq_true rfl) (Nat.le_of_ble_eq_true rfl) (wB.mono (fun r1 mi2 ml3 F => ?_) F)
  refine b_eq (tgt := 59) (pc := 10) dX12_cordon_10 (by decide) (fun c4 => ?_) (fun c4 => ?_)
  · have F := F.1 c4
    refine wp_iconst (v := -1) (pc := 59) dX12_cordon_59 (by decide) ?_
    exact r_I (pc := 60) dX12_cordon_60 rfl F
  · have F := F.2 c4
    refine wp_aload_n (pc := 13) dX12_cordon_13 rfl ?_
    refine wp_iload_n (pc := 14) dX12_cordon_14 rfl ?_
    refine cvB [.int x2] [] (pc := 15) dX12_cordon_15 ml_X12_425 iv_X12_isCell (TX12s_k th) (cl_X12 rfl) rfl rfl (Nat.le_of_ble_eq_true rfl) (Nat.le_of_ble_eq_true rfl) (wB.mono (fun r5 mi6 ml7 F => ?_) F)
    refine b_eq (tgt := 59) (pc := 18) dX12_cordon_18 (by decide) (fun c8 => ?_) (fun c8 => ?_)
    · have F := F.1 c8
      refine wp_iconst (v := -1) (pc := 59) dX12_cordon_59 (by decide) ?_
      exact r_I (pc := 60) dX12_cordon_60 rfl F
    · have F := F.2 c8
      refine wp_aload_n (pc := 21) dX12_cordon_21 rfl ?_
      refine wp_iload_n (pc := 22) dX12_cordon_22 rfl ?_
      refine cvB [.int x3] [] (pc := 23) dX12_cordon_23 ml_X12_425 iv_X12_isCell (TX12s_k th) (cl_X12 rfl) rfl rfl (Nat.le_of_ble_eq_true rfl) (Nat.le_of_ble_eq_true rfl) (wB.mono (fun r9 mi10 ml11 F => ?_) F)
      refine b_eq (tgt := 59) (pc := 26) dX12_cordon_26 (by decide) (fun c12 => ?_) (fun c12 => ?_)
      · have F := F.1 c12
        refine wp_iconst (v := -1) (pc := 59) dX12_cordon_59 (by decide) ?_
        exact r_I (pc := 60) dX12_cordon_60 rfl F
      · have F := F.2 c12
        refine wp_aload_n (pc := 29) dX12_cordon_29 rfl ?_
        refine wp_iload_n (pc := 30) dX12_cordon_30 rfl ?_
        refine cvB [.int x2] [] (pc := 31) dX12_cordon_31 ml_X12_343 iv_X12_isWall (TX12s_k th) (cl_X12 rfl) rfl rfl (Nat.le_of_ble_eq_true rfl) (Nat.le_of_ble_eq_true rfl) (wB.mono (fun r13 mi14 ml15 F => ?_) F)
        refine b_ne (tgt := 59) (pc := 34) dX12_cordon_34 (by decide) (fun c16 => ?_) (fun c16 => ?_)
        · have F := F.1 c16
          refine wp_iconst (v := -1) (pc := 59) dX12_cordon_59 (by decide) ?_
          exact r_I (pc := 60) dX12_cordon_60 rfl F
        · have F := F.2 c16
          refine wp_aload_n (pc := 37) dX12_cordon_37 rfl ?_
          refine wp_iload_n (pc := 38) dX12_cordon_38 rfl ?_
          refine cvB [.int x3] [] (pc := 39) dX12_cordon_39 ml_X12_343 iv_X12_isWall (TX12s_k th) (cl_X12 rfl) rfl rfl (Nat.le_of_ble_eq_true rfl) (Nat.le_of_ble_eq_true rfl) (wB.mono (fun r17 mi18 ml19 F => ?_) F)
          refine b_ne (tgt := 59) (pc := 42) dX12_cordon_42 (by decide) (fun c20 => ?_) (fun c20 => ?_)
          · have F := F.1 c20
            refine wp_iconst (v := -1) (pc := 59) dX12_cordon_59 (by decide) ?_
            exact r_I (pc := 60) dX12_cordon_60 rfl F
          · have F := F.2 c20
            refine wp_iload_n (pc := 45) dX12_cordon_45 rfl ?_
            refine wp_iload_n (pc := 46) dX12_cordon_46 rfl ?_
            refine wp_icmp_eq (tgt := 59) (pc := 47) dX12_cordon_47 (by decide) (fun c21 => ?_) (fun c21 => ?_)
            · have F := F.1 c21
              refine wp_iconst (v := -1) (pc := 59) dX12_cordon_59 (by decide) ?_
              exact r_I (pc := 60) dX12_cordon_60 rfl F
            · have F := F.2 c21
              refine wp_aload_n (pc := 50) dX12_cordon_50 rfl ?_
              refine wp_iload_n (pc := 51) dX12_cordon_51 rfl ?_
              refine wp_iload_n (pc := 52) dX12_cordon_52 rfl ?_
              refine cvB [.int x2, .int x3] [] (pc := 53) dX12_cordon_53 ml_X12_594 iv_X12_isNext (TX12s_k th) (cl_X12 rfl) rfl rfl (Nat.le_of_ble_eq_true rfl) (Nat.le_of_ble_eq_true rfl) (wB.mono (fun r22 mi23 ml24 F => ?_) F)
              refine b_eq (tgt := 61) (pc := 56) dX12_cordon_56 (by decide) (fun c25 => ?_) (fun c25 => ?_)
              · have F := F.1 c25
                refine wp_iconst (v := 0) (pc := 61) dX12_cordon_61 (by decide) ?_
                refine wp_istore (pc := 62) dX12_cordon_62 (Nat.le_of_ble_eq_true rfl) rfl ?_
                show wp l M_X12_cordon (d + 1) 0 0 _ [some (.ref h), some (.int x1), some (.int x2), some (.int x3), some (.int 0)] _ 0 0 kd _ _ mr _
                exact wp_less (L' := [some (.ref h), none, some (.int x2), some (.int x3), some (.int 0)]) ⟨rfl, ⟨rfl, ⟨rfl, ⟨rfl, trivial⟩⟩⟩⟩ F
              · have F := F.2 c25
                refine wp_iconst (v := -1) (pc := 59) dX12_cordon_59 (by decide) ?_
                exact r_I (pc := 60) dX12_cordon_60 rfl F
def c_X12_isNext_2 (l : Launch) (d : Nat) (kd : pm_K) (mr : pm_R) (h : Nat) (x1 : Int32) (x2 : Int32) (x3 : Int32) (mi : pm_I) (ml : pm_L) (K : Bool → pm_I → pm_L → Prop) : Prop := wp l M_X12_isNext d 0 0 2 [some (.ref h), some (.int x1), some (.int x2), some (.int x3)] [] 0 0 kd mi ml mr (qB kd mr K)
theorem w_X12_isNext_2 {l : Launch} {d : Nat} {kd : pm_K} {mr : pm_R} {h : Nat} {x1 : Int32} {x2 : Int32} {x3 : Int32} {mi : pm_I} {ml : pm_L} {K : Bool → pm_I → pm_L → Prop} (th : TX12s kd mr h)
    (F : ((4 ≤ x3 → K false mi ml) ∧ (¬ 4 ≤ x3 → wI l M_X12_next d [.ref h, .int x1, .int x3] kd mr mi ml (fun r2 mi3 ml4 => ((¬ r2 = x2 → c_X12_isNext_2 l (d + 1) kd mr h x1 x2 (x3 + 1) mi3 ml4 K) ∧ (r2 = x2 → K true mi3 ml4)))))) :
    c_X12_isNext_2 l (d + 1) kd mr h x1 x2 x3 mi ml K := by
  show wp l M_X12_isNext (d + 1) 0 0 2 [some (.ref h), some (.int x1), some (.int x2), some (.int x3)] [] 0 0 kd mi ml mr _
  refine wp_iload_n (pc := 2) dX12_isNext_2 rfl ?_
  refine wp_iconst (v := 4) (pc := 3) dX12_isNext_3 (by decide) ?_
  refine wp_icmp_ge (tgt := 25) (pc := 4) dX12_isNext_4 (by decide) (fun c1 => ?_) (fun c1 => ?_)
  · have F := F.1 c1
    refine wp_iconst (v := 0) (pc := 25) dX12_isNext_25 (by decide) ?_
    exact r_Bx (pc := 26) dX12_isNext_26 rfl rfl F
  · have F := F.2 c1
    refine wp_aload_n (pc := 7) dX12_isNext_7 rfl ?_
    refine wp_iload_n (pc := 8) dX12_isNext_8 rfl ?_
    refine wp_iload_n (pc := 9) dX12_isNext_9 rfl ?_
    refine cvI [.int x1, .int x3] [] (pc := 10) dX12_isNext_10 ml_X12_340 iv_X12_next (TX12s_k th) (cl_X12 rfl) rfl rfl (Nat.le_of_ble_eq_true rfl) (Nat.le_of_ble_eq_true rfl) (wI.mono (fun r2 mi3 ml4 F => ?_) F)
    refine wp_iload_n (pc := 13) dX12_isNext_13 rfl ?_
    refine wp_icmp_ne (tgt := 19) (pc := 14) dX12_isNext_14 (by decide) (fun c5 => ?_) (fun c5 => ?_)
    · have F := F.1 c5
      refine wp_iinc (v := (x3 + 1)) (pc := 19) dX12_isNext_19 rfl rfl rfl ?_
      show wp l M_X12_isNext (d + 1) 0 0 _ [some (.ref h), some (.int x1), some (.int x2), some (.int (x3 + 1))] _ 0 0 kd _ _ mr _
      refine wp_goto (tgt := 2) (pc := 22) dX12_isNext_22 (by decide) ?_
      exact wp_less (L' := [some (.ref h), some (.int x1), some (.int x2), some (.int (x3 + 1))]) ⟨rfl, ⟨rfl, ⟨rfl, ⟨rfl, trivial⟩⟩⟩⟩ F
    · have F := F.2 c5
      refine wp_iconst (v := 1) (pc := 17) dX12_isNext_17 (by decide) ?_
      exact r_Bx (pc := 18) dX12_isNext_18 rfl rfl F
/-- isNext(II)Z -/
theorem w_X12_isNext {l : Launch} {d : Nat} {kd : pm_K} {mr : pm_R} {h : Nat} {x1 : Int32} {x2 : Int32} {mi : pm_I} {ml : pm_L} {K : Bool → pm_I → pm_L → Prop} (th : TX12s kd mr h)
    (F : c_X12_isNext_2 l (d + 1) kd mr h x1 x2 0 mi ml K) :
    wB l M_X12_isNext (d + 1) [.ref h, .int x1, .int x2] kd mr mi ml K := by
  show wp l M_X12_isNext (d + 1) 0 0 0 [some (.ref h), some (.int x1), some (.int x2), none] [] 0 0 kd mi ml mr _
  refine wp_iconst (v := 0) (pc := 0) dX12_isNext_0 (by decide) ?_
  refine wp_istore_n (pc := 1) dX12_isNext_1 (Nat.le_of_ble_eq_true rfl) rfl ?_
  show wp l M_X12_isNext (d + 1) 0 0 _ [some (.ref h), some (.int x1), some (.int x2), some (.int 0)] _ 0 0 kd _ _ mr _
  exact wp_less (L' := [some (.ref h), some (.int x1), some (.int x2), some (.int 0)]) ⟨rfl, ⟨rfl, ⟨rfl, ⟨rfl, trivial⟩⟩⟩⟩ F
def c_X12_layRoads_72 (l : Launch) (d : Nat) (kd : pm_K) (mr : pm_R) (h : Nat) (x1 : Int32) (x2 : Int32) (mi : pm_I) (ml : pm_L) (K : pm_I → pm_L → Prop) : Prop := wp l M_X12_layRoads d 0 0 72 [some (.ref h), some (.int x1), some (.int x2)] [] 0 0 kd mi ml mr (qV kd mr K)
def c_X12_layRoads_30 (l : Launch) (d : Nat) (kd : pm_K) (mr : pm_R) (h : Nat) (x1 : Int32) (x2 : Int32) (mi : pm_I) (ml : pm_L) (K : pm_I → pm_L → Prop) : Prop := wp l M_X12_layRoads d 0 0 30 [some (.ref h), some (.int x1), some (.int x2)] [] 0 0 kd mi ml mr (qV kd mr K)
def c_X12_layRoads_2 (l : Launch) (d : Nat) (kd : pm_K) (mr : pm_R) (h : Nat) (x1 : Int32) (x2 : Int32) (mi : pm_I) (ml : pm_L) (K : pm_I → pm_L → Prop) : Prop := wp l M_X12_layRoads d 0 0 2 [some (.ref h), some (.int x1), some (.int x2)] [] 0 0 kd mi ml mr (qV kd mr K)
theorem w_X12_layRoads_2 {l : Launch} {d : Nat} {kd : pm_K} {mr : pm_R} {h : Nat} {x1 : Int32} {x2 : Int32} {mi : pm_I} {ml : pm_L} {K : pm_I → pm_L → Prop} (th : TX12s kd mr h)
    (F : ((64 ≤ x2 → c_X12_layRoads_30 l d kd mr h x1 0 mi ml K) ∧ (¬ 64 ≤ x2 → vp_in x2 64 ∧ vp_in x2 64 ∧ c_X12_layRoads_2 l d kd mr h x1 (x2 + 1) (pm_up (pm_up mi (h + 24) (Int32.toNatClampNeg x2) (-1)) (h + 25) (Int32.toNatClampNeg x2) (-1)) ml K))) :
    c_X12_layRoads_2 l d kd mr h x1 x2 mi ml K := by
  show wp l M_X12_layRoads d 0 0 2 [some (.ref h), some (.int x1), some (.int x2)] [] 0 0 kd mi ml mr _
  refine wp_iload_n (pc := 2) dX12_layRoads_2 rfl ?_
  refine wp_bipush (v := 64) (pc := 3) dX12_layRoads_3 (by decide) ?_
  refine wp_icmp_ge (tgt := 28) (pc := 5) dX12_layRoads_5 (by decide) (fun c1 => ?_) (fun c1 => ?_)
  · have F := F.1 c1
    refine wp_iconst (v := 0) (pc := 28) dX12_layRoads_28 (by decide) ?_
    refine wp_istore_n (pc := 29) dX12_layRoads_29 (Nat.le_of_ble_eq_true rfl) rfl ?_
    show wp l M_X12_layRoads d 0 0 _ [some (.ref h), some (.int x1), some (.int 0)] _ 0 0 kd _ _ mr _
    exact wp_less (L' := [some (.ref h), some (.int x1), some (.int 0)]) ⟨rfl, ⟨rfl, ⟨rfl, trivial⟩⟩⟩ F
  · have F := F.2 c1
    refine wp_aload_n (pc := 8) dX12_layRoads_8 rfl ?_
    refine wp_getR (pc := 9) dX12_layRoads_9 fl_X12_82 rfl (TX12s_k th) (TX12s_r52 th) ?_
    refine wp_iload_n (pc := 12) dX12_layRoads_12 rfl ?_
    refine wp_iconst (v := -1) (pc := 13) dX12_layRoads_13 (by decide) ?_
    refine wp_iast (pc := 14) dX12_layRoads_14 (TX12s_a52 th) F.1 ?_
    have F := F.2
    refine wp_aload_n (pc := 15) dX12_layRoads_15 rfl ?_
    refine wp_getR (pc := 16) dX12_layRoads_16 fl_X12_85 rfl (TX12s_k th) (TX12s_r53 th) ?_
    refine wp_iload_n (pc := 19) dX12_layRoads_19 rfl ?_
    refine wp_iconst (v := -1) (pc := 20) dX12_layRoads_20 (by decide) ?_
    refine wp_iast (pc := 21) dX12_layRoads_21 (TX12s_a53 th) F.1 ?_
    have F := F.2
    refine wp_iinc (v := (x2 + 1)) (pc := 22) dX12_layRoads_22 rfl rfl rfl ?_
    show wp l M_X12_layRoads d 0 0 _ [some (.ref h), some (.int x1), some (.int (x2 + 1))] _ 0 0 kd _ _ mr _
    refine wp_goto (tgt := 2) (pc := 25) dX12_layRoads_25 (by decide) ?_
    exact wp_less (L' := [some (.ref h), some (.int x1), some (.int (x2 + 1))]) ⟨rfl, ⟨rfl, ⟨rfl, trivial⟩⟩⟩ F
theorem w_X12_layRoads_30 {l : Launch} {d : Nat} {kd : pm_K} {mr : pm_R} {h : Nat} {x1 : Int32} {x2 : Int32} {mi : pm_I} {ml : pm_L} {K : pm_I → pm_L → Prop} (th : TX12s kd mr h)
    (F : ((4096 ≤ x2 → vp_in x1 64 ∧ vp_in x1 64 ∧ K (pm_up (pm_up mi (h + 25) (Int32.toNatClampNeg x1) (-1)) (h + 24) (Int32.toNatClampNeg x1) (-1)) ml) ∧ (¬ 4096 ≤ x2 → vp_in x2 4096 ∧ (((mi (h + 28) (Int32.toNatClampNeg x2)) = 0 → c_X12_layRoads_72 l d kd mr h x1 x2 mi ml K) ∧ (¬ (mi (h + 28) (Int32.toNatClampNeg x2)) = 0 → vp_in (x2 / 64) 64 ∧ vp_in (x2 - x2 / 64 * 64) 64 ∧ c_X12_layRoads_72 l d kd mr h x1 x2 (pm_up (pm_up mi (h + 24) (Int32.toNatClampNeg (x2 / 64)) (x2 - x2 / 64 * 64)) (h + 25) (Int32.toNatClampNeg (x2 - x2 / 64 * 64)) (x2 / 64)) ml K))))) :
    c_X12_layRoads_30 l d kd mr h x1 x2 mi ml K := by
  show wp l M_X12_layRoads d 0 0 30 [some (.ref h), some (.int x1), some (.int x2)] [] 0 0 kd mi ml mr _
  refine wp_iload_n (pc := 30) dX12_layRoads_30 rfl ?_
  refine wp_sipush (v := 4096) (pc := 31) dX12_layRoads_31 (by decide) ?_
  refine wp_icmp_ge (tgt := 78) (pc := 34) dX12_layRoads_34 (by decide) (fun c2 => ?_) (fun c2 => ?_)
  · have F := F.1 c2
    refine wp_aload_n (pc := 78) dX12_layRoads_78 rfl ?_
    refine wp_getR (pc := 79) dX12_layRoads_79 fl_X12_85 rfl (TX12s_k th) (TX12s_r53 th) ?_
    refine wp_iload_n (pc := 82) dX12_layRoads_82 rfl ?_
    refine wp_iconst (v := -1) (pc := 83) dX12_layRoads_83 (by decide) ?_
    refine wp_iast (pc := 84) dX12_layRoads_84 (TX12s_a53 th) F.1 ?_
    have F := F.2
    refine wp_aload_n (pc := 85) dX12_layRoads_85 rfl ?_
    refine wp_getR (pc := 86) dX12_layRoads_86 fl_X12_82 rfl (TX12s_k th) (TX12s_r52 th) ?_
    refine wp_iload_n (pc := 89) dX12_layRoads_89 rfl ?_
    refine wp_iconst (v := -1) (pc := 90) dX12_layRoads_90 (by decide) ?_
    refine wp_iast (pc := 91) dX12_layRoads_91 (TX12s_a52 th) F.1 ?_
    have F := F.2
    exact r_V (pc := 92) dX12_layRoads_92 rfl F
  · have F := F.2 c2
    refine wp_aload_n (pc := 37) dX12_layRoads_37 rfl ?_
    refine wp_getR (pc := 38) dX12_layRoads_38 fl_X12_94 rfl (TX12s_k th) (TX12s_r57 th) ?_
    refine wp_iload_n (pc := 41) dX12_layRoads_41 rfl ?_
    refine wp_zald (pc := 42) dX12_layRoads_42 (TX12s_a57 th) F.1 ?_
    have F := F.2
    refine wp_if_eq (tgt := 72) (pc := 43) dX12_layRoads_43 (by decide) (fun c3 => ?_) (fun c3 => ?_)
    · have F := F.1 c3
      exact wp_less (L' := [some (.ref h), some (.int x1), some (.int x2)]) ⟨rfl, ⟨rfl, ⟨rfl, trivial⟩⟩⟩ F
    · have F := F.2 c3
      refine wp_aload_n (pc := 46) dX12_layRoads_46 rfl ?_
      refine wp_getR (pc := 47) dX12_layRoads_47 fl_X12_82 rfl (TX12s_k th) (TX12s_r52 th) ?_
      refine wp_iload_n (pc := 50) dX12_layRoads_50 rfl ?_
      refine wp_bipush (v := 64) (pc := 51) dX12_layRoads_51 (by decide) ?_
      refine wp_idiv (pc := 53) dX12_layRoads_53 (by decide) ?_
      refine wp_iload_n (pc := 54) dX12_layRoads_54 rfl ?_
      refine wp_bipush (v := 64) (pc := 55) dX12_layRoads_55 (by decide) ?_
      refine wp_irem (pc := 57) dX12_layRoads_57 (by decide) ?_
      refine wp_iast (pc := 58) dX12_layRoads_58 (TX12s_a52 th) F.1 ?_
      have F := F.2
      refine wp_aload_n (pc := 59) dX12_layRoads_59 rfl ?_
      refine wp_getR (pc := 60) dX12_layRoads_60 fl_X12_85 rfl (TX12s_k th) (TX12s_r53 th) ?_
      refine wp_iload_n (pc := 63) dX12_layRoads_63 rfl ?_
      refine wp_bipush (v := 64) (pc := 64) dX12_layRoads_64 (by decide) ?_
      refine wp_irem (pc := 66) dX12_layRoads_66 (by decide) ?_
      refine wp_iload_n (pc := 67) dX12_layRoads_67 rfl ?_
      refine wp_bipush (v := 64) (pc := 68) dX12_layRoads_68 (by decide) ?_
      refine wp_idiv (pc := 70) dX12_layRoads_70 (by decide) ?_
      refine wp_iast (pc := 71) dX12_layRoads_71 (TX12s_a53 th) F.1 ?_
      have F := F.2
      exact wp_less (L' := [some (.ref h), some (.int x1), some (.int x2)]) ⟨rfl, ⟨rfl, ⟨rfl, trivial⟩⟩⟩ F
theorem w_X12_layRoads_72 {l : Launch} {d : Nat} {kd : pm_K} {mr : pm_R} {h : Nat} {x1 : Int32} {x2 : Int32} {mi : pm_I} {ml : pm_L} {K : pm_I → pm_L → Prop} (th : TX12s kd mr h)
    (F : c_X12_layRoads_30 l d kd mr h x1 (x2 + 1) mi ml K) :
    c_X12_layRoads_72 l d kd mr h x1 x2 mi ml K := by
  show wp l M_X12_layRoads d 0 0 72 [some (.ref h), some (.int x1), some (.int x2)] [] 0 0 kd mi ml mr _
  refine wp_iinc (v := (x2 + 1)) (pc := 72) dX12_layRoads_72 rfl rfl rfl ?_
  show wp l M_X12_layRoads d 0 0 _ [some (.ref h), some (.int x1), some (.int (x2 + 1))] _ 0 0 kd _ _ mr _
  refine wp_goto (tgt := 30) (pc := 75) dX12_layRoads_75 (by decide) ?_
  exact wp_less (L' := [some (.ref h), some (.int x1), some (.int (x2 + 1))]) ⟨rfl, ⟨rfl, ⟨rfl, trivial⟩⟩⟩ F
/-- layRoads(I)V -/
theorem w_X12_layRoads {l : Launch} {d : Nat} {kd : pm_K} {mr : pm_R} {h : Nat} {x1 : Int32} {mi : pm_I} {ml : pm_L} {K : pm_I → pm_L → Prop} (th : TX12s kd mr h)
    (F : c_X12_layRoads_2 l d kd mr h x1 0 mi ml K) :
    wV l M_X12_layRoads d [.ref h, .int x1] kd mr mi ml K := by
  show wp l M_X12_layRoads d 0 0 0 [some (.ref h), some (.int x1), none] [] 0 0 kd mi ml mr _
  refine wp_iconst (v := 0) (pc := 0) dX12_layRoads_0 (by decide) ?_
  refine wp_istore_n (pc := 1) dX12_layRoads_1 (Nat.le_of_ble_eq_true rfl) rfl ?_
  show wp l M_X12_layRoads d 0 0 _ [some (.ref h), some (.int x1), some (.int 0)] _ 0 0 kd _ _ mr _
  exact wp_less (L' := [some (.ref h), some (.int x1), some (.int 0)]) ⟨rfl, ⟨rfl, ⟨rfl, trivial⟩⟩⟩ F
def c_X12_finds_103 (l : Launch) (d : Nat) (kd : pm_K) (mr : pm_R) (h : Nat) (x2 : Int32) (mi : pm_I) (ml : pm_L) (K : Bool → pm_I → pm_L → Prop) : Prop := wp l M_X12_finds d 0 0 103 [some (.ref h), none, some (.int x2), none] [] 0 0 kd mi ml mr (qB kd mr K)
def c_X12_finds_97 (l : Launch) (d : Nat) (kd : pm_K) (mr : pm_R) (h : Nat) (x1 : Int32) (x2 : Int32) (x3 : Int32) (mi : pm_I) (ml : pm_L) (K : Bool → pm_I → pm_L → Prop) : Prop := wp l M_X12_finds d 0 0 97 [some (.ref h), some (.int x1), some (.int x2), some (.int x3)] [] 0 0 kd mi ml mr (qB kd mr K)
def c_X12_finds_39 (l : Launch) (d : Nat) (kd : pm_K) (mr : pm_R) (h : Nat) (x1 : Int32) (x2 : Int32) (x3 : Int32) (mi : pm_I) (ml : pm_L) (K : Bool → pm_I → pm_L → Prop) : Prop := wp l M_X12_finds d 0 0 39 [some (.ref h), some (.int x1), some (.int x2), some (.int x3)] [] 0 0 kd mi ml mr (qB kd mr K)
def c_X12_finds_2 (l : Launch) (d : Nat) (kd : pm_K) (mr : pm_R) (h : Nat) (x1 : Int32) (x2 : Int32) (x3 : Int32) (mi : pm_I) (ml : pm_L) (K : Bool → pm_I → pm_L → Prop) : Prop := wp l M_X12_finds d 0 0 2 [some (.ref h), some (.int x1), some (.int x2), some (.int x3)] [] 0 0 kd mi ml mr (qB kd mr K)
theorem w_X12_finds_2 {l : Launch} {d : Nat} {kd : pm_K} {mr : pm_R} {h : Nat} {x1 : Int32} {x2 : Int32} {x3 : Int32} {mi : pm_I} {ml : pm_L} {K : Bool → pm_I → pm_L → Prop} (th : TX12s kd mr h)
    (F : ((128 ≤ x3 → wV l M_X12_meets d [.ref h, .int (x1 + 64), .int (-1)] kd mr (pm_up mi h 56 0) ml (fun mi3 ml4 => c_X12_finds_39 l (d + 1) kd mr h x1 x2 0 mi3 ml4 K)) ∧ (¬ 128 ≤ x3 → vp_in x3 128 ∧ c_X12_finds_2 l (d + 1) kd mr h x1 x2 (x3 + 1) (pm_up mi (h + 26) (Int32.toNatClampNeg x3) (-2)) ml K))) :
    c_X12_finds_2 l (d + 1) kd mr h x1 x2 x3 mi ml K := by
  show wp l M_X12_finds (d + 1) 0 0 2 [some (.ref h), some (.int x1), some (.int x2), some (.int x3)] [] 0 0 kd mi ml mr _
  refine wp_iload_n (pc := 2) dX12_finds_2 rfl ?_
  refine wp_sipush (v := 128) (pc := 3) dX12_finds_3 (by decide) ?_
  refine wp_icmp_ge (tgt := 23) (pc := 6) dX12_finds_6 (by decide) (fun c1 => ?_) (fun c1 => ?_)
  · have F := F.1 c1
    refine wp_aload_n (pc := 23) dX12_finds_23 rfl ?_
    refine wp_iconst (v := 0) (pc := 24) dX12_finds_24 (by decide) ?_
    refine wp_putI (pc := 25) dX12_finds_25 fl_X12_582 rfl rfl (TX12s_k th) ?_
    refine wp_aload_n (pc := 28) dX12_finds_28 rfl ?_
    refine wp_iload_n (pc := 29) dX12_finds_29 rfl ?_
    refine wp_bipush (v := 64) (pc := 30) dX12_finds_30 (by decide) ?_
    refine wp_iadd (pc := 32) dX12_finds_32 ?_
    refine wp_iconst (v := -1) (pc := 33) dX12_finds_33 (by decide) ?_
    refine cvV [.int (x1 + 64), .int (-1)] [] (pc := 34) dX12_finds_34 ml_X12_585 iv_X12_meets (TX12s_k th) (cl_X12 rfl) rfl rfl (Nat.le_of_ble_eq_true rfl) (Nat.le_of_ble_eq_true rfl) (wV.mono (fun mi3 ml4 F => ?_) F)
    refine wp_iconst (v := 0) (pc := 37) dX12_finds_37 (by decide) ?_
    refine wp_istore_n (pc := 38) dX12_finds_38 (Nat.le_of_ble_eq_true rfl) rfl ?_
    show wp l M_X12_finds (d + 1) 0 0 _ [some (.ref h), some (.int x1), some (.int x2), some (.int 0)] _ 0 0 kd _ _ mr _
    exact wp_less (L' := [some (.ref h), some (.int x1), some (.int x2), some (.int 0)]) ⟨rfl, ⟨rfl, ⟨rfl, ⟨rfl, trivial⟩⟩⟩⟩ F
  · have F := F.2 c1
    refine wp_aload_n (pc := 9) dX12_finds_9 rfl ?_
    refine wp_getR (pc := 10) dX12_finds_10 fl_X12_88 rfl (TX12s_k th) (TX12s_r54 th) ?_
    refine wp_iload_n (pc := 13) dX12_finds_13 rfl ?_
    refine wp_bipush (v := -2) (pc := 14) dX12_finds_14 (by decide) ?_
    refine wp_iast (pc := 16) dX12_finds_16 (TX12s_a54 th) F.1 ?_
    have F := F.2
    refine wp_iinc (v := (x3 + 1)) (pc := 17) dX12_finds_17 rfl rfl rfl ?_
    show wp l M_X12_finds (d + 1) 0 0 _ [some (.ref h), some (.int x1), some (.int x2), some (.int (x3 + 1))] _ 0 0 kd _ _ mr _
    refine wp_goto (tgt := 2) (pc := 20) dX12_finds_20 (by decide) ?_
    exact wp_less (L' := [some (.ref h), some (.int x1), some (.int x2), some (.int (x3 + 1))]) ⟨rfl, ⟨rfl, ⟨rfl, ⟨rfl, trivial⟩⟩⟩⟩ F
theorem w_X12_finds_39 {l : Launch} {d : Nat} {kd : pm_K} {mr : pm_R} {h : Nat} {x1 : Int32} {x2 : Int32} {x3 : Int32} {mi : pm_I} {ml : pm_L} {K : Bool → pm_I → pm_L → Prop} (th : TX12s kd mr h)
    (F : (((mi h 56) ≤ x3 → c_X12_finds_103 l (d + 1) kd mr h x2 mi ml K) ∧ (¬ (mi h 56) ≤ x3 → vp_in x2 128 ∧ ((¬ (mi (h + 26) (Int32.toNatClampNeg x2)) = (-2) → c_X12_finds_103 l (d + 1) kd mr h x2 mi ml K) ∧ ((mi (h + 26) (Int32.toNatClampNeg x2)) = (-2) → vp_in x3 128 ∧ (((mi (h + 27) (Int32.toNatClampNeg x3)) < 64 → vp_in x3 128 ∧ wV l M_X12_goIn d [.ref h, .int (mi (h + 27) (Int32.toNatClampNeg x3)), .int x1] kd mr mi ml (fun mi9 ml10 => c_X12_finds_97 l (d + 1) kd mr h x1 x2 x3 mi9 ml10 K)) ∧ (¬ (mi (h + 27) (Int32.toNatClampNeg x3)) < 64 → vp_in x3 128 ∧ wV l M_X12_goOut d [.ref h, .int ((mi (h + 27) (Int32.toNatClampNeg x3)) - 64), .int x1] kd mr mi ml (fun mi12 ml13 => c_X12_finds_97 l (d + 1) kd mr h x1 x2 x3 mi12 ml13 K)))))))) :
    c_X12_finds_39 l (d + 1) kd mr h x1 x2 x3 mi ml K := by
  show wp l M_X12_finds (d + 1) 0 0 39 [some (.ref h), some (.int x1), some (.int x2), some (.int x3)] [] 0 0 kd mi ml mr _
  refine wp_iload_n (pc := 39) dX12_finds_39 rfl ?_
  refine wp_aload_n (pc := 40) dX12_finds_40 rfl ?_
  refine wp_getI (pc := 41) dX12_finds_41 fl_X12_582 rfl (TX12s_k th) ?_
  refine wp_icmp_ge (tgt := 103) (pc := 44) dX12_finds_44 (by decide) (fun c5 => ?_) (fun c5 => ?_)
  · have F := F.1 c5
    exact wp_less (L' := [some (.ref h), none, some (.int x2), none]) ⟨rfl, ⟨rfl, trivial⟩⟩ F
  · have F := F.2 c5
    refine wp_aload_n (pc := 47) dX12_finds_47 rfl ?_
    refine wp_getR (pc := 48) dX12_finds_48 fl_X12_88 rfl (TX12s_k th) (TX12s_r54 th) ?_
    refine wp_iload_n (pc := 51) dX12_finds_51 rfl ?_
    refine wp_iald (pc := 52) dX12_finds_52 (TX12s_a54 th) F.1 ?_
    have F := F.2
    refine wp_bipush (v := -2) (pc := 53) dX12_finds_53 (by decide) ?_
    refine wp_icmp_ne (tgt := 103) (pc := 55) dX12_finds_55 (by decide) (fun c6 => ?_) (fun c6 => ?_)
    · have F := F.1 c6
      exact wp_less (L' := [some (.ref h), none, some (.int x2), none]) ⟨rfl, ⟨rfl, trivial⟩⟩ F
    · have F := F.2 c6
      refine wp_aload_n (pc := 58) dX12_finds_58 rfl ?_
      refine wp_getR (pc := 59) dX12_finds_59 fl_X12_91 rfl (TX12s_k th) (TX12s_r55 th) ?_
      refine wp_iload_n (pc := 62) dX12_finds_62 rfl ?_
      refine wp_iald (pc := 63) dX12_finds_63 (TX12s_a55 th) F.1 ?_
      have F := F.2
      refine wp_bipush (v := 64) (pc := 64) dX12_finds_64 (by decide) ?_
      refine wp_icmp_lt (tgt := 86) (pc := 66) dX12_finds_66 (by decide) (fun c7 => ?_) (fun c7 => ?_)
      · have F := F.1 c7
        refine wp_aload_n (pc := 86) dX12_finds_86 rfl ?_
        refine wp_aload_n (pc := 87) dX12_finds_87 rfl ?_
        refine wp_getR (pc := 88) dX12_finds_88 fl_X12_91 rfl (TX12s_k th) (TX12s_r55 th) ?_
        refine wp_iload_n (pc := 91) dX12_finds_91 rfl ?_
        refine wp_iald (pc := 92) dX12_finds_92 (TX12s_a55 th) F.1 ?_
        have F := F.2
        refine wp_iload_n (pc := 93) dX12_finds_93 rfl ?_
        refine cvV [.int (mi (h + 27) (Int32.toNatClampNeg x3)), .int x1] [] (pc := 94) dX12_finds_94 ml_X12_591 iv_X12_goIn (TX12s_k th) (cl_X12 rfl) rfl rfl (Nat.le_of_ble_eq_true rfl) (Nat.le_of_ble_eq_true rfl) (wV.mono (fun mi9 ml10 F => ?_) F)
        exact wp_less (L' := [some (.ref h), some (.int x1), some (.int x2), some (.int x3)]) ⟨rfl, ⟨rfl, ⟨rfl, ⟨rfl, trivial⟩⟩⟩⟩ F
      · have F := F.2 c7
        refine wp_aload_n (pc := 69) dX12_finds_69 rfl ?_
        refine wp_aload_n (pc := 70) dX12_finds_70 rfl ?_
        refine wp_getR (pc := 71) dX12_finds_71 fl_X12_91 rfl (TX12s_k th) (TX12s_r55 th) ?_
        refine wp_iload_n (pc := 74) dX12_finds_74 rfl ?_
        refine wp_iald (pc := 75) dX12_finds_75 (TX12s_a55 th) F.1 ?_
        have F := F.2
        refine wp_bipush (v := 64) (pc := 76) dX12_finds_76 (by decide) ?_
        refine wp_isub (pc := 78) dX12_finds_78 ?_
        refine wp_iload_n (pc := 79) dX12_finds_79 rfl ?_
        refine cvV [.int ((mi (h + 27) (Int32.toNatClampNeg x3)) - 64), .int x1] [] (pc := 80) dX12_finds_80 ml_X12_588 iv_X12_goOut (TX12s_k th) (cl_X12 rfl) rfl rfl (Nat.le_of_ble_eq_true rfl) (Nat.le_of_ble_eq_true rfl) (wV.mono (fun mi12 ml13 F => ?_) F)
        refine wp_goto (tgt := 97) (pc := 83) dX12_finds_83 (by decide) ?_
        exact wp_less (L' := [some (.ref h), some (.int x1), some (.int x2), some (.int x3)]) ⟨rfl, ⟨rfl, ⟨rfl, ⟨rfl, trivial⟩⟩⟩⟩ F
theorem w_X12_finds_97 {l : Launch} {d : Nat} {kd : pm_K} {mr : pm_R} {h : Nat} {x1 : Int32} {x2 : Int32} {x3 : Int32} {mi : pm_I} {ml : pm_L} {K : Bool → pm_I → pm_L → Prop} (th : TX12s kd mr h)
    (F : c_X12_finds_39 l (d + 1) kd mr h x1 x2 (x3 + 1) mi ml K) :
    c_X12_finds_97 l (d + 1) kd mr h x1 x2 x3 mi ml K := by
  show wp l M_X12_finds (d + 1) 0 0 97 [some (.ref h), some (.int x1), some (.int x2), some (.int x3)] [] 0 0 kd mi ml mr _
  refine wp_iinc (v := (x3 + 1)) (pc := 97) dX12_finds_97 rfl rfl rfl ?_
  show wp l M_X12_finds (d + 1) 0 0 _ [some (.ref h), some (.int x1), some (.int x2), some (.int (x3 + 1))] _ 0 0 kd _ _ mr _
  refine wp_goto (tgt := 39) (pc := 100) dX12_finds_100 (by decide) ?_
  exact wp_less (L' := [some (.ref h), some (.int x1), some (.int x2), some (.int (x3 + 1))]) ⟨rfl, ⟨rfl, ⟨rfl, ⟨rfl, trivial⟩⟩⟩⟩ F
theorem w_X12_finds_103 {l : Launch} {d : Nat} {kd : pm_K} {mr : pm_R} {h : Nat} {x2 : Int32} {mi : pm_I} {ml : pm_L} {K : Bool → pm_I → pm_L → Prop} (th : TX12s kd mr h)
    (F : vp_in x2 128 ∧ K (!decide ((mi (h + 26) (Int32.toNatClampNeg x2)) = (-2))) mi ml) :
    c_X12_finds_103 l (d + 1) kd mr h x2 mi ml K := by
  show wp l M_X12_finds (d + 1) 0 0 103 [some (.ref h), none, some (.int x2), none] [] 0 0 kd mi ml mr _
  refine wp_aload_n (pc := 103) dX12_finds_103 rfl ?_
  refine wp_getR (pc := 104) dX12_finds_104 fl_X12_88 rfl (TX12s_k th) (TX12s_r54 th) ?_
  refine wp_iload_n (pc := 107) dX12_finds_107 rfl ?_
  refine wp_iald (pc := 108) dX12_finds_108 (TX12s_a54 th) F.1 ?_
  have F := F.2
  refine wp_bipush (v := -2) (pc := 109) dX12_finds_109 (by decide) ?_
  suffices J14 : ∀ v15 : Int32, v15 = (b2i (!decide ((mi (h + 26) (Int32.toNatClampNeg x2)) = (-2)))) → wp l M_X12_finds (d + 1) 0 0 119 [some (.ref h), none, some (.int x2), none] [.int v15] 0 0 kd mi ml mr _ by
      refine wp_icmp_eq (tgt := 118) (pc := 111) dX12_finds_111 (by decide) (fun c16 => ?_) (fun c16 => ?_)
      · refine wp_iconst (v := 0) (pc := 118) dX12_finds_118 (by decide) ?_
        exact J14 _ (by simp only [eq_true c16, if_true, if_false, decide_true, decide_false, Bool.not_true, Bool.not_false, Bool.true_and, Bool.false_and, Bool.true_or, Bool.false_or, b2i_t, b2i_f, ite_true, ite_false, not_true_eq_false, not_false_eq_true, reduceCtorEq, decide_eq_true_eq])
      · refine wp_iconst (v := 1) (pc := 114) dX12_finds_114 (by decide) ?_
        refine wp_goto (tgt := 119) (pc := 115) dX12_finds_115 (by decide) ?_
        exact J14 _ (by simp only [c16, if_true, if_false, decide_true, decide_false, Bool.not_true, Bool.not_false, Bool.true_and, Bool.false_and, Bool.true_or, Bool.false_or, b2i_t, b2i_f, ite_true, ite_false, not_true_eq_false, not_false_eq_true, reduceCtorEq, decide_eq_true_eq])
  intro v15 ev15
  subst ev15
  exact r_B (pc := 119) dX12_finds_119 rfl F
/-- finds(II)Z -/
theorem w_X12_finds {l : Launch} {d : Nat} {kd : pm_K} {mr : pm_R} {h : Nat} {x1 : Int32} {x2 : Int32} {mi : pm_I} {ml : pm_L} {K : Bool → pm_I → pm_L → Prop} (th : TX12s kd mr h)
    (F : c_X12_finds_2 l (d + 1) kd mr h x1 x2 0 mi ml K) :
    wB l M_X12_finds (d + 1) [.ref h, .int x1, .int x2] kd mr mi ml K := by
  show wp l M_X12_finds (d + 1) 0 0 0 [some (.ref h), some (.int x1), some (.int x2), none] [] 0 0 kd mi ml mr _
  refine wp_iconst (v := 0) (pc := 0) dX12_finds_0 (by decide) ?_
  refine wp_istore_n (pc := 1) dX12_finds_1 (Nat.le_of_ble_eq_true rfl) rfl ?_
  show wp l M_X12_finds (d + 1) 0 0 _ [some (.ref h), some (.int x1), some (.int x2), some (.int 0)] _ 0 0 kd _ _ mr _
  exact wp_less (L' := [some (.ref h), some (.int x1), some (.int x2), some (.int 0)]) ⟨rfl, ⟨rfl, ⟨rfl, ⟨rfl, trivial⟩⟩⟩⟩ F
/-- meets(II)V -/
theorem w_X12_meets {l : Launch} {d : Nat} {kd : pm_K} {mr : pm_R} {h : Nat} {x1 : Int32} {x2 : Int32} {mi : pm_I} {ml : pm_L} {K : pm_I → pm_L → Prop} (th : TX12s kd mr h)
    (F : vp_in x1 128 ∧ ((¬ (mi (h + 26) (Int32.toNatClampNeg x1)) = (-2) → K mi ml) ∧ ((mi (h + 26) (Int32.toNatClampNeg x1)) = (-2) → vp_in x1 128 ∧ vp_in (mi h 56) 128 ∧ K (pm_up (pm_up (pm_up mi (h + 26) (Int32.toNatClampNeg x1) x2) (h + 27) (Int32.toNatClampNeg (mi h 56)) x1) h 56 ((mi h 56) + 1)) ml))) :
    wV l M_X12_meets d [.ref h, .int x1, .int x2] kd mr mi ml K := by
  show wp l M_X12_meets d 0 0 0 [some (.ref h), some (.int x1), some (.int x2)] [] 0 0 kd mi ml mr _
  refine wp_aload_n (pc := 0) dX12_meets_0 rfl ?_
  refine wp_getR (pc := 1) dX12_meets_1 fl_X12_88 rfl (TX12s_k th) (TX12s_r54 th) ?_
  refine wp_iload_n (pc := 4) dX12_meets_4 rfl ?_
  refine wp_iald (pc := 5) dX12_meets_5 (TX12s_a54 th) F.1 ?_
  have F := F.2
  refine wp_bipush (v := -2) (pc := 6) dX12_meets_6 (by decide) ?_
  refine wp_icmp_ne (tgt := 38) (pc := 8) dX12_meets_8 (by decide) (fun c1 => ?_) (fun c1 => ?_)
  · have F := F.1 c1
    exact r_V (pc := 38) dX12_meets_38 rfl F
  · have F := F.2 c1
    refine wp_aload_n (pc := 11) dX12_meets_11 rfl ?_
    refine wp_getR (pc := 12) dX12_meets_12 fl_X12_88 rfl (TX12s_k th) (TX12s_r54 th) ?_
    refine wp_iload_n (pc := 15) dX12_meets_15 rfl ?_
    refine wp_iload_n (pc := 16) dX12_meets_16 rfl ?_
    refine wp_iast (pc := 17) dX12_meets_17 (TX12s_a54 th) F.1 ?_
    have F := F.2
    refine wp_aload_n (pc := 18) dX12_meets_18 rfl ?_
    refine wp_getR (pc := 19) dX12_meets_19 fl_X12_91 rfl (TX12s_k th) (TX12s_r55 th) ?_
    refine wp_aload_n (pc := 22) dX12_meets_22 rfl ?_
    refine wp_getI (pc := 23) dX12_meets_23 fl_X12_582 rfl (TX12s_k th) ?_
    refine t_I (show ((pm_up mi (h + 26) (Int32.toNatClampNeg x1) x2) h 56) = (mi h 56) from pm_up_k _ _ (by omega)) ?_
    refine wp_iload_n (pc := 26) dX12_meets_26 rfl ?_
    refine wp_iast (pc := 27) dX12_meets_27 (TX12s_a55 th) F.1 ?_
    have F := F.2
    refine wp_aload_n (pc := 28) dX12_meets_28 rfl ?_
    refine wp_dup (pc := 29) dX12_meets_29 rfl ?_
    refine wp_getI (pc := 30) dX12_meets_30 fl_X12_582 rfl (TX12s_k th) ?_
    refine t_I (show ((pm_up (pm_up mi (h + 26) (Int32.toNatClampNeg x1) x2) (h + 27) (Int32.toNatClampNeg (mi h 56)) x1) h 56) = (mi h 56) from (pm_up_k _ _ (by omega)).trans (pm_up_k _ _ (by omega))) ?_
    refine wp_iconst (v := 1) (pc := 33) dX12_meets_33 (by decide) ?_
    refine wp_iadd (pc := 34) dX12_meets_34 ?_
    refine wp_putI (pc := 35) dX12_meets_35 fl_X12_582 rfl rfl (TX12s_k th) ?_
    exact r_V (pc := 38) dX12_meets_38 rfl F
def c_X12_goOut_48 (l : Launch) (d : Nat) (kd : pm_K) (mr : pm_R) (h : Nat) (x1 : Int32) (x2 : Int32) (x3 : Int32) (mi : pm_I) (ml : pm_L) (K : pm_I → pm_L → Prop) : Prop := wp l M_X12_goOut d 0 0 48 [some (.ref h), some (.int x1), some (.int x2), some (.int x3), none] [] 0 0 kd mi ml mr (qV kd mr K)
def c_X12_goOut_2 (l : Launch) (d : Nat) (kd : pm_K) (mr : pm_R) (h : Nat) (x1 : Int32) (x2 : Int32) (x3 : Int32) (mi : pm_I) (ml : pm_L) (K : pm_I → pm_L → Prop) : Prop := wp l M_X12_goOut d 0 0 2 [some (.ref h), some (.int x1), some (.int x2), some (.int x3), none] [] 0 0 kd mi ml mr (qV kd mr K)
theorem w_X12_goOut_2 {l : Launch} {d : Nat} {kd : pm_K} {mr : pm_R} {h : Nat} {x1 : Int32} {x2 : Int32} {x3 : Int32} {mi : pm_I} {ml : pm_L} {K : pm_I → pm_L → Prop} (th : TX12s kd mr h)
    (F : ((4 ≤ x3 → ((x1 = x2 → K mi ml) ∧ (¬ x1 = x2 → vp_in x1 64 ∧ (((mi (h + 24) (Int32.toNatClampNeg x1)) = (-1) → K mi ml) ∧ (¬ (mi (h + 24) (Int32.toNatClampNeg x1)) = (-1) → wV l M_X12_meets d [.ref h, .int x1, .int (x1 + 64)] kd mr mi ml (fun mi5 ml6 => K mi5 ml6)))))) ∧ (¬ 4 ≤ x3 → wI l M_X12_free d [.ref h, .int x1, .int x3] kd mr mi ml (fun r7 mi8 ml9 => ((r7 = (-1) → c_X12_goOut_48 l (d + 1) kd mr h x1 x2 x3 mi8 ml9 K) ∧ (¬ r7 = (-1) → ((r7 = x2 → c_X12_goOut_48 l (d + 1) kd mr h x1 x2 x3 mi8 ml9 K) ∧ (¬ r7 = x2 → vp_in x1 64 ∧ (((mi8 (h + 24) (Int32.toNatClampNeg x1)) = r7 → c_X12_goOut_48 l (d + 1) kd mr h x1 x2 x3 mi8 ml9 K) ∧ (¬ (mi8 (h + 24) (Int32.toNatClampNeg x1)) = r7 → wV l M_X12_meets d [.ref h, .int r7, .int (x1 + 64)] kd mr mi8 ml9 (fun mi14 ml15 => c_X12_goOut_48 l (d + 1) kd mr h x1 x2 x3 mi14 ml15 K))))))))))) :
    c_X12_goOut_2 l (d + 1) kd mr h x1 x2 x3 mi ml K := by
  show wp l M_X12_goOut (d + 1) 0 0 2 [some (.ref h), some (.int x1), some (.int x2), some (.int x3), none] [] 0 0 kd mi ml mr _
  refine wp_iload_n (pc := 2) dX12_goOut_2 rfl ?_
  refine wp_iconst (v := 4) (pc := 3) dX12_goOut_3 (by decide) ?_
  refine wp_icmp_ge (tgt := 54) (pc := 4) dX12_goOut_4 (by decide) (fun c1 => ?_) (fun c1 => ?_)
  · have F := F.1 c1
    refine wp_iload_n (pc := 54) dX12_goOut_54 rfl ?_
    refine wp_iload_n (pc := 55) dX12_goOut_55 rfl ?_
    refine wp_icmp_eq (tgt := 78) (pc := 56) dX12_goOut_56 (by decide) (fun c2 => ?_) (fun c2 => ?_)
    · have F := F.1 c2
      exact r_V (pc := 78) dX12_goOut_78 rfl F
    · have F := F.2 c2
      refine wp_aload_n (pc := 59) dX12_goOut_59 rfl ?_
      refine wp_getR (pc := 60) dX12_goOut_60 fl_X12_82 rfl (TX12s_k th) (TX12s_r52 th) ?_
      refine wp_iload_n (pc := 63) dX12_goOut_63 rfl ?_
      refine wp_iald (pc := 64) dX12_goOut_64 (TX12s_a52 th) F.1 ?_
      have F := F.2
      refine wp_iconst (v := -1) (pc := 65) dX12_goOut_65 (by decide) ?_
      refine wp_icmp_eq (tgt := 78) (pc := 66) dX12_goOut_66 (by decide) (fun c3 => ?_) (fun c3 => ?_)
      · have F := F.1 c3
        exact r_V (pc := 78) dX12_goOut_78 rfl F
      · have F := F.2 c3
        refine wp_aload_n (pc := 69) dX12_goOut_69 rfl ?_
        refine wp_iload_n (pc := 70) dX12_goOut_70 rfl ?_
        refine wp_iload_n (pc := 71) dX12_goOut_71 rfl ?_
        refine wp_bipush (v := 64) (pc := 72) dX12_goOut_72 (by decide) ?_
        refine wp_iadd (pc := 74) dX12_goOut_74 ?_
        refine cvV [.int x1, .int (x1 + 64)] [] (pc := 75) dX12_goOut_75 ml_X12_585 iv_X12_meets (TX12s_k th) (cl_X12 rfl) rfl rfl (Nat.le_of_ble_eq_true rfl) (Nat.le_of_ble_eq_true rfl) (wV.mono (fun mi5 ml6 F => ?_) F)
        exact r_V (pc := 78) dX12_goOut_78 rfl F
  · have F := F.2 c1
    refine wp_aload_n (pc := 7) dX12_goOut_7 rfl ?_
    refine wp_iload_n (pc := 8) dX12_goOut_8 rfl ?_
    refine wp_iload_n (pc := 9) dX12_goOut_9 rfl ?_
    refine cvI [.int x1, .int x3] [] (pc := 10) dX12_goOut_10 ml_X12_383 iv_X12_free (TX12s_k th) (cl_X12 rfl) rfl rfl (Nat.le_of_ble_eq_true rfl) (Nat.le_of_ble_eq_true rfl) (wI.mono (fun r7 mi8 ml9 F => ?_) F)
    refine wp_istore (pc := 13) dX12_goOut_13 (Nat.le_of_ble_eq_true rfl) rfl ?_
    show wp l M_X12_goOut (d + 1) 0 0 _ [some (.ref h), some (.int x1), some (.int x2), some (.int x3), some (.int r7)] _ 0 0 kd _ _ mr _
    refine wp_iload (pc := 15) dX12_goOut_15 rfl ?_
    refine wp_iconst (v := -1) (pc := 17) dX12_goOut_17 (by decide) ?_
    refine wp_icmp_eq (tgt := 48) (pc := 18) dX12_goOut_18 (by decide) (fun c10 => ?_) (fun c10 => ?_)
    · have F := F.1 c10
      exact wp_less (L' := [some (.ref h), some (.int x1), some (.int x2), some (.int x3), none]) ⟨rfl, ⟨rfl, ⟨rfl, ⟨rfl, trivial⟩⟩⟩⟩ F
    · have F := F.2 c10
      refine wp_iload (pc := 21) dX12_goOut_21 rfl ?_
      refine wp_iload_n (pc := 23) dX12_goOut_23 rfl ?_
      refine wp_icmp_eq (tgt := 48) (pc := 24) dX12_goOut_24 (by decide) (fun c11 => ?_) (fun c11 => ?_)
      · have F := F.1 c11
        exact wp_less (L' := [some (.ref h), some (.int x1), some (.int x2), some (.int x3), none]) ⟨rfl, ⟨rfl, ⟨rfl, ⟨rfl, trivial⟩⟩⟩⟩ F
      · have F := F.2 c11
        refine wp_aload_n (pc := 27) dX12_goOut_27 rfl ?_
        refine wp_getR (pc := 28) dX12_goOut_28 fl_X12_82 rfl (TX12s_k th) (TX12s_r52 th) ?_
        refine wp_iload_n (pc := 31) dX12_goOut_31 rfl ?_
        refine wp_iald (pc := 32) dX12_goOut_32 (TX12s_a52 th) F.1 ?_
        have F := F.2
        refine wp_iload (pc := 33) dX12_goOut_33 rfl ?_
        refine wp_icmp_eq (tgt := 48) (pc := 35) dX12_goOut_35 (by decide) (fun c12 => ?_) (fun c12 => ?_)
        · have F := F.1 c12
          exact wp_less (L' := [some (.ref h), some (.int x1), some (.int x2), some (.int x3), none]) ⟨rfl, ⟨rfl, ⟨rfl, ⟨rfl, trivial⟩⟩⟩⟩ F
        · have F := F.2 c12
          refine wp_aload_n (pc := 38) dX12_goOut_38 rfl ?_
          refine wp_iload (pc := 39) dX12_goOut_39 rfl ?_
          refine wp_iload_n (pc := 41) dX12_goOut_41 rfl ?_
          refine wp_bipush (v := 64) (pc := 42) dX12_goOut_42 (by decide) ?_
          refine wp_iadd (pc := 44) dX12_goOut_44 ?_
          refine cvV [.int r7, .int (x1 + 64)] [] (pc := 45) dX12_goOut_45 ml_X12_585 iv_X12_meets (TX12s_k th) (cl_X12 rfl) rfl rfl (Nat.le_of_ble_eq_true rfl) (Nat.le_of_ble_eq_true rfl) (wV.mono (fun mi14 ml15 F => ?_) F)
          exact wp_less (L' := [some (.ref h), some (.int x1), some (.int x2), some (.int x3), none]) ⟨rfl, ⟨rfl, ⟨rfl, ⟨rfl, trivial⟩⟩⟩⟩ F
theorem w_X12_goOut_48 {l : Launch} {d : Nat} {kd : pm_K} {mr : pm_R} {h : Nat} {x1 : Int32} {x2 : Int32} {x3 : Int32} {mi : pm_I} {ml : pm_L} {K : pm_I → pm_L → Prop} (th : TX12s kd mr h)
    (F : c_X12_goOut_2 l (d + 1) kd mr h x1 x2 (x3 + 1) mi ml K) :
    c_X12_goOut_48 l (d + 1) kd mr h x1 x2 x3 mi ml K := by
  show wp l M_X12_goOut (d + 1) 0 0 48 [some (.ref h), some (.int x1), some (.int x2), some (.int x3), none] [] 0 0 kd mi ml mr _
  refine wp_iinc (v := (x3 + 1)) (pc := 48) dX12_goOut_48 rfl rfl rfl ?_
  show wp l M_X12_goOut (d + 1) 0 0 _ [some (.ref h), some (.int x1), some (.int x2), some (.int (x3 + 1)), none] _ 0 0 kd _ _ mr _
  refine wp_goto (tgt := 2) (pc := 51) dX12_goOut_51 (by decide) ?_
  exact wp_less (L' := [some (.ref h), some (.int x1), some (.int x2), some (.int (x3 + 1)), none]) ⟨rfl, ⟨rfl, ⟨rfl, ⟨rfl, trivial⟩⟩⟩⟩ F
/-- goOut(II)V -/
theorem w_X12_goOut {l : Launch} {d : Nat} {kd : pm_K} {mr : pm_R} {h : Nat} {x1 : Int32} {x2 : Int32} {mi : pm_I} {ml : pm_L} {K : pm_I → pm_L → Prop} (th : TX12s kd mr h)
    (F : c_X12_goOut_2 l (d + 1) kd mr h x1 x2 0 mi ml K) :
    wV l M_X12_goOut (d + 1) [.ref h, .int x1, .int x2] kd mr mi ml K := by
  show wp l M_X12_goOut (d + 1) 0 0 0 [some (.ref h), some (.int x1), some (.int x2), none, none] [] 0 0 kd mi ml mr _
  refine wp_iconst (v := 0) (pc := 0) dX12_goOut_0 (by decide) ?_
  refine wp_istore_n (pc := 1) dX12_goOut_1 (Nat.le_of_ble_eq_true rfl) rfl ?_
  show wp l M_X12_goOut (d + 1) 0 0 _ [some (.ref h), some (.int x1), some (.int x2), some (.int 0), none] _ 0 0 kd _ _ mr _
  exact wp_less (L' := [some (.ref h), some (.int x1), some (.int x2), some (.int 0), none]) ⟨rfl, ⟨rfl, ⟨rfl, ⟨rfl, trivial⟩⟩⟩⟩ F
/-- goIn(II)V -/
theorem w_X12_goIn {l : Launch} {d : Nat} {kd : pm_K} {mr : pm_R} {h : Nat} {x1 : Int32} {x2 : Int32} {mi : pm_I} {ml : pm_L} {K : pm_I → pm_L → Prop} (th : TX12s kd mr h)
    (F : vp_in x1 64 ∧ ((¬ (mi (h + 24) (Int32.toNatClampNeg x1)) = (-1) → vp_in x1 64 ∧ (((mi (h + 25) (Int32.toNatClampNeg x1)) = x2 → K mi ml) ∧ (¬ (mi (h + 25) (Int32.toNatClampNeg x1)) = x2 → vp_in x1 64 ∧ wV l M_X12_meets d [.ref h, .int ((mi (h + 25) (Int32.toNatClampNeg x1)) + 64), .int x1] kd mr mi ml (fun mi4 ml5 => K mi4 ml5)))) ∧ ((mi (h + 24) (Int32.toNatClampNeg x1)) = (-1) → wV l M_X12_meets d [.ref h, .int (x1 + 64), .int x1] kd mr mi ml (fun mi7 ml8 => K mi7 ml8)))) :
    wV l M_X12_goIn (d + 1) [.ref h, .int x1, .int x2] kd mr mi ml K := by
  show wp l M_X12_goIn (d + 1) 0 0 0 [some (.ref h), some (.int x1), some (.int x2)] [] 0 0 kd mi ml mr _
  refine wp_aload_n (pc := 0) dX12_goIn_0 rfl ?_
  refine wp_getR (pc := 1) dX12_goIn_1 fl_X12_82 rfl (TX12s_k th) (TX12s_r52 th) ?_
  refine wp_iload_n (pc := 4) dX12_goIn_4 rfl ?_
  refine wp_iald (pc := 5) dX12_goIn_5 (TX12s_a52 th) F.1 ?_
  have F := F.2
  refine wp_iconst (v := -1) (pc := 6) dX12_goIn_6 (by decide) ?_
  refine wp_icmp_ne (tgt := 22) (pc := 7) dX12_goIn_7 (by decide) (fun c1 => ?_) (fun c1 => ?_)
  · have F := F.1 c1
    refine wp_aload_n (pc := 22) dX12_goIn_22 rfl ?_
    refine wp_getR (pc := 23) dX12_goIn_23 fl_X12_85 rfl (TX12s_k th) (TX12s_r53 th) ?_
    refine wp_iload_n (pc := 26) dX12_goIn_26 rfl ?_
    refine wp_iald (pc := 27) dX12_goIn_27 (TX12s_a53 th) F.1 ?_
    have F := F.2
    refine wp_iload_n (pc := 28) dX12_goIn_28 rfl ?_
    refine wp_icmp_eq (tgt := 46) (pc := 29) dX12_goIn_29 (by decide) (fun c2 => ?_) (fun c2 => ?_)
    · have F := F.1 c2
      exact r_V (pc := 46) dX12_goIn_46 rfl F
    · have F := F.2 c2
      refine wp_aload_n (pc := 32) dX12_goIn_32 rfl ?_
      refine wp_aload_n (pc := 33) dX12_goIn_33 rfl ?_
      refine wp_getR (pc := 34) dX12_goIn_34 fl_X12_85 rfl (TX12s_k th) (TX12s_r53 th) ?_
      refine wp_iload_n (pc := 37) dX12_goIn_37 rfl ?_
      refine wp_iald (pc := 38) dX12_goIn_38 (TX12s_a53 th) F.1 ?_
      have F := F.2
      refine wp_bipush (v := 64) (pc := 39) dX12_goIn_39 (by decide) ?_
      refine wp_iadd (pc := 41) dX12_goIn_41 ?_
      refine wp_iload_n (pc := 42) dX12_goIn_42 rfl ?_
      refine cvV [.int ((mi (h + 25) (Int32.toNatClampNeg x1)) + 64), .int x1] [] (pc := 43) dX12_goIn_43 ml_X12_585 iv_X12_meets (TX12s_k th) (cl_X12 rfl) rfl rfl (Nat.le_of_ble_eq_true rfl) (Nat.le_of_ble_eq_true rfl) (wV.mono (fun mi4 ml5 F => ?_) F)
      exact r_V (pc := 46) dX12_goIn_46 rfl F
  · have F := F.2 c1
    refine wp_aload_n (pc := 10) dX12_goIn_10 rfl ?_
    refine wp_iload_n (pc := 11) dX12_goIn_11 rfl ?_
    refine wp_bipush (v := 64) (pc := 12) dX12_goIn_12 (by decide) ?_
    refine wp_iadd (pc := 14) dX12_goIn_14 ?_
    refine wp_iload_n (pc := 15) dX12_goIn_15 rfl ?_
    refine cvV [.int (x1 + 64), .int x1] [] (pc := 16) dX12_goIn_16 ml_X12_585 iv_X12_meets (TX12s_k th) (cl_X12 rfl) rfl rfl (Nat.le_of_ble_eq_true rfl) (Nat.le_of_ble_eq_true rfl) (wV.mono (fun mi7 ml8 F => ?_) F)
    refine wp_goto (tgt := 46) (pc := 19) dX12_goIn_19 (by decide) ?_
    exact r_V (pc := 46) dX12_goIn_46 rfl F
def c_X12_lays_97 (l : Launch) (d : Nat) (kd : pm_K) (mr : pm_R) (h : Nat) (x3 : Int32) (mi : pm_I) (ml : pm_L) (K : pm_I → pm_L → Prop) : Prop := wp l M_X12_lays d 0 0 97 [some (.ref h), none, none, some (.int x3), none, none] [] 0 0 kd mi ml mr (qV kd mr K)
def c_X12_lays_64 (l : Launch) (d : Nat) (kd : pm_K) (mr : pm_R) (h : Nat) (x2 : Int32) (x3 : Int32) (x4 : Int32) (x5 : Int32) (mi : pm_I) (ml : pm_L) (K : pm_I → pm_L → Prop) : Prop := wp l M_X12_lays d 0 0 64 [some (.ref h), none, some (.int x2), some (.int x3), some (.int x4), some (.int x5)] [] 0 0 kd mi ml mr (qV kd mr K)
def c_X12_lays_2 (l : Launch) (d : Nat) (kd : pm_K) (mr : pm_R) (h : Nat) (x2 : Int32) (mi : pm_I) (ml : pm_L) (K : pm_I → pm_L → Prop) : Prop := wp l M_X12_lays d 0 0 2 [some (.ref h), none, some (.int x2), none, none, none] [] 0 0 kd mi ml mr (qV kd mr K)
theorem w_X12_lays_2 {l : Launch} {d : Nat} {kd : pm_K} {mr : pm_R} {h : Nat} {x2 : Int32} {mi : pm_I} {ml : pm_L} {K : pm_I → pm_L → Prop} (th : TX12s kd mr h)
    (F : vp_in x2 128 ∧ (((mi (h + 26) (Int32.toNatClampNeg x2)) = (-1) → K mi ml) ∧ (¬ (mi (h + 26) (Int32.toNatClampNeg x2)) = (-1) → vp_in x2 128 ∧ (((mi (h + 26) (Int32.toNatClampNeg x2)) < 64 → c_X12_lays_64 l d kd mr h x2 (mi (h + 26) (Int32.toNatClampNeg x2)) ((mi (h + 26) (Int32.toNatClampNeg x2)) - (mi (h + 26) (Int32.toNatClampNeg x2)) / 64 * 64) (x2 - x2 / 64 * 64) mi ml K) ∧ (¬ (mi (h + 26) (Int32.toNatClampNeg x2)) < 64 → ((64 ≤ x2 → c_X12_lays_64 l d kd mr h x2 (mi (h + 26) (Int32.toNatClampNeg x2)) ((mi (h + 26) (Int32.toNatClampNeg x2)) - (mi (h + 26) (Int32.toNatClampNeg x2)) / 64 * 64) (x2 - x2 / 64 * 64) mi ml K) ∧ (¬ 64 ≤ x2 → ((((mi (h + 26) (Int32.toNatClampNeg x2)) - (mi (h + 26) (Int32.toNatClampNeg x2)) / 64 * 64) = (x2 - x2 / 64 * 64) → c_X12_lays_64 l d kd mr h x2 (mi (h + 26) (Int32.toNatClampNeg x2)) ((mi (h + 26) (Int32.toNatClampNeg x2)) - (mi (h + 26) (Int32.toNatClampNeg x2)) / 64 * 64) (x2 - x2 / 64 * 64) mi ml K) ∧ (¬ ((mi (h + 26) (Int32.toNatClampNeg x2)) - (mi (h + 26) (Int32.toNatClampNeg x2)) / 64 * 64) = (x2 - x2 / 64 * 64) → vp_in ((64 * ((mi (h + 26) (Int32.toNatClampNeg x2)) - (mi (h + 26) (Int32.toNatClampNeg x2)) / 64 * 64)) + (x2 - x2 / 64 * 64)) 4096 ∧ c_X12_lays_64 l d kd mr h x2 (mi (h + 26) (Int32.toNatClampNeg x2)) ((mi (h + 26) (Int32.toNatClampNeg x2)) - (mi (h + 26) (Int32.toNatClampNeg x2)) / 64 * 64) (x2 - x2 / 64 * 64) (pm_up mi (h + 28) (Int32.toNatClampNeg ((64 * ((mi (h + 26) (Int32.toNatClampNeg x2)) - (mi (h + 26) (Int32.toNatClampNeg x2)) / 64 * 64)) + (x2 - x2 / 64 * 64))) (1 &&& 1)) ml K))))))))) :
    c_X12_lays_2 l d kd mr h x2 mi ml K := by
  show wp l M_X12_lays d 0 0 2 [some (.ref h), none, some (.int x2), none, none, none] [] 0 0 kd mi ml mr _
  refine wp_aload_n (pc := 2) dX12_lays_2 rfl ?_
  refine wp_getR (pc := 3) dX12_lays_3 fl_X12_88 rfl (TX12s_k th) (TX12s_r54 th) ?_
  refine wp_iload_n (pc := 6) dX12_lays_6 rfl ?_
  refine wp_iald (pc := 7) dX12_lays_7 (TX12s_a54 th) F.1 ?_
  have F := F.2
  refine wp_iconst (v := -1) (pc := 8) dX12_lays_8 (by decide) ?_
  refine wp_icmp_eq (tgt := 102) (pc := 9) dX12_lays_9 (by decide) (fun c1 => ?_) (fun c1 => ?_)
  · have F := F.1 c1
    exact r_V (pc := 102) dX12_lays_102 rfl F
  · have F := F.2 c1
    refine wp_aload_n (pc := 12) dX12_lays_12 rfl ?_
    refine wp_getR (pc := 13) dX12_lays_13 fl_X12_88 rfl (TX12s_k th) (TX12s_r54 th) ?_
    refine wp_iload_n (pc := 16) dX12_lays_16 rfl ?_
    refine wp_iald (pc := 17) dX12_lays_17 (TX12s_a54 th) F.1 ?_
    have F := F.2
    refine wp_istore_n (pc := 18) dX12_lays_18 (Nat.le_of_ble_eq_true rfl) rfl ?_
    show wp l M_X12_lays d 0 0 _ [some (.ref h), none, some (.int x2), some (.int (mi (h + 26) (Int32.toNatClampNeg x2))), none, none] _ 0 0 kd _ _ mr _
    refine wp_iload_n (pc := 19) dX12_lays_19 rfl ?_
    refine wp_bipush (v := 64) (pc := 20) dX12_lays_20 (by decide) ?_
    refine wp_irem (pc := 22) dX12_lays_22 (by decide) ?_
    refine wp_istore (pc := 23) dX12_lays_23 (Nat.le_of_ble_eq_true rfl) rfl ?_
    show wp l M_X12_lays d 0 0 _ [some (.ref h), none, some (.int x2), some (.int (mi (h + 26) (Int32.toNatClampNeg x2))), some (.int ((mi (h + 26) (Int32.toNatClampNeg x2)) - (mi (h + 26) (Int32.toNatClampNeg x2)) / 64 * 64)), none] _ 0 0 kd _ _ mr _
    refine wp_iload_n (pc := 25) dX12_lays_25 rfl ?_
    refine wp_bipush (v := 64) (pc := 26) dX12_lays_26 (by decide) ?_
    refine wp_irem (pc := 28) dX12_lays_28 (by decide) ?_
    refine wp_istore (pc := 29) dX12_lays_29 (Nat.le_of_ble_eq_true rfl) rfl ?_
    show wp l M_X12_lays d 0 0 _ [some (.ref h), none, some (.int x2), some (.int (mi (h + 26) (Int32.toNatClampNeg x2))), some (.int ((mi (h + 26) (Int32.toNatClampNeg x2)) - (mi (h + 26) (Int32.toNatClampNeg x2)) / 64 * 64)), some (.int (x2 - x2 / 64 * 64))] _ 0 0 kd _ _ mr _
    refine wp_iload_n (pc := 31) dX12_lays_31 rfl ?_
    refine wp_bipush (v := 64) (pc := 32) dX12_lays_32 (by decide) ?_
    refine wp_icmp_lt (tgt := 64) (pc := 34) dX12_lays_34 (by decide) (fun c2 => ?_) (fun c2 => ?_)
    · have F := F.1 c2
      exact wp_less (L' := [some (.ref h), none, some (.int x2), some (.int (mi (h + 26) (Int32.toNatClampNeg x2))), some (.int ((mi (h + 26) (Int32.toNatClampNeg x2)) - (mi (h + 26) (Int32.toNatClampNeg x2)) / 64 * 64)), some (.int (x2 - x2 / 64 * 64))]) ⟨rfl, ⟨rfl, ⟨rfl, ⟨rfl, ⟨rfl, trivial⟩⟩⟩⟩⟩ F
    · have F := F.2 c2
      refine wp_iload_n (pc := 37) dX12_lays_37 rfl ?_
      refine wp_bipush (v := 64) (pc := 38) dX12_lays_38 (by decide) ?_
      refine wp_icmp_ge (tgt := 64) (pc := 40) dX12_lays_40 (by decide) (fun c3 => ?_) (fun c3 => ?_)
      · have F := F.1 c3
        exact wp_less (L' := [some (.ref h), none, some (.int x2), some (.int (mi (h + 26) (Int32.toNatClampNeg x2))), some (.int ((mi (h + 26) (Int32.toNatClampNeg x2)) - (mi (h + 26) (Int32.toNatClampNeg x2)) / 64 * 64)), some (.int (x2 - x2 / 64 * 64))]) ⟨rfl, ⟨rfl, ⟨rfl, ⟨rfl, ⟨rfl, trivial⟩⟩⟩⟩⟩ F
      · have F := F.2 c3
        refine wp_iload (pc := 43) dX12_lays_43 rfl ?_
        refine wp_iload (pc := 45) dX12_lays_45 rfl ?_
        refine wp_icmp_eq (tgt := 64) (pc := 47) dX12_lays_47 (by decide) (fun c4 => ?_) (fun c4 => ?_)
        · have F := F.1 c4
          exact wp_less (L' := [some (.ref h), none, some (.int x2), some (.int (mi (h + 26) (Int32.toNatClampNeg x2))), some (.int ((mi (h + 26) (Int32.toNatClampNeg x2)) - (mi (h + 26) (Int32.toNatClampNeg x2)) / 64 * 64)), some (.int (x2 - x2 / 64 * 64))]) ⟨rfl, ⟨rfl, ⟨rfl, ⟨rfl, ⟨rfl, trivial⟩⟩⟩⟩⟩ F
        · have F := F.2 c4
          refine wp_aload_n (pc := 50) dX12_lays_50 rfl ?_
          refine wp_getR (pc := 51) dX12_lays_51 fl_X12_94 rfl (TX12s_k th) (TX12s_r57 th) ?_
          refine wp_bipush (v := 64) (pc := 54) dX12_lays_54 (by decide) ?_
          refine wp_iload (pc := 56) dX12_lays_56 rfl ?_
          refine wp_imul (pc := 58) dX12_lays_58 ?_
          refine wp_iload (pc := 59) dX12_lays_59 rfl ?_
          refine wp_iadd (pc := 61) dX12_lays_61 ?_
          refine wp_iconst (v := 1) (pc := 62) dX12_lays_62 (by decide) ?_
          refine wp_zast (pc := 63) dX12_lays_63 (TX12s_a57 th) F.1 ?_
          have F := F.2
          exact wp_less (L' := [some (.ref h), none, some (.int x2), some (.int (mi (h + 26) (Int32.toNatClampNeg x2))), some (.int ((mi (h + 26) (Int32.toNatClampNeg x2)) - (mi (h + 26) (Int32.toNatClampNeg x2)) / 64 * 64)), some (.int (x2 - x2 / 64 * 64))]) ⟨rfl, ⟨rfl, ⟨rfl, ⟨rfl, ⟨rfl, trivial⟩⟩⟩⟩⟩ F
theorem w_X12_lays_64 {l : Launch} {d : Nat} {kd : pm_K} {mr : pm_R} {h : Nat} {x2 : Int32} {x3 : Int32} {x4 : Int32} {x5 : Int32} {mi : pm_I} {ml : pm_L} {K : pm_I → pm_L → Prop} (th : TX12s kd mr h)
    (F : ((64 ≤ x3 → c_X12_lays_97 l d kd mr h x3 mi ml K) ∧ (¬ 64 ≤ x3 → ((x2 < 64 → c_X12_lays_97 l d kd mr h x3 mi ml K) ∧ (¬ x2 < 64 → ((x4 = x5 → c_X12_lays_97 l d kd mr h x3 mi ml K) ∧ (¬ x4 = x5 → vp_in ((64 * x5) + x4) 4096 ∧ c_X12_lays_97 l d kd mr h x3 (pm_up mi (h + 28) (Int32.toNatClampNeg ((64 * x5) + x4)) (0 &&& 1)) ml K))))))) :
    c_X12_lays_64 l d kd mr h x2 x3 x4 x5 mi ml K := by
  show wp l M_X12_lays d 0 0 64 [some (.ref h), none, some (.int x2), some (.int x3), some (.int x4), some (.int x5)] [] 0 0 kd mi ml mr _
  refine wp_iload_n (pc := 64) dX12_lays_64 rfl ?_
  refine wp_bipush (v := 64) (pc := 65) dX12_lays_65 (by decide) ?_
  refine wp_icmp_ge (tgt := 97) (pc := 67) dX12_lays_67 (by decide) (fun c5 => ?_) (fun c5 => ?_)
  · have F := F.1 c5
    exact wp_less (L' := [some (.ref h), none, none, some (.int x3), none, none]) ⟨rfl, ⟨rfl, trivial⟩⟩ F
  · have F := F.2 c5
    refine wp_iload_n (pc := 70) dX12_lays_70 rfl ?_
    refine wp_bipush (v := 64) (pc := 71) dX12_lays_71 (by decide) ?_
    refine wp_icmp_lt (tgt := 97) (pc := 73) dX12_lays_73 (by decide) (fun c6 => ?_) (fun c6 => ?_)
    · have F := F.1 c6
      exact wp_less (L' := [some (.ref h), none, none, some (.int x3), none, none]) ⟨rfl, ⟨rfl, trivial⟩⟩ F
    · have F := F.2 c6
      refine wp_iload (pc := 76) dX12_lays_76 rfl ?_
      refine wp_iload (pc := 78) dX12_lays_78 rfl ?_
      refine wp_icmp_eq (tgt := 97) (pc := 80) dX12_lays_80 (by decide) (fun c7 => ?_) (fun c7 => ?_)
      · have F := F.1 c7
        exact wp_less (L' := [some (.ref h), none, none, some (.int x3), none, none]) ⟨rfl, ⟨rfl, trivial⟩⟩ F
      · have F := F.2 c7
        refine wp_aload_n (pc := 83) dX12_lays_83 rfl ?_
        refine wp_getR (pc := 84) dX12_lays_84 fl_X12_94 rfl (TX12s_k th) (TX12s_r57 th) ?_
        refine wp_bipush (v := 64) (pc := 87) dX12_lays_87 (by decide) ?_
        refine wp_iload (pc := 89) dX12_lays_89 rfl ?_
        refine wp_imul (pc := 91) dX12_lays_91 ?_
        refine wp_iload (pc := 92) dX12_lays_92 rfl ?_
        refine wp_iadd (pc := 94) dX12_lays_94 ?_
        refine wp_iconst (v := 0) (pc := 95) dX12_lays_95 (by decide) ?_
        refine wp_zast (pc := 96) dX12_lays_96 (TX12s_a57 th) F.1 ?_
        have F := F.2
        exact wp_less (L' := [some (.ref h), none, none, some (.int x3), none, none]) ⟨rfl, ⟨rfl, trivial⟩⟩ F
theorem w_X12_lays_97 {l : Launch} {d : Nat} {kd : pm_K} {mr : pm_R} {h : Nat} {x3 : Int32} {mi : pm_I} {ml : pm_L} {K : pm_I → pm_L → Prop} (th : TX12s kd mr h)
    (F : c_X12_lays_2 l d kd mr h x3 mi ml K) :
    c_X12_lays_97 l d kd mr h x3 mi ml K := by
  show wp l M_X12_lays d 0 0 97 [some (.ref h), none, none, some (.int x3), none, none] [] 0 0 kd mi ml mr _
  refine wp_iload_n (pc := 97) dX12_lays_97 rfl ?_
  refine wp_istore_n (pc := 98) dX12_lays_98 (Nat.le_of_ble_eq_true rfl) rfl ?_
  show wp l M_X12_lays d 0 0 _ [some (.ref h), none, some (.int x3), some (.int x3), none, none] _ 0 0 kd _ _ mr _
  refine wp_goto (tgt := 2) (pc := 99) dX12_lays_99 (by decide) ?_
  exact wp_less (L' := [some (.ref h), none, some (.int x3), none, none, none]) ⟨rfl, ⟨rfl, trivial⟩⟩ F
/-- lays(I)V -/
theorem w_X12_lays {l : Launch} {d : Nat} {kd : pm_K} {mr : pm_R} {h : Nat} {x1 : Int32} {mi : pm_I} {ml : pm_L} {K : pm_I → pm_L → Prop} (th : TX12s kd mr h)
    (F : c_X12_lays_2 l d kd mr h x1 mi ml K) :
    wV l M_X12_lays d [.ref h, .int x1] kd mr mi ml K := by
  show wp l M_X12_lays d 0 0 0 [some (.ref h), some (.int x1), none, none, none, none] [] 0 0 kd mi ml mr _
  refine wp_iload_n (pc := 0) dX12_lays_0 rfl ?_
  refine wp_istore_n (pc := 1) dX12_lays_1 (Nat.le_of_ble_eq_true rfl) rfl ?_
  show wp l M_X12_lays d 0 0 _ [some (.ref h), some (.int x1), some (.int x1), none, none, none] _ 0 0 kd _ _ mr _
  exact wp_less (L' := [some (.ref h), none, some (.int x1), none, none, none]) ⟨rfl, ⟨rfl, trivial⟩⟩ F
def c_X12_square_42 (l : Launch) (d : Nat) (kd : pm_K) (mr : pm_R) (h : Nat) (x2 : Int32) (x3 : Int32) (x4 : Int32) (x5 : Int32) (x6 : Int32) (x7 : Int32) (mi : pm_I) (ml : pm_L) (K : Int32 → pm_I → pm_L → Prop) : Prop := wp l M_X12_square d 0 0 42 [some (.ref h), none, some (.int x2), some (.int x3), some (.int x4), some (.int x5), some (.int x6), some (.int x7)] [] 0 0 kd mi ml mr (qI kd mr K)
def c_X12_square_27 (l : Launch) (d : Nat) (kd : pm_K) (mr : pm_R) (h : Nat) (x2 : Int32) (x3 : Int32) (x4 : Int32) (x5 : Int32) (mi : pm_I) (ml : pm_L) (K : Int32 → pm_I → pm_L → Prop) : Prop := wp l M_X12_square d 0 0 27 [some (.ref h), none, some (.int x2), some (.int x3), some (.int x4), some (.int x5), none, none] [] 0 0 kd mi ml mr (qI kd mr K)
theorem w_X12_square_27 {l : Launch} {d : Nat} {kd : pm_K} {mr : pm_R} {h : Nat} {x2 : Int32} {x3 : Int32} {x4 : Int32} {x5 : Int32} {mi : pm_I} {ml : pm_L} {K : Int32 → pm_I → pm_L → Prop} (th : TX12s kd mr h)
    (F : (((mi h 27) ≤ x5 → K (if x2 = 0 then x3 else x4) mi ml) ∧ (¬ (mi h 27) ≤ x5 → c_X12_square_42 l (d + 1) kd mr h x2 x3 x4 x5 0 0 mi ml K))) :
    c_X12_square_27 l (d + 1) kd mr h x2 x3 x4 x5 mi ml K := by
  show wp l M_X12_square (d + 1) 0 0 27 [some (.ref h), none, some (.int x2), some (.int x3), some (.int x4), some (.int x5), none, none] [] 0 0 kd mi ml mr _
  refine wp_iload (pc := 27) dX12_square_27 rfl ?_
  refine wp_aload_n (pc := 29) dX12_square_29 rfl ?_
  refine wp_getI (pc := 30) dX12_square_30 fl_X12_331 rfl (TX12s_k th) ?_
  refine wp_icmp_ge (tgt := 111) (pc := 33) dX12_square_33 (by decide) (fun c8 => ?_) (fun c8 => ?_)
  · have F := F.1 c8
    refine wp_iload_n (pc := 111) dX12_square_111 rfl ?_
    suffices J9 : ∀ v10 : Int32, v10 = (if x2 = 0 then x3 else x4) → wp l M_X12_square (d + 1) 0 0 121 [some (.ref h), none, some (.int x2), some (.int x3), some (.int x4), some (.int x5), none, none] [.int v10] 0 0 kd mi ml mr _ by
        refine wp_if_eq (tgt := 120) (pc := 112) dX12_square_112 (by decide) (fun c11 => ?_) (fun c11 => ?_)
        · refine wp_iload_n (pc := 120) dX12_square_120 rfl ?_
          exact J9 _ (by simp only [eq_true c11, if_true, if_false, decide_true, decide_false, Bool.not_true, Bool.not_false, Bool.true_and, Bool.false_and, Bool.true_or, Bool.false_or, b2i_t, b2i_f, ite_true, ite_false, not_true_eq_false, not_false_eq_true, reduceCtorEq, decide_eq_true_eq])
        · refine wp_iload (pc := 115) dX12_square_115 rfl ?_
          refine wp_goto (tgt := 121) (pc := 117) dX12_square_117 (by decide) ?_
          exact J9 _ (by simp only [c11, if_true, if_false, decide_true, decide_false, Bool.not_true, Bool.not_false, Bool.true_and, Bool.false_and, Bool.true_or, Bool.false_or, b2i_t, b2i_f, ite_true, ite_false, not_true_eq_false, not_false_eq_true, reduceCtorEq, decide_eq_true_eq])
    intro v10 ev10
    subst ev10
    exact r_I (pc := 121) dX12_square_121 rfl F
  · have F := F.2 c8
    refine wp_iconst (v := 0) (pc := 36) dX12_square_36 (by decide) ?_
    refine wp_istore (pc := 37) dX12_square_37 (Nat.le_of_ble_eq_true rfl) rfl ?_
    show wp l M_X12_square (d + 1) 0 0 _ [some (.ref h), none, some (.int x2), some (.int x3), some (.int x4), some (.int x5), some (.int 0), none] _ 0 0 kd _ _ mr _
    refine wp_iconst (v := 0) (pc := 39) dX12_square_39 (by decide) ?_
    refine wp_istore (pc := 40) dX12_square_40 (Nat.le_of_ble_eq_true rfl) rfl ?_
    show wp l M_X12_square (d + 1) 0 0 _ [some (.ref h), none, some (.int x2), some (.int x3), some (.int x4), some (.int x5), some (.int 0), some (.int 0)] _ 0 0 kd _ _ mr _
    exact wp_less (L' := [some (.ref h), none, some (.int x2), some (.int x3), some (.int x4), some (.int x5), some (.int 0), some (.int 0)]) ⟨rfl, ⟨rfl, ⟨rfl, ⟨rfl, ⟨rfl, ⟨rfl, ⟨rfl, trivial⟩⟩⟩⟩⟩⟩⟩ F
theorem w_X12_square_42 {l : Launch} {d : Nat} {kd : pm_K} {mr : pm_R} {h : Nat} {x2 : Int32} {x3 : Int32} {x4 : Int32} {x5 : Int32} {x6 : Int32} {x7 : Int32} {mi : pm_I} {ml : pm_L} {K : Int32 → pm_I → pm_L → Prop} (th : TX12s kd mr h)
    (F : (((mi h 28) ≤ x7 → wI l M_X12_greater d [.int x4, .int x6] kd mr mi ml (fun r16 mi17 ml18 => c_X12_square_27 l (d + 1) kd mr h x2 (if x6 ≤ x4 then x3 else x5) r16 (x5 + 1) mi17 ml18 K)) ∧ (¬ (mi h 28) ≤ x7 → vp_in x7 64 ∧ wB l M_X12_isIn d [.long (ml (h + 17) (Int32.toNatClampNeg x7)), .int x5] kd mr mi ml (fun r19 mi20 ml21 => c_X12_square_42 l (d + 1) kd mr h x2 x3 x4 x5 (x6 + (b2i (decide (r19 = true)))) (x7 + 1) mi20 ml21 K)))) :
    c_X12_square_42 l (d + 1) kd mr h x2 x3 x4 x5 x6 x7 mi ml K := by
  show wp l M_X12_square (d + 1) 0 0 42 [some (.ref h), none, some (.int x2), some (.int x3), some (.int x4), some (.int x5), some (.int x6), some (.int x7)] [] 0 0 kd mi ml mr _
  refine wp_iload (pc := 42) dX12_square_42 rfl ?_
  refine wp_aload_n (pc := 44) dX12_square_44 rfl ?_
  refine wp_getI (pc := 45) dX12_square_45 fl_X12_334 rfl (TX12s_k th) ?_
  refine wp_icmp_ge (tgt := 82) (pc := 48) dX12_square_48 (by decide) (fun c12 => ?_) (fun c12 => ?_)
  · have F := F.1 c12
    refine wp_iload (pc := 82) dX12_square_82 rfl ?_
    refine wp_iload (pc := 84) dX12_square_84 rfl ?_
    suffices J13 : ∀ v14 : Int32, v14 = (if x6 ≤ x4 then x3 else x5) → wp l M_X12_square (d + 1) 0 0 95 [some (.ref h), none, some (.int x2), some (.int x3), some (.int x4), some (.int x5), some (.int x6), some (.int x7)] [.int v14] 0 0 kd mi ml mr _ by
        refine wp_icmp_le (tgt := 94) (pc := 86) dX12_square_86 (by decide) (fun c15 => ?_) (fun c15 => ?_)
        · refine wp_iload_n (pc := 94) dX12_square_94 rfl ?_
          exact J13 _ (by simp only [eq_true c15, if_true, if_false, decide_true, decide_false, Bool.not_true, Bool.not_false, Bool.true_and, Bool.false_and, Bool.true_or, Bool.false_or, b2i_t, b2i_f, ite_true, ite_false, not_true_eq_false, not_false_eq_true, reduceCtorEq, decide_eq_true_eq])
        · refine wp_iload (pc := 89) dX12_square_89 rfl ?_
          refine wp_goto (tgt := 95) (pc := 91) dX12_square_91 (by decide) ?_
          exact J13 _ (by simp only [c15, if_true, if_false, decide_true, decide_false, Bool.not_true, Bool.not_false, Bool.true_and, Bool.false_and, Bool.true_or, Bool.false_or, b2i_t, b2i_f, ite_true, ite_false, not_true_eq_false, not_false_eq_true, reduceCtorEq, decide_eq_true_eq])
    intro v14 ev14
    subst ev14
    refine wp_istore_n (pc := 95) dX12_square_95 (Nat.le_of_ble_eq_true rfl) rfl ?_
    show wp l M_X12_square (d + 1) 0 0 _ [some (.ref h), none, some (.int x2), some (.int (if x6 ≤ x4 then x3 else x5)), some (.int x4), some (.int x5), some (.int x6), some (.int x7)] _ 0 0 kd _ _ mr _
    refine wp_iload (pc := 96) dX12_square_96 rfl ?_
    refine wp_iload (pc := 98) dX12_square_98 rfl ?_
    refine csI [.int x4, .int x6] [] (pc := 100) dX12_square_100 ml_X12_180 st_X12_greater rfl rfl (Nat.le_of_ble_eq_true rfl) (Nat.le_of_ble_eq_true rfl) (wI.mono (fun r16 mi17 ml18 F => ?_) F)
    refine wp_istore (pc := 103) dX12_square_103 (Nat.le_of_ble_eq_true rfl) rfl ?_
    show wp l M_X12_square (d + 1) 0 0 _ [some (.ref h), none, some (.int x2), some (.int (if x6 ≤ x4 then x3 else x5)), some (.int r16), some (.int x5), some (.int x6), some (.int x7)] _ 0 0 kd _ _ mr _
    refine wp_iinc (v := (x5 + 1)) (pc := 105) dX12_square_105 rfl rfl rfl ?_
    show wp l M_X12_square (d + 1) 0 0 _ [some (.ref h), none, some (.int x2), some (.int (if x6 ≤ x4 then x3 else x5)), some (.int r16), some (.int (x5 + 1)), some (.int x6), some (.int x7)] _ 0 0 kd _ _ mr _
    refine wp_goto (tgt := 27) (pc := 108) dX12_square_108 (by decide) ?_
    exact wp_less (L' := [some (.ref h), none, some (.int x2), some (.int (if x6 ≤ x4 then x3 else x5)), some (.int r16), some (.int (x5 + 1)), none, none]) ⟨rfl, ⟨rfl, ⟨rfl, ⟨rfl, ⟨rfl, trivial⟩⟩⟩⟩⟩ F
  · have F := F.2 c12
    refine wp_iload (pc := 51) dX12_square_51 rfl ?_
    refine wp_aload_n (pc := 53) dX12_square_53 rfl ?_
    refine wp_getR (pc := 54) dX12_square_54 fl_X12_59 rfl (TX12s_k th) (TX12s_r39 th) ?_
    refine wp_iload (pc := 57) dX12_square_57 rfl ?_
    refine wp_lald (pc := 59) dX12_square_59 (TX12s_a39 th) F.1 ?_
    have F := F.2
    refine wp_iload (pc := 60) dX12_square_60 rfl ?_
    refine csB [.long (ml (h + 17) (Int32.toNatClampNeg x7)), .int x5] [.int x6] (pc := 62) dX12_square_62 ml_X12_462 st_X12_isIn rfl rfl (Nat.le_of_ble_eq_true rfl) (Nat.le_of_ble_eq_true rfl) (wB.mono (fun r19 mi20 ml21 F => ?_) F)
    suffices J22 : ∀ v23 : Int32, v23 = (b2i (decide (r19 = true))) → wp l M_X12_square (d + 1) 0 0 73 [some (.ref h), none, some (.int x2), some (.int x3), some (.int x4), some (.int x5), some (.int x6), some (.int x7)] [.int v23, .int x6] 0 0 kd mi20 ml21 mr _ by
        refine b_eq (tgt := 72) (pc := 65) dX12_square_65 (by decide) (fun c24 => ?_) (fun c24 => ?_)
        · refine wp_iconst (v := 0) (pc := 72) dX12_square_72 (by decide) ?_
          exact J22 _ (by simp only [c24, if_true, if_false, decide_true, decide_false, Bool.not_true, Bool.not_false, Bool.true_and, Bool.false_and, Bool.true_or, Bool.false_or, b2i_t, b2i_f, ite_true, ite_false, not_true_eq_false, not_false_eq_true, reduceCtorEq, decide_eq_true_eq])
        · refine wp_iconst (v := 1) (pc := 68) dX12_square_68 (by decide) ?_
          refine wp_goto (tgt := 73) (pc := 69) dX12_square_69 (by decide) ?_
          exact J22 _ (by simp only [c24, if_true, if_false, decide_true, decide_false, Bool.not_true, Bool.not_false, Bool.true_and, Bool.false_and, Bool.true_or, Bool.false_or, b2i_t, b2i_f, ite_true, ite_false, not_true_eq_false, not_false_eq_true, reduceCtorEq, decide_eq_true_eq])
    intro v23 ev23
    subst ev23
    refine wp_iadd (pc := 73) dX12_square_73 ?_
    refine wp_istore (pc := 74) dX12_square_74 (Nat.le_of_ble_eq_true rfl) rfl ?_
    show wp l M_X12_square (d + 1) 0 0 _ [some (.ref h), none, some (.int x2), some (.int x3), some (.int x4), some (.int x5), some (.int (x6 + (b2i (decide (r19 = true))))), some (.int x7)] _ 0 0 kd _ _ mr _
    refine wp_iinc (v := (x7 + 1)) (pc := 76) dX12_square_76 rfl rfl rfl ?_
    show wp l M_X12_square (d + 1) 0 0 _ [some (.ref h), none, some (.int x2), some (.int x3), some (.int x4), some (.int x5), some (.int (x6 + (b2i (decide (r19 = true))))), some (.int (x7 + 1))] _ 0 0 kd _ _ mr _
    refine wp_goto (tgt := 42) (pc := 79) dX12_square_79 (by decide) ?_
    exact wp_less (L' := [some (.ref h), none, some (.int x2), some (.int x3), some (.int x4), some (.int x5), some (.int (x6 + (b2i (decide (r19 = true))))), some (.int (x7 + 1))]) ⟨rfl, ⟨rfl, ⟨rfl, ⟨rfl, ⟨rfl, ⟨rfl, ⟨rfl, trivial⟩⟩⟩⟩⟩⟩⟩ F
/-- square(IZ)I -/
theorem w_X12_square {l : Launch} {d : Nat} {kd : pm_K} {mr : pm_R} {h : Nat} {x1 : Int32} {x2 : Bool} {mi : pm_I} {ml : pm_L} {K : Int32 → pm_I → pm_L → Prop} (th : TX12s kd mr h)
    (F : wB l M_X12_hand d [.ref h, .int x1] kd mr (pm_up mi h 0 0) ml (fun r1 mi2 ml3 => ((r1 = true → wV l M_X12_findHeard d [.ref h] kd mr mi2 ml3 (fun mi6 ml7 => c_X12_square_27 l (d + 1) kd mr h (b2i x2) 0 (-1) 0 mi6 ml7 K)) ∧ (r1 = false → K (-1) mi2 ml3)))) :
    wI l M_X12_square (d + 1) [.ref h, .int x1, .int (b2i x2)] kd mr mi ml K := by
  show wp l M_X12_square (d + 1) 0 0 0 [some (.ref h), some (.int x1), some (.int (b2i x2)), none, none, none, none, none] [] 0 0 kd mi ml mr _
  refine wp_aload_n (pc := 0) dX12_square_0 rfl ?_
  refine wp_iconst (v := 0) (pc := 1) dX12_square_1 (by decide) ?_
  refine wp_putI (pc := 2) dX12_square_2 fl_X12_107 rfl rfl (TX12s_k th) ?_
  refine wp_aload_n (pc := 5) dX12_square_5 rfl ?_
  refine wp_iload_n (pc := 6) dX12_square_6 rfl ?_
  refine cvB [.int x1] [] (pc := 7) dX12_square_7 ml_X12_346 iv_X12_hand (TX12s_k th) (cl_X12 rfl) rfl rfl (Nat.le_of_ble_eq_true rfl) (Nat.le_of_ble_eq_true rfl) (wB.mono (fun r1 mi2 ml3 F => ?_) F)
  refine b_ne (tgt := 15) (pc := 10) dX12_square_10 (by decide) (fun c4 => ?_) (fun c4 => ?_)
  · have F := F.1 c4
    refine wp_aload_n (pc := 15) dX12_square_15 rfl ?_
    refine cvV [] [] (pc := 16) dX12_square_16 ml_X12_432 iv_X12_findHeard (TX12s_k th) (cl_X12 rfl) rfl rfl (Nat.le_of_ble_eq_true rfl) (Nat.le_of_ble_eq_true rfl) (wV.mono (fun mi6 ml7 F => ?_) F)
    refine wp_iconst (v := 0) (pc := 19) dX12_square_19 (by decide) ?_
    refine wp_istore_n (pc := 20) dX12_square_20 (Nat.le_of_ble_eq_true rfl) rfl ?_
    show wp l M_X12_square (d + 1) 0 0 _ [some (.ref h), some (.int x1), some (.int (b2i x2)), some (.int 0), none, none, none, none] _ 0 0 kd _ _ mr _
    refine wp_iconst (v := -1) (pc := 21) dX12_square_21 (by decide) ?_
    refine wp_istore (pc := 22) dX12_square_22 (Nat.le_of_ble_eq_true rfl) rfl ?_
    show wp l M_X12_square (d + 1) 0 0 _ [some (.ref h), some (.int x1), some (.int (b2i x2)), some (.int 0), some (.int (-1)), none, none, none] _ 0 0 kd _ _ mr _
    refine wp_iconst (v := 0) (pc := 24) dX12_square_24 (by decide) ?_
    refine wp_istore (pc := 25) dX12_square_25 (Nat.le_of_ble_eq_true rfl) rfl ?_
    show wp l M_X12_square (d + 1) 0 0 _ [some (.ref h), some (.int x1), some (.int (b2i x2)), some (.int 0), some (.int (-1)), some (.int 0), none, none] _ 0 0 kd _ _ mr _
    exact wp_less (L' := [some (.ref h), none, some (.int (b2i x2)), some (.int 0), some (.int (-1)), some (.int 0), none, none]) ⟨rfl, ⟨rfl, ⟨rfl, ⟨rfl, ⟨rfl, trivial⟩⟩⟩⟩⟩ F
  · have F := F.2 c4
    refine wp_iconst (v := -1) (pc := 13) dX12_square_13 (by decide) ?_
    exact r_I (pc := 14) dX12_square_14 rfl F
def c_X12_silent_23 (l : Launch) (d : Nat) (kd : pm_K) (mr : pm_R) (h : Nat) (x2 : Int32) (x3 : Int32) (mi : pm_I) (ml : pm_L) (K : Int32 → pm_I → pm_L → Prop) : Prop := wp l M_X12_silent d 0 0 23 [some (.ref h), none, some (.int x2), some (.int x3)] [] 0 0 kd mi ml mr (qI kd mr K)
theorem w_X12_silent_23 {l : Launch} {d : Nat} {kd : pm_K} {mr : pm_R} {h : Nat} {x2 : Int32} {x3 : Int32} {mi : pm_I} {ml : pm_L} {K : Int32 → pm_I → pm_L → Prop} (th : TX12s kd mr h)
    (F : (((mi h 29) ≤ x3 → K x2 mi ml) ∧ (¬ (mi h 29) ≤ x3 → wI l M_X12_everybody d [.ref h] kd mr mi ml (fun r9 mi10 ml11 => wL l M_X12_heardBy d [.ref h, .int r9] kd mr mi10 ml11 (fun r12 mi13 ml14 => wI l M_X12_cellOf d [.ref h, .int 27, .int x3] kd mr mi13 ml14 (fun r15 mi16 ml17 => wB l M_X12_isIn d [.long r12, .int r15] kd mr mi16 ml17 (fun r18 mi19 ml20 => c_X12_silent_23 l (d + 1) kd mr h (x2 ||| (if r18 = true then (0 : Int32) else ((1 : Int32) <<< (x3 &&& 31)))) (x3 + 1) mi19 ml20 K))))))) :
    c_X12_silent_23 l (d + 1) kd mr h x2 x3 mi ml K := by
  show wp l M_X12_silent (d + 1) 0 0 23 [some (.ref h), none, some (.int x2), some (.int x3)] [] 0 0 kd mi ml mr _
  refine wp_iload_n (pc := 23) dX12_silent_23 rfl ?_
  refine wp_aload_n (pc := 24) dX12_silent_24 rfl ?_
  refine wp_getI (pc := 25) dX12_silent_25 fl_X12_337 rfl (TX12s_k th) ?_
  refine wp_icmp_ge (tgt := 68) (pc := 28) dX12_silent_28 (by decide) (fun c8 => ?_) (fun c8 => ?_)
  · have F := F.1 c8
    refine wp_iload_n (pc := 68) dX12_silent_68 rfl ?_
    exact r_I (pc := 69) dX12_silent_69 rfl F
  · have F := F.2 c8
    refine wp_iload_n (pc := 31) dX12_silent_31 rfl ?_
    refine wp_aload_n (pc := 32) dX12_silent_32 rfl ?_
    refine wp_aload_n (pc := 33) dX12_silent_33 rfl ?_
    refine cvI [] [.ref h, .int x2] (pc := 34) dX12_silent_34 ml_X12_435 iv_X12_everybody (TX12s_k th) (cl_X12 rfl) rfl rfl (Nat.le_of_ble_eq_true rfl) (Nat.le_of_ble_eq_true rfl) (wI.mono (fun r9 mi10 ml11 F => ?_) F)
    refine cvL [.int r9] [.int x2] (pc := 37) dX12_silent_37 ml_X12_438 iv_X12_heardBy (TX12s_k th) (cl_X12 rfl) rfl rfl (Nat.le_of_ble_eq_true rfl) (Nat.le_of_ble_eq_true rfl) (wL.mono (fun r12 mi13 ml14 F => ?_) F)
    refine wp_aload_n (pc := 40) dX12_silent_40 rfl ?_
    refine wp_bipush (v := 27) (pc := 41) dX12_silent_41 (by decide) ?_
    refine wp_iload_n (pc := 43) dX12_silent_43 rfl ?_
    refine cvI [.int 27, .int x3] [.long r12, .int x2] (pc := 44) dX12_silent_44 ml_X12_352 iv_X12_cellOf (TX12s_k th) (cl_X12 rfl) rfl rfl (Nat.le_of_ble_eq_true rfl) (Nat.le_of_ble_eq_true rfl) (wI.mono (fun r15 mi16 ml17 F => ?_) F)
    refine csB [.long r12, .int r15] [.int x2] (pc := 47) dX12_silent_47 ml_X12_462 st_X12_isIn rfl rfl (Nat.le_of_ble_eq_true rfl) (Nat.le_of_ble_eq_true rfl) (wB.mono (fun r18 mi19 ml20 F => ?_) F)
    suffices J21 : ∀ v22 : Int32, v22 = (if r18 = true then (0 : Int32) else ((1 : Int32) <<< (x3 &&& 31))) → wp l M_X12_silent (d + 1) 0 0 60 [some (.ref h), none, some (.int x2), some (.int x3)] [.int v22, .int x2] 0 0 kd mi19 ml20 mr _ by
        refine b_eq (tgt := 57) (pc := 50) dX12_silent_50 (by decide) (fun c23 => ?_) (fun c23 => ?_)
        · refine wp_iconst (v := 1) (pc := 57) dX12_silent_57 (by decide) ?_
          refine wp_iload_n (pc := 58) dX12_silent_58 rfl ?_
          refine wp_ishl (pc := 59) dX12_silent_59 ?_
          exact J21 _ (by simp only [c23, if_true, if_false, decide_true, decide_false, Bool.not_true, Bool.not_false, Bool.true_and, Bool.false_and, Bool.true_or, Bool.false_or, b2i_t, b2i_f, ite_true, ite_false, not_true_eq_false, not_false_eq_true, reduceCtorEq, decide_eq_true_eq])
        · refine wp_iconst (v := 0) (pc := 53) dX12_silent_53 (by decide) ?_
          refine wp_goto (tgt := 60) (pc := 54) dX12_silent_54 (by decide) ?_
          exact J21 _ (by simp only [c23, if_true, if_false, decide_true, decide_false, Bool.not_true, Bool.not_false, Bool.true_and, Bool.false_and, Bool.true_or, Bool.false_or, b2i_t, b2i_f, ite_true, ite_false, not_true_eq_false, not_false_eq_true, reduceCtorEq, decide_eq_true_eq])
    intro v22 ev22
    subst ev22
    refine wp_ior (pc := 60) dX12_silent_60 ?_
    refine wp_istore_n (pc := 61) dX12_silent_61 (Nat.le_of_ble_eq_true rfl) rfl ?_
    show wp l M_X12_silent (d + 1) 0 0 _ [some (.ref h), none, some (.int (x2 ||| (if r18 = true then (0 : Int32) else ((1 : Int32) <<< (x3 &&& 31))))), some (.int x3)] _ 0 0 kd _ _ mr _
    refine wp_iinc (v := (x3 + 1)) (pc := 62) dX12_silent_62 rfl rfl rfl ?_
    show wp l M_X12_silent (d + 1) 0 0 _ [some (.ref h), none, some (.int (x2 ||| (if r18 = true then (0 : Int32) else ((1 : Int32) <<< (x3 &&& 31))))), some (.int (x3 + 1))] _ 0 0 kd _ _ mr _
    refine wp_goto (tgt := 23) (pc := 65) dX12_silent_65 (by decide) ?_
    exact wp_less (L' := [some (.ref h), none, some (.int (x2 ||| (if r18 = true then (0 : Int32) else ((1 : Int32) <<< (x3 &&& 31))))), some (.int (x3 + 1))]) ⟨rfl, ⟨rfl, ⟨rfl, trivial⟩⟩⟩ F
/-- silent(I)I -/
theorem w_X12_silent {l : Launch} {d : Nat} {kd : pm_K} {mr : pm_R} {h : Nat} {x1 : Int32} {mi : pm_I} {ml : pm_L} {K : Int32 → pm_I → pm_L → Prop} (th : TX12s kd mr h)
    (F : wB l M_X12_hand d [.ref h, .int x1] kd mr (pm_up mi h 0 0) ml (fun r1 mi2 ml3 => ((r1 = true → wV l M_X12_findHeard d [.ref h] kd mr mi2 ml3 (fun mi6 ml7 => c_X12_silent_23 l (d + 1) kd mr h 0 0 mi6 ml7 K)) ∧ (r1 = false → K (-1) mi2 ml3)))) :
    wI l M_X12_silent (d + 1) [.ref h, .int x1] kd mr mi ml K := by
  show wp l M_X12_silent (d + 1) 0 0 0 [some (.ref h), some (.int x1), none, none] [] 0 0 kd mi ml mr _
  refine wp_aload_n (pc := 0) dX12_silent_0 rfl ?_
  refine wp_iconst (v := 0) (pc := 1) dX12_silent_1 (by decide) ?_
  refine wp_putI (pc := 2) dX12_silent_2 fl_X12_107 rfl rfl (TX12s_k th) ?_
  refine wp_aload_n (pc := 5) dX12_silent_5 rfl ?_
  refine wp_iload_n (pc := 6) dX12_silent_6 rfl ?_
  refine cvB [.int x1] [] (pc := 7) dX12_silent_7 ml_X12_346 iv_X12_hand (TX12s_k th) (cl_X12 rfl) rfl rfl (Nat.le_of_ble_eq_true rfl) (Nat.le_of_ble_eq_true rfl) (wB.mono (fun r1 mi2 ml3 F => ?_) F)
  refine b_ne (tgt := 15) (pc := 10) dX12_silent_10 (by decide) (fun c4 => ?_) (fun c4 => ?_)
  · have F := F.1 c4
    refine wp_aload_n (pc := 15) dX12_silent_15 rfl ?_
    refine cvV [] [] (pc := 16) dX12_silent_16 ml_X12_432 iv_X12_findHeard (TX12s_k th) (cl_X12 rfl) rfl rfl (Nat.le_of_ble_eq_true rfl) (Nat.le_of_ble_eq_true rfl) (wV.mono (fun mi6 ml7 F => ?_) F)
    refine wp_iconst (v := 0) (pc := 19) dX12_silent_19 (by decide) ?_
    refine wp_istore_n (pc := 20) dX12_silent_20 (Nat.le_of_ble_eq_true rfl) rfl ?_
    show wp l M_X12_silent (d + 1) 0 0 _ [some (.ref h), some (.int x1), some (.int 0), none] _ 0 0 kd _ _ mr _
    refine wp_iconst (v := 0) (pc := 21) dX12_silent_21 (by decide) ?_
    refine wp_istore_n (pc := 22) dX12_silent_22 (Nat.le_of_ble_eq_true rfl) rfl ?_
    show wp l M_X12_silent (d + 1) 0 0 _ [some (.ref h), some (.int x1), some (.int 0), some (.int 0)] _ 0 0 kd _ _ mr _
    exact wp_less (L' := [some (.ref h), none, some (.int 0), some (.int 0)]) ⟨rfl, ⟨rfl, ⟨rfl, trivial⟩⟩⟩ F
  · have F := F.2 c4
    refine wp_iconst (v := -1) (pc := 13) dX12_silent_13 (by decide) ?_
    exact r_I (pc := 14) dX12_silent_14 rfl F
def c_X12_round_212 (l : Launch) (d : Nat) (kd : pm_K) (mr : pm_R) (h : Nat) (x3 : Int32) (x4 : Int32) (x6 : Int32) (s0 : Int32) (mi : pm_I) (ml : pm_L) (K : Int32 → pm_I → pm_L → Prop) : Prop := wp l M_X12_round d 0 0 212 [some (.ref h), none, none, some (.int x3), some (.int x4), none, some (.int x6)] [.int s0] 0 0 kd mi ml mr (qI kd mr K)
def c_X12_round_151 (l : Launch) (d : Nat) (kd : pm_K) (mr : pm_R) (h : Nat) (x3 : Int32) (x4 : Int32) (x5 : Int32) (x6 : Int32) (mi : pm_I) (ml : pm_L) (K : Int32 → pm_I → pm_L → Prop) : Prop := wp l M_X12_round d 0 0 151 [some (.ref h), none, none, some (.int x3), some (.int x4), some (.int x5), some (.int x6)] [] 0 0 kd mi ml mr (qI kd mr K)
def c_X12_round_126 (l : Launch) (d : Nat) (kd : pm_K) (mr : pm_R) (h : Nat) (x3 : Int32) (x4 : Int32) (mi : pm_I) (ml : pm_L) (K : Int32 → pm_I → pm_L → Prop) : Prop := wp l M_X12_round d 0 0 126 [some (.ref h), none, none, some (.int x3), some (.int x4), none, none] [] 0 0 kd mi ml mr (qI kd mr K)
def c_X12_round_113 (l : Launch) (d : Nat) (kd : pm_K) (mr : pm_R) (h : Nat) (x3 : Int32) (mi : pm_I) (ml : pm_L) (K : Int32 → pm_I → pm_L → Prop) : Prop := wp l M_X12_round d 0 0 113 [some (.ref h), none, none, some (.int x3), none, none, none] [] 0 0 kd mi ml mr (qI kd mr K)
def c_X12_round_65 (l : Launch) (d : Nat) (kd : pm_K) (mr : pm_R) (h : Nat) (x2 : Int32) (x3 : Int32) (x4 : Int32) (mi : pm_I) (ml : pm_L) (K : Int32 → pm_I → pm_L → Prop) : Prop := wp l M_X12_round d 0 0 65 [some (.ref h), none, some (.int x2), some (.int x3), some (.int x4), none, none] [] 0 0 kd mi ml mr (qI kd mr K)
def c_X12_round_59 (l : Launch) (d : Nat) (kd : pm_K) (mr : pm_R) (h : Nat) (x2 : Int32) (x3 : Int32) (s0 : Int32) (mi : pm_I) (ml : pm_L) (K : Int32 → pm_I → pm_L → Prop) : Prop := wp l M_X12_round d 0 0 59 [some (.ref h), none, some (.int x2), some (.int x3), none, none, none] [.int s0, .ref h] 0 0 kd mi ml mr (qI kd mr K)
def c_X12_round_25 (l : Launch) (d : Nat) (kd : pm_K) (mr : pm_R) (h : Nat) (x2 : Int32) (x3 : Int32) (mi : pm_I) (ml : pm_L) (K : Int32 → pm_I → pm_L → Prop) : Prop := wp l M_X12_round d 0 0 25 [some (.ref h), none, some (.int x2), some (.int x3), none, none, none] [] 0 0 kd mi ml mr (qI kd mr K)
theorem w_X12_round_25 {l : Launch} {d : Nat} {kd : pm_K} {mr : pm_R} {h : Nat} {x2 : Int32} {x3 : Int32} {mi : pm_I} {ml : pm_L} {K : Int32 → pm_I → pm_L → Prop} (th : TX12s kd mr h)
    (F : (((mi h 29) < x3 → c_X12_round_113 l (d + 1) kd mr h 0 mi ml K) ∧ (¬ (mi h 29) < x3 → (((mi h 29) ≤ x3 → wI l M_X12_cellOf d [.ref h, .int 9, .int x2] kd mr mi ml (fun r11 mi12 ml13 => c_X12_round_59 l (d + 1) kd mr h x2 x3 r11 mi12 ml13 K)) ∧ (¬ (mi h 29) ≤ x3 → wI l M_X12_cellOf d [.ref h, .int 27, .int x3] kd mr mi ml (fun r14 mi15 ml16 => c_X12_round_59 l (d + 1) kd mr h x2 x3 r14 mi15 ml16 K)))))) :
    c_X12_round_25 l (d + 1) kd mr h x2 x3 mi ml K := by
  show wp l M_X12_round (d + 1) 0 0 25 [some (.ref h), none, some (.int x2), some (.int x3), none, none, none] [] 0 0 kd mi ml mr _
  refine wp_iload_n (pc := 25) dX12_round_25 rfl ?_
  refine wp_aload_n (pc := 26) dX12_round_26 rfl ?_
  refine wp_getI (pc := 27) dX12_round_27 fl_X12_337 rfl (TX12s_k th) ?_
  refine wp_icmp_gt (tgt := 111) (pc := 30) dX12_round_30 (by decide) (fun c9 => ?_) (fun c9 => ?_)
  · have F := F.1 c9
    refine wp_iconst (v := 0) (pc := 111) dX12_round_111 (by decide) ?_
    refine wp_istore_n (pc := 112) dX12_round_112 (Nat.le_of_ble_eq_true rfl) rfl ?_
    show wp l M_X12_round (d + 1) 0 0 _ [some (.ref h), none, some (.int x2), some (.int 0), none, none, none] _ 0 0 kd _ _ mr _
    exact wp_less (L' := [some (.ref h), none, none, some (.int 0), none, none, none]) ⟨rfl, ⟨rfl, trivial⟩⟩ F
  · have F := F.2 c9
    refine wp_aload_n (pc := 33) dX12_round_33 rfl ?_
    refine wp_iload_n (pc := 34) dX12_round_34 rfl ?_
    refine wp_aload_n (pc := 35) dX12_round_35 rfl ?_
    refine wp_getI (pc := 36) dX12_round_36 fl_X12_337 rfl (TX12s_k th) ?_
    refine wp_icmp_ge (tgt := 52) (pc := 39) dX12_round_39 (by decide) (fun c10 => ?_) (fun c10 => ?_)
    · have F := F.1 c10
      refine wp_aload_n (pc := 52) dX12_round_52 rfl ?_
      refine wp_bipush (v := 9) (pc := 53) dX12_round_53 (by decide) ?_
      refine wp_iload_n (pc := 55) dX12_round_55 rfl ?_
      refine cvI [.int 9, .int x2] [.ref h] (pc := 56) dX12_round_56 ml_X12_352 iv_X12_cellOf (TX12s_k th) (cl_X12 rfl) rfl rfl (Nat.le_of_ble_eq_true rfl) (Nat.le_of_ble_eq_true rfl) (wI.mono (fun r11 mi12 ml13 F => ?_) F)
      exact wp_less (L' := [some (.ref h), none, some (.int x2), some (.int x3), none, none, none]) ⟨rfl, ⟨rfl, ⟨rfl, trivial⟩⟩⟩ F
    · have F := F.2 c10
      refine wp_aload_n (pc := 42) dX12_round_42 rfl ?_
      refine wp_bipush (v := 27) (pc := 43) dX12_round_43 (by decide) ?_
      refine wp_iload_n (pc := 45) dX12_round_45 rfl ?_
      refine cvI [.int 27, .int x3] [.ref h] (pc := 46) dX12_round_46 ml_X12_352 iv_X12_cellOf (TX12s_k th) (cl_X12 rfl) rfl rfl (Nat.le_of_ble_eq_true rfl) (Nat.le_of_ble_eq_true rfl) (wI.mono (fun r14 mi15 ml16 F => ?_) F)
      refine wp_goto (tgt := 59) (pc := 49) dX12_round_49 (by decide) ?_
      exact wp_less (L' := [some (.ref h), none, some (.int x2), some (.int x3), none, none, none]) ⟨rfl, ⟨rfl, ⟨rfl, trivial⟩⟩⟩ F
theorem w_X12_round_59 {l : Launch} {d : Nat} {kd : pm_K} {mr : pm_R} {h : Nat} {x2 : Int32} {x3 : Int32} {s0 : Int32} {mi : pm_I} {ml : pm_L} {K : Int32 → pm_I → pm_L → Prop} (th : TX12s kd mr h)
    (F : wV l M_X12_findSoon d [.ref h, .int s0] kd mr mi ml (fun mi18 ml19 => c_X12_round_65 l (d + 1) kd mr h x2 x3 0 mi18 ml19 K)) :
    c_X12_round_59 l (d + 1) kd mr h x2 x3 s0 mi ml K := by
  show wp l M_X12_round (d + 1) 0 0 59 [some (.ref h), none, some (.int x2), some (.int x3), none, none, none] [.int s0, .ref h] 0 0 kd mi ml mr _
  refine cvV [.int s0] [] (pc := 59) dX12_round_59 ml_X12_579 iv_X12_findSoon (TX12s_k th) (cl_X12 rfl) rfl rfl (Nat.le_of_ble_eq_true rfl) (Nat.le_of_ble_eq_true rfl) (wV.mono (fun mi18 ml19 F => ?_) F)
  refine wp_iconst (v := 0) (pc := 62) dX12_round_62 (by decide) ?_
  refine wp_istore (pc := 63) dX12_round_63 (Nat.le_of_ble_eq_true rfl) rfl ?_
  show wp l M_X12_round (d + 1) 0 0 _ [some (.ref h), none, some (.int x2), some (.int x3), some (.int 0), none, none] _ 0 0 kd _ _ mr _
  exact wp_less (L' := [some (.ref h), none, some (.int x2), some (.int x3), some (.int 0), none, none]) ⟨rfl, ⟨rfl, ⟨rfl, ⟨rfl, trivial⟩⟩⟩⟩ F
theorem w_X12_round_65 {l : Launch} {d : Nat} {kd : pm_K} {mr : pm_R} {h : Nat} {x2 : Int32} {x3 : Int32} {x4 : Int32} {mi : pm_I} {ml : pm_L} {K : Int32 → pm_I → pm_L → Prop} (th : TX12s kd mr h)
    (F : (((mi h 29) ≤ x4 → c_X12_round_25 l (d + 1) kd mr h x2 (x3 + 1) mi ml K) ∧ (¬ (mi h 29) ≤ x4 → wI l M_X12_cellOf d [.ref h, .int 27, .int x4] kd mr mi ml (fun r21 mi22 ml23 => vp_in r21 64 ∧ vp_in ((7 * x3) + x4) 49 ∧ c_X12_round_65 l (d + 1) kd mr h x2 x3 (x4 + 1) (pm_up mi22 (h + 29) (Int32.toNatClampNeg ((7 * x3) + x4)) (mi22 (h + 23) (Int32.toNatClampNeg r21))) ml23 K)))) :
    c_X12_round_65 l (d + 1) kd mr h x2 x3 x4 mi ml K := by
  show wp l M_X12_round (d + 1) 0 0 65 [some (.ref h), none, some (.int x2), some (.int x3), some (.int x4), none, none] [] 0 0 kd mi ml mr _
  refine wp_iload (pc := 65) dX12_round_65 rfl ?_
  refine wp_aload_n (pc := 67) dX12_round_67 rfl ?_
  refine wp_getI (pc := 68) dX12_round_68 fl_X12_337 rfl (TX12s_k th) ?_
  refine wp_icmp_ge (tgt := 105) (pc := 71) dX12_round_71 (by decide) (fun c20 => ?_) (fun c20 => ?_)
  · have F := F.1 c20
    refine wp_iinc (v := (x3 + 1)) (pc := 105) dX12_round_105 rfl rfl rfl ?_
    show wp l M_X12_round (d + 1) 0 0 _ [some (.ref h), none, some (.int x2), some (.int (x3 + 1)), some (.int x4), none, none] _ 0 0 kd _ _ mr _
    refine wp_goto (tgt := 25) (pc := 108) dX12_round_108 (by decide) ?_
    exact wp_less (L' := [some (.ref h), none, some (.int x2), some (.int (x3 + 1)), none, none, none]) ⟨rfl, ⟨rfl, ⟨rfl, trivial⟩⟩⟩ F
  · have F := F.2 c20
    refine wp_aload_n (pc := 74) dX12_round_74 rfl ?_
    refine wp_getR (pc := 75) dX12_round_75 fl_X12_98 rfl (TX12s_k th) (TX12s_r58 th) ?_
    refine wp_bipush (v := 7) (pc := 78) dX12_round_78 (by decide) ?_
    refine wp_iload_n (pc := 80) dX12_round_80 rfl ?_
    refine wp_imul (pc := 81) dX12_round_81 ?_
    refine wp_iload (pc := 82) dX12_round_82 rfl ?_
    refine wp_iadd (pc := 84) dX12_round_84 ?_
    refine wp_aload_n (pc := 85) dX12_round_85 rfl ?_
    refine wp_getR (pc := 86) dX12_round_86 fl_X12_79 rfl (TX12s_k th) (TX12s_r51 th) ?_
    refine wp_aload_n (pc := 89) dX12_round_89 rfl ?_
    refine wp_bipush (v := 27) (pc := 90) dX12_round_90 (by decide) ?_
    refine wp_iload (pc := 92) dX12_round_92 rfl ?_
    refine cvI [.int 27, .int x4] [.ref (h + 23), .int ((7 * x3) + x4), .ref (h + 29)] (pc := 94) dX12_round_94 ml_X12_352 iv_X12_cellOf (TX12s_k th) (cl_X12 rfl) rfl rfl (Nat.le_of_ble_eq_true rfl) (Nat.le_of_ble_eq_true rfl) (wI.mono (fun r21 mi22 ml23 F => ?_) F)
    refine wp_iald (pc := 97) dX12_round_97 (TX12s_a51 th) F.1 ?_
    have F := F.2
    refine wp_iast (pc := 98) dX12_round_98 (TX12s_a58 th) F.1 ?_
    have F := F.2
    refine wp_iinc (v := (x4 + 1)) (pc := 99) dX12_round_99 rfl rfl rfl ?_
    show wp l M_X12_round (d + 1) 0 0 _ [some (.ref h), none, some (.int x2), some (.int x3), some (.int (x4 + 1)), none, none] _ 0 0 kd _ _ mr _
    refine wp_goto (tgt := 65) (pc := 102) dX12_round_102 (by decide) ?_
    exact wp_less (L' := [some (.ref h), none, some (.int x2), some (.int x3), some (.int (x4 + 1)), none, none]) ⟨rfl, ⟨rfl, ⟨rfl, ⟨rfl, trivial⟩⟩⟩⟩ F
theorem w_X12_round_113 {l : Launch} {d : Nat} {kd : pm_K} {mr : pm_R} {h : Nat} {x3 : Int32} {mi : pm_I} {ml : pm_L} {K : Int32 → pm_I → pm_L → Prop} (th : TX12s kd mr h)
    (F : ((((1 : Int32) <<< ((mi h 29) &&& 31)) ≤ x3 → vp_in ((7 * (((1 : Int32) <<< ((mi h 29) &&& 31)) - 1)) + (mi h 29)) 448 ∧ (((mi (h + 30) (Int32.toNatClampNeg ((7 * (((1 : Int32) <<< ((mi h 29) &&& 31)) - 1)) + (mi h 29)))) < 1000000 → K (mi (h + 30) (Int32.toNatClampNeg ((7 * (((1 : Int32) <<< ((mi h 29) &&& 31)) - 1)) + (mi h 29)))) mi ml) ∧ (¬ (mi (h + 30) (Int32.toNatClampNeg ((7 * (((1 : Int32) <<< ((mi h 29) &&& 31)) - 1)) + (mi h 29)))) < 1000000 → K (-1) mi ml))) ∧ (¬ ((1 : Int32) <<< ((mi h 29) &&& 31)) ≤ x3 → c_X12_round_126 l (d + 1) kd mr h x3 0 mi ml K))) :
    c_X12_round_113 l (d + 1) kd mr h x3 mi ml K := by
  show wp l M_X12_round (d + 1) 0 0 113 [some (.ref h), none, none, some (.int x3), none, none, none] [] 0 0 kd mi ml mr _
  refine wp_iload_n (pc := 113) dX12_round_113 rfl ?_
  refine wp_iconst (v := 1) (pc := 114) dX12_round_114 (by decide) ?_
  refine wp_aload_n (pc := 115) dX12_round_115 rfl ?_
  refine wp_getI (pc := 116) dX12_round_116 fl_X12_337 rfl (TX12s_k th) ?_
  refine wp_ishl (pc := 119) dX12_round_119 ?_
  refine wp_icmp_ge (tgt := 246) (pc := 120) dX12_round_120 (by decide) (fun c24 => ?_) (fun c24 => ?_)
  · have F := F.1 c24
    refine wp_aload_n (pc := 246) dX12_round_246 rfl ?_
    refine wp_getR (pc := 247) dX12_round_247 fl_X12_101 rfl (TX12s_k th) (TX12s_r59 th) ?_
    refine wp_bipush (v := 7) (pc := 250) dX12_round_250 (by decide) ?_
    refine wp_iconst (v := 1) (pc := 252) dX12_round_252 (by decide) ?_
    refine wp_aload_n (pc := 253) dX12_round_253 rfl ?_
    refine wp_getI (pc := 254) dX12_round_254 fl_X12_337 rfl (TX12s_k th) ?_
    refine wp_ishl (pc := 257) dX12_round_257 ?_
    refine wp_iconst (v := 1) (pc := 258) dX12_round_258 (by decide) ?_
    refine wp_isub (pc := 259) dX12_round_259 ?_
    refine wp_imul (pc := 260) dX12_round_260 ?_
    refine wp_aload_n (pc := 261) dX12_round_261 rfl ?_
    refine wp_getI (pc := 262) dX12_round_262 fl_X12_337 rfl (TX12s_k th) ?_
    refine wp_iadd (pc := 265) dX12_round_265 ?_
    refine wp_iald (pc := 266) dX12_round_266 (TX12s_a59 th) F.1 ?_
    have F := F.2
    refine wp_istore_n (pc := 267) dX12_round_267 (Nat.le_of_ble_eq_true rfl) rfl ?_
    show wp l M_X12_round (d + 1) 0 0 _ [some (.ref h), none, none, some (.int (mi (h + 30) (Int32.toNatClampNeg ((7 * (((1 : Int32) <<< ((mi h 29) &&& 31)) - 1)) + (mi h 29))))), none, none, none] _ 0 0 kd _ _ mr _
    refine wp_iload_n (pc := 268) dX12_round_268 rfl ?_
    refine wp_ldcw (v := 1000000) (pc := 269) dX12_round_269 (tb_7 197 rfl rfl) ?_
    refine wp_icmp_lt (tgt := 279) (pc := 272) dX12_round_272 (by decide) (fun c25 => ?_) (fun c25 => ?_)
    · have F := F.1 c25
      refine wp_iload_n (pc := 279) dX12_round_279 rfl ?_
      exact r_I (pc := 280) dX12_round_280 rfl F
    · have F := F.2 c25
      refine wp_iconst (v := -1) (pc := 275) dX12_round_275 (by decide) ?_
      refine wp_goto (tgt := 280) (pc := 276) dX12_round_276 (by decide) ?_
      exact r_I (pc := 280) dX12_round_280 rfl F
  · have F := F.2 c24
    refine wp_iconst (v := 0) (pc := 123) dX12_round_123 (by decide) ?_
    refine wp_istore (pc := 124) dX12_round_124 (Nat.le_of_ble_eq_true rfl) rfl ?_
    show wp l M_X12_round (d + 1) 0 0 _ [some (.ref h), none, none, some (.int x3), some (.int 0), none, none] _ 0 0 kd _ _ mr _
    exact wp_less (L' := [some (.ref h), none, none, some (.int x3), some (.int 0), none, none]) ⟨rfl, ⟨rfl, ⟨rfl, trivial⟩⟩⟩ F
theorem w_X12_round_126 {l : Launch} {d : Nat} {kd : pm_K} {mr : pm_R} {h : Nat} {x3 : Int32} {x4 : Int32} {mi : pm_I} {ml : pm_L} {K : Int32 → pm_I → pm_L → Prop} (th : TX12s kd mr h)
    (F : (((mi h 29) < x4 → c_X12_round_113 l (d + 1) kd mr h (x3 + 1) mi ml K) ∧ (¬ (mi h 29) < x4 → c_X12_round_151 l (d + 1) kd mr h x3 x4 (if x3 = 0 then (0 : Int32) else (1000000 : Int32)) 0 mi ml K))) :
    c_X12_round_126 l (d + 1) kd mr h x3 x4 mi ml K := by
  show wp l M_X12_round (d + 1) 0 0 126 [some (.ref h), none, none, some (.int x3), some (.int x4), none, none] [] 0 0 kd mi ml mr _
  refine wp_iload (pc := 126) dX12_round_126 rfl ?_
  refine wp_aload_n (pc := 128) dX12_round_128 rfl ?_
  refine wp_getI (pc := 129) dX12_round_129 fl_X12_337 rfl (TX12s_k th) ?_
  refine wp_icmp_gt (tgt := 240) (pc := 132) dX12_round_132 (by decide) (fun c26 => ?_) (fun c26 => ?_)
  · have F := F.1 c26
    refine wp_iinc (v := (x3 + 1)) (pc := 240) dX12_round_240 rfl rfl rfl ?_
    show wp l M_X12_round (d + 1) 0 0 _ [some (.ref h), none, none, some (.int (x3 + 1)), some (.int x4), none, none] _ 0 0 kd _ _ mr _
    refine wp_goto (tgt := 113) (pc := 243) dX12_round_243 (by decide) ?_
    exact wp_less (L' := [some (.ref h), none, none, some (.int (x3 + 1)), none, none, none]) ⟨rfl, ⟨rfl, trivial⟩⟩ F
  · have F := F.2 c26
    refine wp_iload_n (pc := 135) dX12_round_135 rfl ?_
    suffices J27 : ∀ v28 : Int32, v28 = (if x3 = 0 then (0 : Int32) else (1000000 : Int32)) → wp l M_X12_round (d + 1) 0 0 146 [some (.ref h), none, none, some (.int x3), some (.int x4), none, none] [.int v28] 0 0 kd mi ml mr _ by
        refine wp_if_ne (tgt := 143) (pc := 136) dX12_round_136 (by decide) (fun c29 => ?_) (fun c29 => ?_)
        · refine wp_ldcw (v := 1000000) (pc := 143) dX12_round_143 (tb_7 197 rfl rfl) ?_
          exact J27 _ (by simp only [c29, if_true, if_false, decide_true, decide_false, Bool.not_true, Bool.not_false, Bool.true_and, Bool.false_and, Bool.true_or, Bool.false_or, b2i_t, b2i_f, ite_true, ite_false, not_true_eq_false, not_false_eq_true, reduceCtorEq, decide_eq_true_eq])
        · refine wp_iconst (v := 0) (pc := 139) dX12_round_139 (by decide) ?_
          refine wp_goto (tgt := 146) (pc := 140) dX12_round_140 (by decide) ?_
          exact J27 _ (by simp only [eq_true c29, if_true, if_false, decide_true, decide_false, Bool.not_true, Bool.not_false, Bool.true_and, Bool.false_and, Bool.true_or, Bool.false_or, b2i_t, b2i_f, ite_true, ite_false, not_true_eq_false, not_false_eq_true, reduceCtorEq, decide_eq_true_eq])
    intro v28 ev28
    subst ev28
    refine wp_istore (pc := 146) dX12_round_146 (Nat.le_of_ble_eq_true rfl) rfl ?_
    show wp l M_X12_round (d + 1) 0 0 _ [some (.ref h), none, none, some (.int x3), some (.int x4), some (.int (if x3 = 0 then (0 : Int32) else (1000000 : Int32))), none] _ 0 0 kd _ _ mr _
    refine wp_iconst (v := 0) (pc := 148) dX12_round_148 (by decide) ?_
    refine wp_istore (pc := 149) dX12_round_149 (Nat.le_of_ble_eq_true rfl) rfl ?_
    show wp l M_X12_round (d + 1) 0 0 _ [some (.ref h), none, none, some (.int x3), some (.int x4), some (.int (if x3 = 0 then (0 : Int32) else (1000000 : Int32))), some (.int 0)] _ 0 0 kd _ _ mr _
    exact wp_less (L' := [some (.ref h), none, none, some (.int x3), some (.int x4), some (.int (if x3 = 0 then (0 : Int32) else (1000000 : Int32))), some (.int 0)]) ⟨rfl, ⟨rfl, ⟨rfl, ⟨rfl, ⟨rfl, trivial⟩⟩⟩⟩⟩ F
theorem w_X12_round_151 {l : Launch} {d : Nat} {kd : pm_K} {mr : pm_R} {h : Nat} {x3 : Int32} {x4 : Int32} {x5 : Int32} {x6 : Int32} {mi : pm_I} {ml : pm_L} {K : Int32 → pm_I → pm_L → Prop} (th : TX12s kd mr h)
    (F : (((mi h 29) ≤ x6 → vp_in ((7 * x3) + x4) 448 ∧ c_X12_round_126 l (d + 1) kd mr h x3 (x4 + 1) (pm_up mi (h + 30) (Int32.toNatClampNeg ((7 * x3) + x4)) x5) ml K) ∧ (¬ (mi h 29) ≤ x6 → wB l M_X12_has d [.int x3, .int x6] kd mr mi ml (fun r31 mi32 ml33 => ((r31 = false → c_X12_round_212 l (d + 1) kd mr h x3 x4 x6 x5 mi32 ml33 K) ∧ (r31 = true → vp_in ((7 * x4) + x6) 49 ∧ vp_in ((7 * (x3 &&& (((1 : Int32) <<< (x6 &&& 31)) ^^^ (-1)))) + x6) 448 ∧ wI l M_X12_lesser d [.int x5, .int ((mi32 (h + 29) (Int32.toNatClampNeg ((7 * x4) + x6))) + (mi32 (h + 30) (Int32.toNatClampNeg ((7 * (x3 &&& (((1 : Int32) <<< (x6 &&& 31)) ^^^ (-1)))) + x6))))] kd mr mi32 ml33 (fun r35 mi36 ml37 => c_X12_round_212 l (d + 1) kd mr h x3 x4 x6 r35 mi36 ml37 K))))))) :
    c_X12_round_151 l (d + 1) kd mr h x3 x4 x5 x6 mi ml K := by
  show wp l M_X12_round (d + 1) 0 0 151 [some (.ref h), none, none, some (.int x3), some (.int x4), some (.int x5), some (.int x6)] [] 0 0 kd mi ml mr _
  refine wp_iload (pc := 151) dX12_round_151 rfl ?_
  refine wp_aload_n (pc := 153) dX12_round_153 rfl ?_
  refine wp_getI (pc := 154) dX12_round_154 fl_X12_337 rfl (TX12s_k th) ?_
  refine wp_icmp_ge (tgt := 220) (pc := 157) dX12_round_157 (by decide) (fun c30 => ?_) (fun c30 => ?_)
  · have F := F.1 c30
    refine wp_aload_n (pc := 220) dX12_round_220 rfl ?_
    refine wp_getR (pc := 221) dX12_round_221 fl_X12_101 rfl (TX12s_k th) (TX12s_r59 th) ?_
    refine wp_bipush (v := 7) (pc := 224) dX12_round_224 (by decide) ?_
    refine wp_iload_n (pc := 226) dX12_round_226 rfl ?_
    refine wp_imul (pc := 227) dX12_round_227 ?_
    refine wp_iload (pc := 228) dX12_round_228 rfl ?_
    refine wp_iadd (pc := 230) dX12_round_230 ?_
    refine wp_iload (pc := 231) dX12_round_231 rfl ?_
    refine wp_iast (pc := 233) dX12_round_233 (TX12s_a59 th) F.1 ?_
    have F := F.2
    refine wp_iinc (v := (x4 + 1)) (pc := 234) dX12_round_234 rfl rfl rfl ?_
    show wp l M_X12_round (d + 1) 0 0 _ [some (.ref h), none, none, some (.int x3), some (.int (x4 + 1)), some (.int x5), some (.int x6)] _ 0 0 kd _ _ mr _
    refine wp_goto (tgt := 126) (pc := 237) dX12_round_237 (by decide) ?_
    exact wp_less (L' := [some (.ref h), none, none, some (.int x3), some (.int (x4 + 1)), none, none]) ⟨rfl, ⟨rfl, ⟨rfl, trivial⟩⟩⟩ F
  · have F := F.2 c30
    refine wp_iload_n (pc := 160) dX12_round_160 rfl ?_
    refine wp_iload (pc := 161) dX12_round_161 rfl ?_
    refine csB [.int x3, .int x6] [] (pc := 163) dX12_round_163 ml_X12_111 st_X12_has rfl rfl (Nat.le_of_ble_eq_true rfl) (Nat.le_of_ble_eq_true rfl) (wB.mono (fun r31 mi32 ml33 F => ?_) F)
    refine b_eq (tgt := 210) (pc := 166) dX12_round_166 (by decide) (fun c34 => ?_) (fun c34 => ?_)
    · have F := F.1 c34
      refine wp_iload (pc := 210) dX12_round_210 rfl ?_
      exact wp_less (L' := [some (.ref h), none, none, some (.int x3), some (.int x4), none, some (.int x6)]) ⟨rfl, ⟨rfl, ⟨rfl, ⟨rfl, trivial⟩⟩⟩⟩ F
    · have F := F.2 c34
      refine wp_iload (pc := 169) dX12_round_169 rfl ?_
      refine wp_aload_n (pc := 171) dX12_round_171 rfl ?_
      refine wp_getR (pc := 172) dX12_round_172 fl_X12_98 rfl (TX12s_k th) (TX12s_r58 th) ?_
      refine wp_bipush (v := 7) (pc := 175) dX12_round_175 (by decide) ?_
      refine wp_iload (pc := 177) dX12_round_177 rfl ?_
      refine wp_imul (pc := 179) dX12_round_179 ?_
      refine wp_iload (pc := 180) dX12_round_180 rfl ?_
      refine wp_iadd (pc := 182) dX12_round_182 ?_
      refine wp_iald (pc := 183) dX12_round_183 (TX12s_a58 th) F.1 ?_
      have F := F.2
      refine wp_aload_n (pc := 184) dX12_round_184 rfl ?_
      refine wp_getR (pc := 185) dX12_round_185 fl_X12_101 rfl (TX12s_k th) (TX12s_r59 th) ?_
      refine wp_bipush (v := 7) (pc := 188) dX12_round_188 (by decide) ?_
      refine wp_iload_n (pc := 190) dX12_round_190 rfl ?_
      refine wp_iconst (v := 1) (pc := 191) dX12_round_191 (by decide) ?_
      refine wp_iload (pc := 192) dX12_round_192 rfl ?_
      refine wp_ishl (pc := 194) dX12_round_194 ?_
      refine wp_iconst (v := -1) (pc := 195) dX12_round_195 (by decide) ?_
      refine wp_ixor (pc := 196) dX12_round_196 ?_
      refine wp_iand (pc := 197) dX12_round_197 ?_
      refine wp_imul (pc := 198) dX12_round_198 ?_
      refine wp_iload (pc := 199) dX12_round_199 rfl ?_
      refine wp_iadd (pc := 201) dX12_round_201 ?_
      refine wp_iald (pc := 202) dX12_round_202 (TX12s_a59 th) F.1 ?_
      have F := F.2
      refine wp_iadd (pc := 203) dX12_round_203 ?_
      refine csI [.int x5, .int ((mi32 (h + 29) (Int32.toNatClampNeg ((7 * x4) + x6))) + (mi32 (h + 30) (Int32.toNatClampNeg ((7 * (x3 &&& (((1 : Int32) <<< (x6 &&& 31)) ^^^ (-1)))) + x6))))] [] (pc := 204) dX12_round_204 ml_X12_476 st_X12_lesser rfl rfl (Nat.le_of_ble_eq_true rfl) (Nat.le_of_ble_eq_true rfl) (wI.mono (fun r35 mi36 ml37 F => ?_) F)
      refine wp_goto (tgt := 212) (pc := 207) dX12_round_207 (by decide) ?_
      exact wp_less (L' := [some (.ref h), none, none, some (.int x3), some (.int x4), none, some (.int x6)]) ⟨rfl, ⟨rfl, ⟨rfl, ⟨rfl, trivial⟩⟩⟩⟩ F
theorem w_X12_round_212 {l : Launch} {d : Nat} {kd : pm_K} {mr : pm_R} {h : Nat} {x3 : Int32} {x4 : Int32} {x6 : Int32} {s0 : Int32} {mi : pm_I} {ml : pm_L} {K : Int32 → pm_I → pm_L → Prop} (th : TX12s kd mr h)
    (F : c_X12_round_151 l (d + 1) kd mr h x3 x4 s0 (x6 + 1) mi ml K) :
    c_X12_round_212 l (d + 1) kd mr h x3 x4 x6 s0 mi ml K := by
  show wp l M_X12_round (d + 1) 0 0 212 [some (.ref h), none, none, some (.int x3), some (.int x4), none, some (.int x6)] [.int s0] 0 0 kd mi ml mr _
  refine wp_istore (pc := 212) dX12_round_212 (Nat.le_of_ble_eq_true rfl) rfl ?_
  show wp l M_X12_round (d + 1) 0 0 _ [some (.ref h), none, none, some (.int x3), some (.int x4), some (.int s0), some (.int x6)] _ 0 0 kd _ _ mr _
  refine wp_iinc (v := (x6 + 1)) (pc := 214) dX12_round_214 rfl rfl rfl ?_
  show wp l M_X12_round (d + 1) 0 0 _ [some (.ref h), none, none, some (.int x3), some (.int x4), some (.int s0), some (.int (x6 + 1))] _ 0 0 kd _ _ mr _
  refine wp_goto (tgt := 151) (pc := 217) dX12_round_217 (by decide) ?_
  exact wp_less (L' := [some (.ref h), none, none, some (.int x3), some (.int x4), some (.int s0), some (.int (x6 + 1))]) ⟨rfl, ⟨rfl, ⟨rfl, ⟨rfl, ⟨rfl, trivial⟩⟩⟩⟩⟩ F
/-- round(II)I -/
theorem w_X12_round {l : Launch} {d : Nat} {kd : pm_K} {mr : pm_R} {h : Nat} {x1 : Int32} {x2 : Int32} {mi : pm_I} {ml : pm_L} {K : Int32 → pm_I → pm_L → Prop} (th : TX12s kd mr h)
    (F : wB l M_X12_hand d [.ref h, .int x1] kd mr (pm_up mi h 0 0) ml (fun r1 mi2 ml3 => ((r1 = false → K (-1) mi2 ml3) ∧ (r1 = true → wB l M_X12_isPlayer d [.ref h, .int x2] kd mr mi2 ml3 (fun r5 mi6 ml7 => ((r5 = true → c_X12_round_25 l (d + 1) kd mr h x2 0 mi6 ml7 K) ∧ (r5 = false → K (-1) mi6 ml7))))))) :
    wI l M_X12_round (d + 1) [.ref h, .int x1, .int x2] kd mr mi ml K := by
  show wp l M_X12_round (d + 1) 0 0 0 [some (.ref h), some (.int x1), some (.int x2), none, none, none, none] [] 0 0 kd mi ml mr _
  refine wp_aload_n (pc := 0) dX12_round_0 rfl ?_
  refine wp_iconst (v := 0) (pc := 1) dX12_round_1 (by decide) ?_
  refine wp_putI (pc := 2) dX12_round_2 fl_X12_107 rfl rfl (TX12s_k th) ?_
  refine wp_aload_n (pc := 5) dX12_round_5 rfl ?_
  refine wp_iload_n (pc := 6) dX12_round_6 rfl ?_
  refine cvB [.int x1] [] (pc := 7) dX12_round_7 ml_X12_346 iv_X12_hand (TX12s_k th) (cl_X12 rfl) rfl rfl (Nat.le_of_ble_eq_true rfl) (Nat.le_of_ble_eq_true rfl) (wB.mono (fun r1 mi2 ml3 F => ?_) F)
  refine b_eq (tgt := 21) (pc := 10) dX12_round_10 (by decide) (fun c4 => ?_) (fun c4 => ?_)
  · have F := F.1 c4
    refine wp_iconst (v := -1) (pc := 21) dX12_round_21 (by decide) ?_
    exact r_I (pc := 22) dX12_round_22 rfl F
  · have F := F.2 c4
    refine wp_aload_n (pc := 13) dX12_round_13 rfl ?_
    refine wp_iload_n (pc := 14) dX12_round_14 rfl ?_
    refine cvB [.int x2] [] (pc := 15) dX12_round_15 ml_X12_349 iv_X12_isPlayer (TX12s_k th) (cl_X12 rfl) rfl rfl (Nat.le_of_ble_eq_true rfl) (Nat.le_of_ble_eq_true rfl) (wB.mono (fun r5 mi6 ml7 F => ?_) F)
    refine b_ne (tgt := 23) (pc := 18) dX12_round_18 (by decide) (fun c8 => ?_) (fun c8 => ?_)
    · have F := F.1 c8
      refine wp_iconst (v := 0) (pc := 23) dX12_round_23 (by decide) ?_
      refine wp_istore_n (pc := 24) dX12_round_24 (Nat.le_of_ble_eq_true rfl) rfl ?_
      show wp l M_X12_round (d + 1) 0 0 _ [some (.ref h), some (.int x1), some (.int x2), some (.int 0), none, none, none] _ 0 0 kd _ _ mr _
      exact wp_less (L' := [some (.ref h), none, some (.int x2), some (.int 0), none, none, none]) ⟨rfl, ⟨rfl, ⟨rfl, trivial⟩⟩⟩ F
    · have F := F.2 c8
      refine wp_iconst (v := -1) (pc := 21) dX12_round_21 (by decide) ?_
      exact r_I (pc := 22) dX12_round_22 rfl F
/-- count(I)I -/
theorem w_X12_count {l : Launch} {d : Nat} {kd : pm_K} {mr : pm_R} {h : Nat} {x1 : Int32} {mi : pm_I} {ml : pm_L} {K : Int32 → pm_I → pm_L → Prop} (th : TX12s kd mr h)
    (F : wB l M_X12_in d [.int x1, .int 0, .int 3] kd mr (pm_up mi h 0 0) ml (fun r1 mi2 ml3 => ((r1 = false → K (-2) mi2 ml3) ∧ (r1 = true → vp_in x1 16 ∧ K (mi2 (h + 5) (Int32.toNatClampNeg x1)) mi2 ml3)))) :
    wI l M_X12_count (d + 1) [.ref h, .int x1] kd mr mi ml K := by
  show wp l M_X12_count (d + 1) 0 0 0 [some (.ref h), some (.int x1)] [] 0 0 kd mi ml mr _
  refine wp_aload_n (pc := 0) dX12_count_0 rfl ?_
  refine wp_iconst (v := 0) (pc := 1) dX12_count_1 (by decide) ?_
  refine wp_putI (pc := 2) dX12_count_2 fl_X12_107 rfl rfl (TX12s_k th) ?_
  refine wp_iload_n (pc := 5) dX12_count_5 rfl ?_
  refine wp_iconst (v := 0) (pc := 6) dX12_count_6 (by decide) ?_
  refine wp_iconst (v := 3) (pc := 7) dX12_count_7 (by decide) ?_
  refine csB [.int x1, .int 0, .int 3] [] (pc := 8) dX12_count_8 ml_X12_119 st_X12_in rfl rfl (Nat.le_of_ble_eq_true rfl) (Nat.le_of_ble_eq_true rfl) (wB.mono (fun r1 mi2 ml3 F => ?_) F)
  refine b_eq (tgt := 23) (pc := 11) dX12_count_11 (by decide) (fun c4 => ?_) (fun c4 => ?_)
  · have F := F.1 c4
    refine wp_bipush (v := -2) (pc := 23) dX12_count_23 (by decide) ?_
    exact r_I (pc := 25) dX12_count_25 rfl F
  · have F := F.2 c4
    refine wp_aload_n (pc := 14) dX12_count_14 rfl ?_
    refine wp_getR (pc := 15) dX12_count_15 fl_X12_23 rfl (TX12s_k th) (TX12s_r5 th) ?_
    refine wp_iload_n (pc := 18) dX12_count_18 rfl ?_
    refine wp_iald (pc := 19) dX12_count_19 (TX12s_a5 th) F.1 ?_
    have F := F.2
    refine wp_goto (tgt := 25) (pc := 20) dX12_count_20 (by decide) ?_
    exact r_I (pc := 25) dX12_count_25 rfl F
/-- image(I)Z -/
theorem w_X12_image {l : Launch} {d : Nat} {kd : pm_K} {mr : pm_R} {h : Nat} {x1 : Int32} {mi : pm_I} {ml : pm_L} {K : Bool → pm_I → pm_L → Prop} (th : TX12s kd mr h)
    (F : wB l M_X12_in d [.int x1, .int 0, .int 2] kd mr (pm_up mi h 0 0) ml (fun r1 mi2 ml3 => ((r1 = true → wV l M_X12_copyAll d [.ref h, .int 0, .int (x1 + 1)] kd mr mi2 ml3 (fun mi6 ml7 => vp_in x1 3 ∧ K true (pm_up mi6 (h + 31) (Int32.toNatClampNeg x1) (1 &&& 1)) ml7)) ∧ (r1 = false → K false mi2 ml3)))) :
    wB l M_X12_image (d + 1) [.ref h, .int x1] kd mr mi ml K := by
  show wp l M_X12_image (d + 1) 0 0 0 [some (.ref h), some (.int x1)] [] 0 0 kd mi ml mr _
  refine wp_aload_n (pc := 0) dX12_image_0 rfl ?_
  refine wp_iconst (v := 0) (pc := 1) dX12_image_1 (by decide) ?_
  refine wp_putI (pc := 2) dX12_image_2 fl_X12_107 rfl rfl (TX12s_k th) ?_
  refine wp_iload_n (pc := 5) dX12_image_5 rfl ?_
  refine wp_iconst (v := 0) (pc := 6) dX12_image_6 (by decide) ?_
  refine wp_iconst (v := 2) (pc := 7) dX12_image_7 (by decide) ?_
  refine csB [.int x1, .int 0, .int 2] [] (pc := 8) dX12_image_8 ml_X12_119 st_X12_in rfl rfl (Nat.le_of_ble_eq_true rfl) (Nat.le_of_ble_eq_true rfl) (wB.mono (fun r1 mi2 ml3 F => ?_) F)
  refine b_ne (tgt := 16) (pc := 11) dX12_image_11 (by decide) (fun c4 => ?_) (fun c4 => ?_)
  · have F := F.1 c4
    refine wp_aload_n (pc := 16) dX12_image_16 rfl ?_
    refine wp_iconst (v := 0) (pc := 17) dX12_image_17 (by decide) ?_
    refine wp_iload_n (pc := 18) dX12_image_18 rfl ?_
    refine wp_iconst (v := 1) (pc := 19) dX12_image_19 (by decide) ?_
    refine wp_iadd (pc := 20) dX12_image_20 ?_
    refine cvV [.int 0, .int (x1 + 1)] [] (pc := 21) dX12_image_21 ml_X12_606 iv_X12_copyAll (TX12s_k th) (cl_X12 rfl) rfl rfl (Nat.le_of_ble_eq_true rfl) (Nat.le_of_ble_eq_true rfl) (wV.mono (fun mi6 ml7 F => ?_) F)
    refine wp_aload_n (pc := 24) dX12_image_24 rfl ?_
    refine wp_getR (pc := 25) dX12_image_25 fl_X12_104 rfl (TX12s_k th) (TX12s_r60 th) ?_
    refine wp_iload_n (pc := 28) dX12_image_28 rfl ?_
    refine wp_iconst (v := 1) (pc := 29) dX12_image_29 (by decide) ?_
    refine wp_zast (pc := 30) dX12_image_30 (TX12s_a60 th) F.1 ?_
    have F := F.2
    refine wp_iconst (v := 1) (pc := 31) dX12_image_31 (by decide) ?_
    exact r_Bx (pc := 32) dX12_image_32 rfl rfl F
  · have F := F.2 c4
    refine wp_iconst (v := 0) (pc := 14) dX12_image_14 (by decide) ?_
    exact r_Bx (pc := 15) dX12_image_15 rfl rfl F
def c_X12_copyAll_2 (l : Launch) (d : Nat) (kd : pm_K) (mr : pm_R) (h : Nat) (x1 : Int32) (x2 : Int32) (x3 : Int32) (mi : pm_I) (ml : pm_L) (K : pm_I → pm_L → Prop) : Prop := wp l M_X12_copyAll d 0 0 2 [some (.ref h), some (.int x1), some (.int x2), some (.int x3)] [] 0 0 kd mi ml mr (qV kd mr K)
theorem w_X12_copyAll_2 {l : Launch} {d : Nat} {kd : pm_K} {mr : pm_R} {h : Nat} {x1 : Int32} {x2 : Int32} {x3 : Int32} {mi : pm_I} {ml : pm_L} {K : pm_I → pm_L → Prop} (th : TX12s kd mr h)
    (F : ((600 ≤ x3 → wV l M_X12_copyRow d [.ref (h + 2), .int 1, .int x1, .int x2] kd mr mi ml (fun mi3 ml4 => wV l M_X12_copyRow d [.ref (h + 3), .int 1, .int x1, .int x2] kd mr mi3 ml4 (fun mi6 ml7 => wV l M_X12_copyRow d [.ref (h + 4), .int 1, .int x1, .int x2] kd mr mi6 ml7 (fun mi9 ml10 => wV l M_X12_copyRow d [.ref (h + 5), .int 4, .int x1, .int x2] kd mr mi9 ml10 (fun mi12 ml13 => wV l M_X12_copyRow d [.ref (h + 6), .int 106, .int x1, .int x2] kd mr mi12 ml13 (fun mi15 ml16 => wV l M_X12_copyRow d [.ref (h + 7), .int 242, .int x1, .int x2] kd mr mi15 ml16 (fun mi18 ml19 => wV l M_X12_copyRow d [.ref (h + 8), .int 78, .int x1, .int x2] kd mr mi18 ml19 (fun mi21 ml22 => wV l M_X12_copyRow d [.ref (h + 9), .int 62, .int x1, .int x2] kd mr mi21 ml22 (fun mi24 ml25 => K mi24 ml25))))))))) ∧ (¬ 600 ≤ x3 → vp_in ((600 * x1) + x3) 2400 ∧ vp_in ((600 * x2) + x3) 2400 ∧ c_X12_copyAll_2 l (d + 1) kd mr h x1 x2 (x3 + 1) (pm_up mi (h + 1) (Int32.toNatClampNeg ((600 * x2) + x3)) ((Int32.toInt8 (mi (h + 1) (Int32.toNatClampNeg ((600 * x1) + x3)))).toInt32)) ml K))) :
    c_X12_copyAll_2 l (d + 1) kd mr h x1 x2 x3 mi ml K := by
  show wp l M_X12_copyAll (d + 1) 0 0 2 [some (.ref h), some (.int x1), some (.int x2), some (.int x3)] [] 0 0 kd mi ml mr _
  refine wp_iload_n (pc := 2) dX12_copyAll_2 rfl ?_
  refine wp_sipush (v := 600) (pc := 3) dX12_copyAll_3 (by decide) ?_
  refine wp_icmp_ge (tgt := 39) (pc := 6) dX12_copyAll_6 (by decide) (fun c1 => ?_) (fun c1 => ?_)
  · have F := F.1 c1
    refine wp_aload_n (pc := 39) dX12_copyAll_39 rfl ?_
    refine wp_getR (pc := 40) dX12_copyAll_40 fl_X12_13 rfl (TX12s_k th) (TX12s_r2 th) ?_
    refine wp_iconst (v := 1) (pc := 43) dX12_copyAll_43 (by decide) ?_
    refine wp_iload_n (pc := 44) dX12_copyAll_44 rfl ?_
    refine wp_iload_n (pc := 45) dX12_copyAll_45 rfl ?_
    refine csV [.ref (h + 2), .int 1, .int x1, .int x2] [] (pc := 46) dX12_copyAll_46 ml_X12_115 st_X12_copyRow rfl rfl (Nat.le_of_ble_eq_true rfl) (Nat.le_of_ble_eq_true rfl) (wV.mono (fun mi3 ml4 F => ?_) F)
    refine wp_aload_n (pc := 49) dX12_copyAll_49 rfl ?_
    refine wp_getR (pc := 50) dX12_copyAll_50 fl_X12_17 rfl (TX12s_k th) (TX12s_r3 th) ?_
    refine wp_iconst (v := 1) (pc := 53) dX12_copyAll_53 (by decide) ?_
    refine wp_iload_n (pc := 54) dX12_copyAll_54 rfl ?_
    refine wp_iload_n (pc := 55) dX12_copyAll_55 rfl ?_
    refine csV [.ref (h + 3), .int 1, .int x1, .int x2] [] (pc := 56) dX12_copyAll_56 ml_X12_115 st_X12_copyRow rfl rfl (Nat.le_of_ble_eq_true rfl) (Nat.le_of_ble_eq_true rfl) (wV.mono (fun mi6 ml7 F => ?_) F)
    refine wp_aload_n (pc := 59) dX12_copyAll_59 rfl ?_
    refine wp_getR (pc := 60) dX12_copyAll_60 fl_X12_20 rfl (TX12s_k th) (TX12s_r4 th) ?_
    refine wp_iconst (v := 1) (pc := 63) dX12_copyAll_63 (by decide) ?_
    refine wp_iload_n (pc := 64) dX12_copyAll_64 rfl ?_
    refine wp_iload_n (pc := 65) dX12_copyAll_65 rfl ?_
    refine csV [.ref (h + 4), .int 1, .int x1, .int x2] [] (pc := 66) dX12_copyAll_66 ml_X12_115 st_X12_copyRow rfl rfl (Nat.le_of_ble_eq_true rfl) (Nat.le_of_ble_eq_true rfl) (wV.mono (fun mi9 ml10 F => ?_) F)
    refine wp_aload_n (pc := 69) dX12_copyAll_69 rfl ?_
    refine wp_getR (pc := 70) dX12_copyAll_70 fl_X12_23 rfl (TX12s_k th) (TX12s_r5 th) ?_
    refine wp_iconst (v := 4) (pc := 73) dX12_copyAll_73 (by decide) ?_
    refine wp_iload_n (pc := 74) dX12_copyAll_74 rfl ?_
    refine wp_iload_n (pc := 75) dX12_copyAll_75 rfl ?_
    refine csV [.ref (h + 5), .int 4, .int x1, .int x2] [] (pc := 76) dX12_copyAll_76 ml_X12_115 st_X12_copyRow rfl rfl (Nat.le_of_ble_eq_true rfl) (Nat.le_of_ble_eq_true rfl) (wV.mono (fun mi12 ml13 F => ?_) F)
    refine wp_aload_n (pc := 79) dX12_copyAll_79 rfl ?_
    refine wp_getR (pc := 80) dX12_copyAll_80 fl_X12_26 rfl (TX12s_k th) (TX12s_r6 th) ?_
    refine wp_bipush (v := 106) (pc := 83) dX12_copyAll_83 (by decide) ?_
    refine wp_iload_n (pc := 85) dX12_copyAll_85 rfl ?_
    refine wp_iload_n (pc := 86) dX12_copyAll_86 rfl ?_
    refine csV [.ref (h + 6), .int 106, .int x1, .int x2] [] (pc := 87) dX12_copyAll_87 ml_X12_115 st_X12_copyRow rfl rfl (Nat.le_of_ble_eq_true rfl) (Nat.le_of_ble_eq_true rfl) (wV.mono (fun mi15 ml16 F => ?_) F)
    refine wp_aload_n (pc := 90) dX12_copyAll_90 rfl ?_
    refine wp_getR (pc := 91) dX12_copyAll_91 fl_X12_29 rfl (TX12s_k th) (TX12s_r7 th) ?_
    refine wp_sipush (v := 242) (pc := 94) dX12_copyAll_94 (by decide) ?_
    refine wp_iload_n (pc := 97) dX12_copyAll_97 rfl ?_
    refine wp_iload_n (pc := 98) dX12_copyAll_98 rfl ?_
    refine csV [.ref (h + 7), .int 242, .int x1, .int x2] [] (pc := 99) dX12_copyAll_99 ml_X12_115 st_X12_copyRow rfl rfl (Nat.le_of_ble_eq_true rfl) (Nat.le_of_ble_eq_true rfl) (wV.mono (fun mi18 ml19 F => ?_) F)
    refine wp_aload_n (pc := 102) dX12_copyAll_102 rfl ?_
    refine wp_getR (pc := 103) dX12_copyAll_103 fl_X12_32 rfl (TX12s_k th) (TX12s_r8 th) ?_
    refine wp_bipush (v := 78) (pc := 106) dX12_copyAll_106 (by decide) ?_
    refine wp_iload_n (pc := 108) dX12_copyAll_108 rfl ?_
    refine wp_iload_n (pc := 109) dX12_copyAll_109 rfl ?_
    refine csV [.ref (h + 8), .int 78, .int x1, .int x2] [] (pc := 110) dX12_copyAll_110 ml_X12_115 st_X12_copyRow rfl rfl (Nat.le_of_ble_eq_true rfl) (Nat.le_of_ble_eq_true rfl) (wV.mono (fun mi21 ml22 F => ?_) F)
    refine wp_aload_n (pc := 113) dX12_copyAll_113 rfl ?_
    refine wp_getR (pc := 114) dX12_copyAll_114 fl_X12_35 rfl (TX12s_k th) (TX12s_r9 th) ?_
    refine wp_bipush (v := 62) (pc := 117) dX12_copyAll_117 (by decide) ?_
    refine wp_iload_n (pc := 119) dX12_copyAll_119 rfl ?_
    refine wp_iload_n (pc := 120) dX12_copyAll_120 rfl ?_
    refine csV [.ref (h + 9), .int 62, .int x1, .int x2] [] (pc := 121) dX12_copyAll_121 ml_X12_115 st_X12_copyRow rfl rfl (Nat.le_of_ble_eq_true rfl) (Nat.le_of_ble_eq_true rfl) (wV.mono (fun mi24 ml25 F => ?_) F)
    exact r_V (pc := 124) dX12_copyAll_124 rfl F
  · have F := F.2 c1
    refine wp_aload_n (pc := 9) dX12_copyAll_9 rfl ?_
    refine wp_getR (pc := 10) dX12_copyAll_10 fl_X12_7 rfl (TX12s_k th) (TX12s_r1 th) ?_
    refine wp_sipush (v := 600) (pc := 13) dX12_copyAll_13 (by decide) ?_
    refine wp_iload_n (pc := 16) dX12_copyAll_16 rfl ?_
    refine wp_imul (pc := 17) dX12_copyAll_17 ?_
    refine wp_iload_n (pc := 18) dX12_copyAll_18 rfl ?_
    refine wp_iadd (pc := 19) dX12_copyAll_19 ?_
    refine wp_aload_n (pc := 20) dX12_copyAll_20 rfl ?_
    refine wp_getR (pc := 21) dX12_copyAll_21 fl_X12_7 rfl (TX12s_k th) (TX12s_r1 th) ?_
    refine wp_sipush (v := 600) (pc := 24) dX12_copyAll_24 (by decide) ?_
    refine wp_iload_n (pc := 27) dX12_copyAll_27 rfl ?_
    refine wp_imul (pc := 28) dX12_copyAll_28 ?_
    refine wp_iload_n (pc := 29) dX12_copyAll_29 rfl ?_
    refine wp_iadd (pc := 30) dX12_copyAll_30 ?_
    refine wp_bald (pc := 31) dX12_copyAll_31 (TX12s_a1 th) F.1 ?_
    have F := F.2
    refine wp_bast (pc := 32) dX12_copyAll_32 (TX12s_a1 th) F.1 ?_
    have F := F.2
    refine wp_iinc (v := (x3 + 1)) (pc := 33) dX12_copyAll_33 rfl rfl rfl ?_
    show wp l M_X12_copyAll (d + 1) 0 0 _ [some (.ref h), some (.int x1), some (.int x2), some (.int (x3 + 1))] _ 0 0 kd _ _ mr _
    refine wp_goto (tgt := 2) (pc := 36) dX12_copyAll_36 (by decide) ?_
    exact wp_less (L' := [some (.ref h), some (.int x1), some (.int x2), some (.int (x3 + 1))]) ⟨rfl, ⟨rfl, ⟨rfl, ⟨rfl, trivial⟩⟩⟩⟩ F
/-- copyAll(II)V -/
theorem w_X12_copyAll {l : Launch} {d : Nat} {kd : pm_K} {mr : pm_R} {h : Nat} {x1 : Int32} {x2 : Int32} {mi : pm_I} {ml : pm_L} {K : pm_I → pm_L → Prop} (th : TX12s kd mr h)
    (F : c_X12_copyAll_2 l (d + 1) kd mr h x1 x2 0 mi ml K) :
    wV l M_X12_copyAll (d + 1) [.ref h, .int x1, .int x2] kd mr mi ml K := by
  show wp l M_X12_copyAll (d + 1) 0 0 0 [some (.ref h), some (.int x1), some (.int x2), none] [] 0 0 kd mi ml mr _
  refine wp_iconst (v := 0) (pc := 0) dX12_copyAll_0 (by decide) ?_
  refine wp_istore_n (pc := 1) dX12_copyAll_1 (Nat.le_of_ble_eq_true rfl) rfl ?_
  show wp l M_X12_copyAll (d + 1) 0 0 _ [some (.ref h), some (.int x1), some (.int x2), some (.int 0)] _ 0 0 kd _ _ mr _
  exact wp_less (L' := [some (.ref h), some (.int x1), some (.int x2), some (.int 0)]) ⟨rfl, ⟨rfl, ⟨rfl, ⟨rfl, trivial⟩⟩⟩⟩ F
def c_X12_copyRow_3 (l : Launch) (d : Nat) (kd : pm_K) (mr : pm_R) (a0 na0 : Nat) (x1 : Int32) (x2 : Int32) (x3 : Int32) (x4 : Int32) (mi : pm_I) (ml : pm_L) (K : pm_I → pm_L → Prop) : Prop := wp l M_X12_copyRow d 0 0 3 [some (.ref a0), some (.int x1), some (.int x2), some (.int x3), some (.int x4)] [] 0 0 kd mi ml mr (qV kd mr K)
theorem w_X12_copyRow_3 {l : Launch} {d : Nat} {kd : pm_K} {mr : pm_R} {a0 na0 : Nat} {x1 : Int32} {x2 : Int32} {x3 : Int32} {x4 : Int32} {mi : pm_I} {ml : pm_L} {K : pm_I → pm_L → Prop} (ka0 : kd[a0]? = some (1, na0))
    (F : ((x1 ≤ x4 → K mi ml) ∧ (¬ x1 ≤ x4 → vp_in ((x1 * x2) + x4) na0 ∧ vp_in ((x1 * x3) + x4) na0 ∧ c_X12_copyRow_3 l d kd mr a0 na0 x1 x2 x3 (x4 + 1) (pm_up mi a0 (Int32.toNatClampNeg ((x1 * x3) + x4)) (mi a0 (Int32.toNatClampNeg ((x1 * x2) + x4)))) ml K))) :
    c_X12_copyRow_3 l d kd mr a0 na0 x1 x2 x3 x4 mi ml K := by
  show wp l M_X12_copyRow d 0 0 3 [some (.ref a0), some (.int x1), some (.int x2), some (.int x3), some (.int x4)] [] 0 0 kd mi ml mr _
  refine wp_iload (pc := 3) dX12_copyRow_3 rfl ?_
  refine wp_iload_n (pc := 5) dX12_copyRow_5 rfl ?_
  refine wp_icmp_ge (tgt := 31) (pc := 6) dX12_copyRow_6 (by decide) (fun c1 => ?_) (fun c1 => ?_)
  · have F := F.1 c1
    exact r_V (pc := 31) dX12_copyRow_31 rfl F
  · have F := F.2 c1
    refine wp_aload_n (pc := 9) dX12_copyRow_9 rfl ?_
    refine wp_iload_n (pc := 10) dX12_copyRow_10 rfl ?_
    refine wp_iload_n (pc := 11) dX12_copyRow_11 rfl ?_
    refine wp_imul (pc := 12) dX12_copyRow_12 ?_
    refine wp_iload (pc := 13) dX12_copyRow_13 rfl ?_
    refine wp_iadd (pc := 15) dX12_copyRow_15 ?_
    refine wp_aload_n (pc := 16) dX12_copyRow_16 rfl ?_
    refine wp_iload_n (pc := 17) dX12_copyRow_17 rfl ?_
    refine wp_iload_n (pc := 18) dX12_copyRow_18 rfl ?_
    refine wp_imul (pc := 19) dX12_copyRow_19 ?_
    refine wp_iload (pc := 20) dX12_copyRow_20 rfl ?_
    refine wp_iadd (pc := 22) dX12_copyRow_22 ?_
    refine wp_iald (pc := 23) dX12_copyRow_23 ka0 F.1 ?_
    have F := F.2
    refine wp_iast (pc := 24) dX12_copyRow_24 ka0 F.1 ?_
    have F := F.2
    refine wp_iinc (v := (x4 + 1)) (pc := 25) dX12_copyRow_25 rfl rfl rfl ?_
    show wp l M_X12_copyRow d 0 0 _ [some (.ref a0), some (.int x1), some (.int x2), some (.int x3), some (.int (x4 + 1))] _ 0 0 kd _ _ mr _
    refine wp_goto (tgt := 3) (pc := 28) dX12_copyRow_28 (by decide) ?_
    exact wp_less (L' := [some (.ref a0), some (.int x1), some (.int x2), some (.int x3), some (.int (x4 + 1))]) ⟨rfl, ⟨rfl, ⟨rfl, ⟨rfl, ⟨rfl, trivial⟩⟩⟩⟩⟩ F
/-- copyRow([IIII)V -/
theorem w_X12_copyRow {l : Launch} {d : Nat} {kd : pm_K} {mr : pm_R} {a0 na0 : Nat} {x1 : Int32} {x2 : Int32} {x3 : Int32} {mi : pm_I} {ml : pm_L} {K : pm_I → pm_L → Prop} (ka0 : kd[a0]? = some (1, na0))
    (F : c_X12_copyRow_3 l d kd mr a0 na0 x1 x2 x3 0 mi ml K) :
    wV l M_X12_copyRow d [.ref a0, .int x1, .int x2, .int x3] kd mr mi ml K := by
  show wp l M_X12_copyRow d 0 0 0 [some (.ref a0), some (.int x1), some (.int x2), some (.int x3), none] [] 0 0 kd mi ml mr _
  refine wp_iconst (v := 0) (pc := 0) dX12_copyRow_0 (by decide) ?_
  refine wp_istore (pc := 1) dX12_copyRow_1 (Nat.le_of_ble_eq_true rfl) rfl ?_
  show wp l M_X12_copyRow d 0 0 _ [some (.ref a0), some (.int x1), some (.int x2), some (.int x3), some (.int 0)] _ 0 0 kd _ _ mr _
  exact wp_less (L' := [some (.ref a0), some (.int x1), some (.int x2), some (.int x3), some (.int 0)]) ⟨rfl, ⟨rfl, ⟨rfl, ⟨rfl, ⟨rfl, trivial⟩⟩⟩⟩⟩ F
/-- again(I)Z -/
theorem w_X12_again {l : Launch} {d : Nat} {kd : pm_K} {mr : pm_R} {h : Nat} {x1 : Int32} {mi : pm_I} {ml : pm_L} {K : Bool → pm_I → pm_L → Prop} (th : TX12s kd mr h)
    (F : wB l M_X12_in d [.int x1, .int 0, .int 2] kd mr (pm_up mi h 0 0) ml (fun r1 mi2 ml3 => ((r1 = false → K false mi2 ml3) ∧ (r1 = true → vp_in x1 3 ∧ ((¬ (mi2 (h + 31) (Int32.toNatClampNeg x1)) = 0 → wV l M_X12_copyAll d [.ref h, .int (x1 + 1), .int 0] kd mr mi2 ml3 (fun mi7 ml8 => K true mi7 ml8)) ∧ ((mi2 (h + 31) (Int32.toNatClampNeg x1)) = 0 → K false mi2 ml3)))))) :
    wB l M_X12_again (d + 1) [.ref h, .int x1] kd mr mi ml K := by
  show wp l M_X12_again (d + 1) 0 0 0 [some (.ref h), some (.int x1)] [] 0 0 kd mi ml mr _
  refine wp_aload_n (pc := 0) dX12_again_0 rfl ?_
  refine wp_iconst (v := 0) (pc := 1) dX12_again_1 (by decide) ?_
  refine wp_putI (pc := 2) dX12_again_2 fl_X12_107 rfl rfl (TX12s_k th) ?_
  refine wp_iload_n (pc := 5) dX12_again_5 rfl ?_
  refine wp_iconst (v := 0) (pc := 6) dX12_again_6 (by decide) ?_
  refine wp_iconst (v := 2) (pc := 7) dX12_again_7 (by decide) ?_
  refine csB [.int x1, .int 0, .int 2] [] (pc := 8) dX12_again_8 ml_X12_119 st_X12_in rfl rfl (Nat.le_of_ble_eq_true rfl) (Nat.le_of_ble_eq_true rfl) (wB.mono (fun r1 mi2 ml3 F => ?_) F)
  refine b_eq (tgt := 23) (pc := 11) dX12_again_11 (by decide) (fun c4 => ?_) (fun c4 => ?_)
  · have F := F.1 c4
    refine wp_iconst (v := 0) (pc := 23) dX12_again_23 (by decide) ?_
    exact r_Bx (pc := 24) dX12_again_24 rfl rfl F
  · have F := F.2 c4
    refine wp_aload_n (pc := 14) dX12_again_14 rfl ?_
    refine wp_getR (pc := 15) dX12_again_15 fl_X12_104 rfl (TX12s_k th) (TX12s_r60 th) ?_
    refine wp_iload_n (pc := 18) dX12_again_18 rfl ?_
    refine wp_zald (pc := 19) dX12_again_19 (TX12s_a60 th) F.1 ?_
    have F := F.2
    refine wp_if_ne (tgt := 25) (pc := 20) dX12_again_20 (by decide) (fun c5 => ?_) (fun c5 => ?_)
    · have F := F.1 c5
      refine wp_aload_n (pc := 25) dX12_again_25 rfl ?_
      refine wp_iload_n (pc := 26) dX12_again_26 rfl ?_
      refine wp_iconst (v := 1) (pc := 27) dX12_again_27 (by decide) ?_
      refine wp_iadd (pc := 28) dX12_again_28 ?_
      refine wp_iconst (v := 0) (pc := 29) dX12_again_29 (by decide) ?_
      refine cvV [.int (x1 + 1), .int 0] [] (pc := 30) dX12_again_30 ml_X12_606 iv_X12_copyAll (TX12s_k th) (cl_X12 rfl) rfl rfl (Nat.le_of_ble_eq_true rfl) (Nat.le_of_ble_eq_true rfl) (wV.mono (fun mi7 ml8 F => ?_) F)
      refine wp_iconst (v := 1) (pc := 33) dX12_again_33 (by decide) ?_
      exact r_Bx (pc := 34) dX12_again_34 rfl rfl F
    · have F := F.2 c5
      refine wp_iconst (v := 0) (pc := 23) dX12_again_23 (by decide) ?_
      exact r_Bx (pc := 24) dX12_again_24 rfl rfl F
