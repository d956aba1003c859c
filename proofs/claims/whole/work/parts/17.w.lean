/-! block lemmas, by program (gen/mkw.py) -/
def c_X5_read_163 (l : Launch) (d : Nat) (kd : pm_K) (mr : pm_R) (h : Nat) (a2 na2 : Nat) (x1 : Int32) (mi : pm_I) (ml : pm_L) (K : pm_I → pm_L → Prop) : Prop := wp l M_X5_read d 0 0 163 [some (.ref h), some (.int x1), none, none, none] [] 0 0 kd mi ml mr (qV kd mr K)
def c_X5_read_153 (l : Launch) (d : Nat) (kd : pm_K) (mr : pm_R) (h : Nat) (a2 na2 : Nat) (x1 : Int32) (x4 : Int32) (mi : pm_I) (ml : pm_L) (K : pm_I → pm_L → Prop) : Prop := wp l M_X5_read d 0 0 153 [some (.ref h), some (.int x1), none, none, some (.int x4)] [] 0 0 kd mi ml mr (qV kd mr K)
def c_X5_read_78 (l : Launch) (d : Nat) (kd : pm_K) (mr : pm_R) (h : Nat) (a2 na2 : Nat) (x1 : Int32) (x4 : Int32) (mi : pm_I) (ml : pm_L) (K : pm_I → pm_L → Prop) : Prop := wp l M_X5_read d 0 0 78 [some (.ref h), some (.int x1), none, none, some (.int x4)] [] 0 0 kd mi ml mr (qV kd mr K)
theorem w_X5_read_78 {l : Launch} {d : Nat} {kd : pm_K} {mr : pm_R} {h : Nat} {a2 na2 : Nat} {x1 : Int32} {x4 : Int32} {mi : pm_I} {ml : pm_L} {K : pm_I → pm_L → Prop} (th : TX5s kd mr h) (ka2 : kd[a2]? = some (3, na2))
    (F : ((600 < x4 → c_X5_read_163 l (d + 1) kd mr h a2 na2 x1 mi ml K) ∧ (¬ 600 < x4 → (((mi h 4) = 0 → c_X5_read_163 l (d + 1) kd mr h a2 na2 x1 mi ml K) ∧ (¬ (mi h 4) = 0 → (((mi h 6) = 1 → c_X5_read_163 l (d + 1) kd mr h a2 na2 x1 mi ml K) ∧ (¬ (mi h 6) = 1 → (((x1).toInt < 0 ∨ 2 < (x1).toInt → wV l M_X5_readFact d [.ref h] kd mr mi ml (fun mi16 ml17 => c_X5_read_153 l (d + 1) kd mr h a2 na2 x1 x4 mi16 ml17 K)) ∧ ((x1).toInt = 0 → wV l M_X5_readCityLine d [.ref h] kd mr mi ml (fun mi19 ml20 => c_X5_read_153 l (d + 1) kd mr h a2 na2 x1 x4 mi19 ml20 K)) ∧ ((x1).toInt = 1 → wV l M_X5_readDeed d [.ref h] kd mr mi ml (fun mi22 ml23 => c_X5_read_153 l (d + 1) kd mr h a2 na2 x1 x4 mi22 ml23 K)) ∧ ((x1).toInt = 2 → wV l M_X5_readTrialLine d [.ref h] kd mr mi ml (fun mi25 ml26 => c_X5_read_153 l (d + 1) kd mr h a2 na2 x1 x4 mi25 ml26 K)))))))))) :
    c_X5_read_78 l (d + 1) kd mr h a2 na2 x1 x4 mi ml K := by
  show wp l M_X5_read (d + 1) 0 0 78 [some (.ref h), some (.int x1), none, none, some (.int x4)] [] 0 0 kd mi ml mr _
  refine wp_iload (pc := 78) dX5_read_78 rfl ?_
  refine wp_sipush (v := 600) (pc := 80) dX5_read_80 (by decide) ?_
  refine wp_icmp_gt (tgt := 163) (pc := 83) dX5_read_83 (by decide) (fun c11 => ?_) (fun c11 => ?_)
  · have F := F.1 c11
    exact wp_less (L' := [some (.ref h), some (.int x1), none, none, none]) ⟨rfl, ⟨rfl, trivial⟩⟩ F
  · have F := F.2 c11
    refine wp_aload_n (pc := 86) dX5_read_86 rfl ?_
    refine wp_getI (pc := 87) dX5_read_87 fl_X5_74 rfl (TX5s_k th) ?_
    refine wp_if_eq (tgt := 163) (pc := 90) dX5_read_90 (by decide) (fun c12 => ?_) (fun c12 => ?_)
    · have F := F.1 c12
      exact wp_less (L' := [some (.ref h), some (.int x1), none, none, none]) ⟨rfl, ⟨rfl, trivial⟩⟩ F
    · have F := F.2 c12
      refine wp_aload_n (pc := 93) dX5_read_93 rfl ?_
      refine wp_getI (pc := 94) dX5_read_94 fl_X5_58 rfl (TX5s_k th) ?_
      refine wp_iconst (v := 1) (pc := 97) dX5_read_97 (by decide) ?_
      refine wp_icmp_eq (tgt := 163) (pc := 98) dX5_read_98 (by decide) (fun c13 => ?_) (fun c13 => ?_)
      · have F := F.1 c13
        exact wp_less (L' := [some (.ref h), some (.int x1), none, none, none]) ⟨rfl, ⟨rfl, trivial⟩⟩ F
      · have F := F.2 c13
        refine wp_iload_n (pc := 101) dX5_read_101 rfl ?_
        by_cases c14 : (x1).toInt < 0 ∨ 2 < (x1).toInt
        · have F := F.1 c14
          refine wp_tableOut (tgt := 149) (pc := 102) dX5_read_102 c14 (by decide) ?_
          refine wp_aload_n (pc := 149) dX5_read_149 rfl ?_
          refine cvV [] [] (pc := 150) dX5_read_150 ml_X5_86 iv_X5_readFact (TX5s_k th) (cl_X5 rfl) rfl rfl (Nat.le_of_ble_eq_true rfl) (Nat.le_of_ble_eq_true rfl) (wV.mono (fun mi16 ml17 F => ?_) F)
          exact wp_less (L' := [some (.ref h), some (.int x1), none, none, some (.int x4)]) ⟨rfl, ⟨rfl, ⟨rfl, trivial⟩⟩⟩ F
        have c14 : (x1).toInt = 0 ∨ (x1).toInt = 1 ∨ (x1).toInt = 2 := by omega
        have F := F.2
        rcases c14 with c14 | c14 | c14
        · have F := F.1 c14
          refine wp_tableIn (tgt := 128) (pc := 102) dX5_read_102 c14 (by decide) (by decide) rfl (by decide) ?_
          refine wp_aload_n (pc := 128) dX5_read_128 rfl ?_
          refine cvV [] [] (pc := 129) dX5_read_129 ml_X5_77 iv_X5_readCityLine (TX5s_k th) (cl_X5 rfl) rfl rfl (Nat.le_of_ble_eq_true rfl) (Nat.le_of_ble_eq_true rfl) (wV.mono (fun mi19 ml20 F => ?_) F)
          refine wp_goto (tgt := 153) (pc := 132) dX5_read_132 (by decide) ?_
          exact wp_less (L' := [some (.ref h), some (.int x1), none, none, some (.int x4)]) ⟨rfl, ⟨rfl, ⟨rfl, trivial⟩⟩⟩ F
        · have F := F.2.1 c14
          refine wp_tableIn (tgt := 135) (pc := 102) dX5_read_102 c14 (by decide) (by decide) rfl (by decide) ?_
          refine wp_aload_n (pc := 135) dX5_read_135 rfl ?_
          refine cvV [] [] (pc := 136) dX5_read_136 ml_X5_80 iv_X5_readDeed (TX5s_k th) (cl_X5 rfl) rfl rfl (Nat.le_of_ble_eq_true rfl) (Nat.le_of_ble_eq_true rfl) (wV.mono (fun mi22 ml23 F => ?_) F)
          refine wp_goto (tgt := 153) (pc := 139) dX5_read_139 (by decide) ?_
          exact wp_less (L' := [some (.ref h), some (.int x1), none, none, some (.int x4)]) ⟨rfl, ⟨rfl, ⟨rfl, trivial⟩⟩⟩ F
        · have F := F.2.2 c14
          refine wp_tableIn (tgt := 142) (pc := 102) dX5_read_102 c14 (by decide) (by decide) rfl (by decide) ?_
          refine wp_aload_n (pc := 142) dX5_read_142 rfl ?_
          refine cvV [] [] (pc := 143) dX5_read_143 ml_X5_83 iv_X5_readTrialLine (TX5s_k th) (cl_X5 rfl) rfl rfl (Nat.le_of_ble_eq_true rfl) (Nat.le_of_ble_eq_true rfl) (wV.mono (fun mi25 ml26 F => ?_) F)
          refine wp_goto (tgt := 153) (pc := 146) dX5_read_146 (by decide) ?_
          exact wp_less (L' := [some (.ref h), some (.int x1), none, none, some (.int x4)]) ⟨rfl, ⟨rfl, ⟨rfl, trivial⟩⟩⟩ F
theorem w_X5_read_153 {l : Launch} {d : Nat} {kd : pm_K} {mr : pm_R} {h : Nat} {a2 na2 : Nat} {x1 : Int32} {x4 : Int32} {mi : pm_I} {ml : pm_L} {K : pm_I → pm_L → Prop} (th : TX5s kd mr h) (ka2 : kd[a2]? = some (3, na2))
    (F : wV l M_X5_takeSemicolon d [.ref h] kd mr mi ml (fun mi28 ml29 => c_X5_read_78 l (d + 1) kd mr h a2 na2 x1 (x4 + 1) mi28 ml29 K)) :
    c_X5_read_153 l (d + 1) kd mr h a2 na2 x1 x4 mi ml K := by
  show wp l M_X5_read (d + 1) 0 0 153 [some (.ref h), some (.int x1), none, none, some (.int x4)] [] 0 0 kd mi ml mr _
  refine wp_aload_n (pc := 153) dX5_read_153 rfl ?_
  refine cvV [] [] (pc := 154) dX5_read_154 ml_X5_89 iv_X5_takeSemicolon (TX5s_k th) (cl_X5 rfl) rfl rfl (Nat.le_of_ble_eq_true rfl) (Nat.le_of_ble_eq_true rfl) (wV.mono (fun mi28 ml29 F => ?_) F)
  refine wp_iinc (v := (x4 + 1)) (pc := 157) dX5_read_157 rfl rfl rfl ?_
  show wp l M_X5_read (d + 1) 0 0 _ [some (.ref h), some (.int x1), none, none, some (.int (x4 + 1))] _ 0 0 kd _ _ mr _
  refine wp_goto (tgt := 78) (pc := 160) dX5_read_160 (by decide) ?_
  exact wp_less (L' := [some (.ref h), some (.int x1), none, none, some (.int (x4 + 1))]) ⟨rfl, ⟨rfl, ⟨rfl, trivial⟩⟩⟩ F
theorem w_X5_read_163 {l : Launch} {d : Nat} {kd : pm_K} {mr : pm_R} {h : Nat} {a2 na2 : Nat} {x1 : Int32} {mi : pm_I} {ml : pm_L} {K : pm_I → pm_L → Prop} (th : TX5s kd mr h) (ka2 : kd[a2]? = some (3, na2))
    (F : ((¬ (mi h 6) = 0 → K mi ml) ∧ ((mi h 6) = 0 → wV l M_X5_checkWhole d [.ref h, .int x1] kd mr mi ml (fun mi32 ml33 => K mi32 ml33)))) :
    c_X5_read_163 l (d + 1) kd mr h a2 na2 x1 mi ml K := by
  show wp l M_X5_read (d + 1) 0 0 163 [some (.ref h), some (.int x1), none, none, none] [] 0 0 kd mi ml mr _
  refine wp_aload_n (pc := 163) dX5_read_163 rfl ?_
  refine wp_getI (pc := 164) dX5_read_164 fl_X5_58 rfl (TX5s_k th) ?_
  refine wp_if_ne (tgt := 175) (pc := 167) dX5_read_167 (by decide) (fun c30 => ?_) (fun c30 => ?_)
  · have F := F.1 c30
    exact r_V (pc := 175) dX5_read_175 rfl F
  · have F := F.2 c30
    refine wp_aload_n (pc := 170) dX5_read_170 rfl ?_
    refine wp_iload_n (pc := 171) dX5_read_171 rfl ?_
    refine cvV [.int x1] [] (pc := 172) dX5_read_172 ml_X5_92 iv_X5_checkWhole (TX5s_k th) (cl_X5 rfl) rfl rfl (Nat.le_of_ble_eq_true rfl) (Nat.le_of_ble_eq_true rfl) (wV.mono (fun mi32 ml33 F => ?_) F)
    exact r_V (pc := 175) dX5_read_175 rfl F
/-- read(I[BI)V -/
theorem w_X5_read {l : Launch} {d : Nat} {kd : pm_K} {mr : pm_R} {h : Nat} {a2 na2 : Nat} {x1 : Int32} {x3 : Int32} {mi : pm_I} {ml : pm_L} {K : pm_I → pm_L → Prop} (th : TX5s kd mr h) (ka2 : kd[a2]? = some (3, na2))
    (F : (¬ (0 : Int32) < 0 ∧ ¬ (0 : Int32) < 0 ∧ ¬ (if 0 < (if (if 600 < (Int32.ofNat na2) then 600 else (Int32.ofNat na2)) < x3 then (if 600 < (Int32.ofNat na2) then 600 else (Int32.ofNat na2)) else x3) then (if (if 600 < (Int32.ofNat na2) then 600 else (Int32.ofNat na2)) < x3 then (if 600 < (Int32.ofNat na2) then 600 else (Int32.ofNat na2)) else x3) else 0) < 0 ∧ (Int32.toNatClampNeg (0 : Int32)) + (Int32.toNatClampNeg (if 0 < (if (if 600 < (Int32.ofNat na2) then 600 else (Int32.ofNat na2)) < x3 then (if 600 < (Int32.ofNat na2) then 600 else (Int32.ofNat na2)) else x3) then (if (if 600 < (Int32.ofNat na2) then 600 else (Int32.ofNat na2)) < x3 then (if 600 < (Int32.ofNat na2) then 600 else (Int32.ofNat na2)) else x3) else 0)) ≤ na2 ∧ (Int32.toNatClampNeg (0 : Int32)) + (Int32.toNatClampNeg (if 0 < (if (if 600 < (Int32.ofNat na2) then 600 else (Int32.ofNat na2)) < x3 then (if 600 < (Int32.ofNat na2) then 600 else (Int32.ofNat na2)) else x3) then (if (if 600 < (Int32.ofNat na2) then 600 else (Int32.ofNat na2)) < x3 then (if 600 < (Int32.ofNat na2) then 600 else (Int32.ofNat na2)) else x3) else 0)) ≤ 600) ∧ ∀ mi1 : pm_I, mi1 = (pm_ur (pm_up mi h 1 (if 0 < (if (if 600 < (Int32.ofNat na2) then 600 else (Int32.ofNat na2)) < x3 then (if 600 < (Int32.ofNat na2) then 600 else (Int32.ofNat na2)) else x3) then (if (if 600 < (Int32.ofNat na2) then 600 else (Int32.ofNat na2)) < x3 then (if 600 < (Int32.ofNat na2) then 600 else (Int32.ofNat na2)) else x3) else 0)) (h + 1) (va_cpy ((pm_up mi h 1 (if 0 < (if (if 600 < (Int32.ofNat na2) then 600 else (Int32.ofNat na2)) < x3 then (if 600 < (Int32.ofNat na2) then 600 else (Int32.ofNat na2)) else x3) then (if (if 600 < (Int32.ofNat na2) then 600 else (Int32.ofNat na2)) < x3 then (if 600 < (Int32.ofNat na2) then 600 else (Int32.ofNat na2)) else x3) else 0)) a2) ((pm_up mi h 1 (if 0 < (if (if 600 < (Int32.ofNat na2) then 600 else (Int32.ofNat na2)) < x3 then (if 600 < (Int32.ofNat na2) then 600 else (Int32.ofNat na2)) else x3) then (if (if 600 < (Int32.ofNat na2) then 600 else (Int32.ofNat na2)) < x3 then (if 600 < (Int32.ofNat na2) then 600 else (Int32.ofNat na2)) else x3) else 0)) (h + 1)) (Int32.toNatClampNeg (0 : Int32)) (Int32.toNatClampNeg (0 : Int32)) (Int32.toNatClampNeg (if 0 < (if (if 600 < (Int32.ofNat na2) then 600 else (Int32.ofNat na2)) < x3 then (if 600 < (Int32.ofNat na2) then 600 else (Int32.ofNat na2)) else x3) then (if (if 600 < (Int32.ofNat na2) then 600 else (Int32.ofNat na2)) < x3 then (if 600 < (Int32.ofNat na2) then 600 else (Int32.ofNat na2)) else x3) else 0)))) → wV l M_X0_reset d [.ref (h + 2)] kd mr (pm_up (pm_up (pm_up mi1 h 3 0) h 6 0) h 7 (-1)) ml (fun mi3 ml4 => wV l M_X10_reset d [.ref (h + 12)] kd mr (pm_up mi3 (h + 8) 3 0) ml4 (fun mi6 ml7 => wV l M_X5_goOn d [.ref h] kd mr mi6 ml7 (fun mi9 ml10 => c_X5_read_78 l (d + 1) kd mr h a2 na2 x1 0 mi9 ml10 K)))) :
    wV l M_X5_read (d + 1) [.ref h, .int x1, .ref a2, .int x3] kd mr mi ml K := by
  show wp l M_X5_read (d + 1) 0 0 0 [some (.ref h), some (.int x1), some (.ref a2), some (.int x3), none] [] 0 0 kd mi ml mr _
  refine wp_aload_n (pc := 0) dX5_read_0 rfl ?_
  refine wp_iconst (v := 0) (pc := 1) dX5_read_1 (by decide) ?_
  refine wp_iload_n (pc := 2) dX5_read_2 rfl ?_
  refine wp_aload_n (pc := 3) dX5_read_3 rfl ?_
  refine wp_alen (pc := 4) dX5_read_4 (by decide) ka2 rfl ?_
  refine wp_sipush (v := 600) (pc := 5) dX5_read_5 (by decide) ?_
  refine wp_min (pc := 8) dX5_read_8 ⟨tb_2 229 rfl rfl, tb_2 149 rfl rfl, tb_1 14 rfl rfl, tb_2 150 rfl rfl⟩ (Nat.succ_pos d) (Nat.le_of_ble_eq_true rfl) ⟨Nat.le_refl 0, Nat.le_refl 0⟩ ?_
  refine wp_min (pc := 11) dX5_read_11 ⟨tb_2 229 rfl rfl, tb_2 149 rfl rfl, tb_1 14 rfl rfl, tb_2 150 rfl rfl⟩ (Nat.succ_pos d) (Nat.le_of_ble_eq_true rfl) ⟨Nat.le_refl 0, Nat.le_refl 0⟩ ?_
  refine wp_max (pc := 14) dX5_read_14 ⟨tb_2 230 rfl rfl, tb_2 152 rfl rfl, tb_1 14 rfl rfl, tb_2 153 rfl rfl⟩ (Nat.succ_pos d) (Nat.le_of_ble_eq_true rfl) ⟨Nat.le_refl 0, Nat.le_refl 0⟩ ?_
  refine wp_putI (pc := 17) dX5_read_17 fl_X5_45 rfl rfl (TX5s_k th) ?_
  refine wp_aload_n (pc := 20) dX5_read_20 rfl ?_
  refine wp_iconst (v := 0) (pc := 21) dX5_read_21 (by decide) ?_
  refine wp_aload_n (pc := 22) dX5_read_22 rfl ?_
  refine wp_getR (pc := 23) dX5_read_23 fl_X5_9 rfl (TX5s_k th) (TX5s_r0 th) ?_
  refine wp_iconst (v := 0) (pc := 26) dX5_read_26 (by decide) ?_
  refine wp_aload_n (pc := 27) dX5_read_27 rfl ?_
  refine wp_getI (pc := 28) dX5_read_28 fl_X5_45 rfl (TX5s_k th) ?_
  refine t_I (show ((pm_up mi h 1 (if 0 < (if (if 600 < (Int32.ofNat na2) then 600 else (Int32.ofNat na2)) < x3 then (if 600 < (Int32.ofNat na2) then 600 else (Int32.ofNat na2)) else x3) then (if (if 600 < (Int32.ofNat na2) then 600 else (Int32.ofNat na2)) < x3 then (if 600 < (Int32.ofNat na2) then 600 else (Int32.ofNat na2)) else x3) else 0)) h 1) = (if 0 < (if (if 600 < (Int32.ofNat na2) then 600 else (Int32.ofNat na2)) < x3 then (if 600 < (Int32.ofNat na2) then 600 else (Int32.ofNat na2)) else x3) then (if (if 600 < (Int32.ofNat na2) then 600 else (Int32.ofNat na2)) < x3 then (if 600 < (Int32.ofNat na2) then 600 else (Int32.ofNat na2)) else x3) else 0) from pm_up_s _ _ _ _) ?_
  refine wp_copy (pc := 31) dX5_read_31 ⟨tb_2 231 rfl rfl, tb_2 233 rfl rfl, tb_2 232 rfl rfl, tb_1 16 rfl rfl⟩ (Nat.succ_pos d) (Nat.le_of_ble_eq_true rfl) (by decide) ka2 (TX5s_a0 th) F.1.1 F.1.2.1 F.1.2.2.1 F.1.2.2.2.1 F.1.2.2.2.2 ?_
  have F := F.2
  generalize emi1 : (pm_ur (pm_up mi h 1 (if 0 < (if (if 600 < (Int32.ofNat na2) then 600 else (Int32.ofNat na2)) < x3 then (if 600 < (Int32.ofNat na2) then 600 else (Int32.ofNat na2)) else x3) then (if (if 600 < (Int32.ofNat na2) then 600 else (Int32.ofNat na2)) < x3 then (if 600 < (Int32.ofNat na2) then 600 else (Int32.ofNat na2)) else x3) else 0)) (h + 1) (va_cpy ((pm_up mi h 1 (if 0 < (if (if 600 < (Int32.ofNat na2) then 600 else (Int32.ofNat na2)) < x3 then (if 600 < (Int32.ofNat na2) then 600 else (Int32.ofNat na2)) else x3) then (if (if 600 < (Int32.ofNat na2) then 600 else (Int32.ofNat na2)) < x3 then (if 600 < (Int32.ofNat na2) then 600 else (Int32.ofNat na2)) else x3) else 0)) a2) ((pm_up mi h 1 (if 0 < (if (if 600 < (Int32.ofNat na2) then 600 else (Int32.ofNat na2)) < x3 then (if 600 < (Int32.ofNat na2) then 600 else (Int32.ofNat na2)) else x3) then (if (if 600 < (Int32.ofNat na2) then 600 else (Int32.ofNat na2)) < x3 then (if 600 < (Int32.ofNat na2) then 600 else (Int32.ofNat na2)) else x3) else 0)) (h + 1)) (Int32.toNatClampNeg (0 : Int32)) (Int32.toNatClampNeg (0 : Int32)) (Int32.toNatClampNeg (if 0 < (if (if 600 < (Int32.ofNat na2) then 600 else (Int32.ofNat na2)) < x3 then (if 600 < (Int32.ofNat na2) then 600 else (Int32.ofNat na2)) else x3) then (if (if 600 < (Int32.ofNat na2) then 600 else (Int32.ofNat na2)) < x3 then (if 600 < (Int32.ofNat na2) then 600 else (Int32.ofNat na2)) else x3) else 0)))) = mi1
  have F := F mi1 emi1.symm
  refine wp_aload_n (pc := 34) dX5_read_34 rfl ?_
  refine wp_iconst (v := 0) (pc := 35) dX5_read_35 (by decide) ?_
  refine wp_putI (pc := 36) dX5_read_36 fl_X5_55 rfl rfl (TX5s_k th) ?_
  refine wp_aload_n (pc := 39) dX5_read_39 rfl ?_
  refine wp_iconst (v := 0) (pc := 40) dX5_read_40 (by decide) ?_
  refine wp_putI (pc := 41) dX5_read_41 fl_X5_58 rfl rfl (TX5s_k th) ?_
  refine wp_aload_n (pc := 44) dX5_read_44 rfl ?_
  refine wp_iconst (v := -1) (pc := 45) dX5_read_45 (by decide) ?_
  refine wp_putI (pc := 46) dX5_read_46 fl_X5_61 rfl rfl (TX5s_k th) ?_
  refine wp_aload_n (pc := 49) dX5_read_49 rfl ?_
  refine wp_getR (pc := 50) dX5_read_50 fl_X5_18 rfl (TX5s_k th) (TX5s_r8 th) ?_
  refine cvV [] [] (pc := 53) dX5_read_53 ml_X5_64 iv_X0_reset (TX0s_k (TX5s_a8 th)) (cl_X0 rfl) rfl rfl (Nat.le_of_ble_eq_true rfl) (Nat.le_of_ble_eq_true rfl) (wV.mono (fun mi3 ml4 F => ?_) F)
  refine wp_aload_n (pc := 56) dX5_read_56 rfl ?_
  refine wp_getR (pc := 57) dX5_read_57 fl_X5_25 rfl (TX5s_k th) (TX5s_r9 th) ?_
  refine wp_iconst (v := 0) (pc := 60) dX5_read_60 (by decide) ?_
  refine wp_putI (pc := 61) dX5_read_61 fl_X5_67 rfl rfl (TX6s_k (TX5s_a9 th)) ?_
  refine wp_aload_n (pc := 64) dX5_read_64 rfl ?_
  refine wp_getR (pc := 65) dX5_read_65 fl_X5_32 rfl (TX5s_k th) (TX5s_r10 th) ?_
  refine cvV [] [] (pc := 68) dX5_read_68 ml_X5_70 iv_X10_reset (TX10s_k (TX5s_a10 th)) (cl_X10 rfl) rfl rfl (Nat.le_of_ble_eq_true rfl) (Nat.le_of_ble_eq_true rfl) (wV.mono (fun mi6 ml7 F => ?_) F)
  refine wp_aload_n (pc := 71) dX5_read_71 rfl ?_
  refine cvV [] [] (pc := 72) dX5_read_72 ml_X5_71 iv_X5_goOn (TX5s_k th) (cl_X5 rfl) rfl rfl (Nat.le_of_ble_eq_true rfl) (Nat.le_of_ble_eq_true rfl) (wV.mono (fun mi9 ml10 F => ?_) F)
  refine wp_iconst (v := 0) (pc := 75) dX5_read_75 (by decide) ?_
  refine wp_istore (pc := 76) dX5_read_76 (Nat.le_of_ble_eq_true rfl) rfl ?_
  show wp l M_X5_read (d + 1) 0 0 _ [some (.ref h), some (.int x1), some (.ref a2), some (.int x3), some (.int 0)] _ 0 0 kd _ _ mr _
  exact wp_less (L' := [some (.ref h), some (.int x1), none, none, some (.int 0)]) ⟨rfl, ⟨rfl, ⟨rfl, trivial⟩⟩⟩ F
def c_X5_goOn_102 (l : Launch) (d : Nat) (kd : pm_K) (mr : pm_R) (h : Nat)  (mi : pm_I) (ml : pm_L) (K : pm_I → pm_L → Prop) : Prop := wp l M_X5_goOn d 0 0 102 [some (.ref h), none] [] 0 0 kd mi ml mr (qV kd mr K)
def c_X5_goOn_46 (l : Launch) (d : Nat) (kd : pm_K) (mr : pm_R) (h : Nat)  (mi : pm_I) (ml : pm_L) (K : pm_I → pm_L → Prop) : Prop := wp l M_X5_goOn d 0 0 46 [some (.ref h), none] [] 0 0 kd mi ml mr (qV kd mr K)
def c_X5_goOn_8 (l : Launch) (d : Nat) (kd : pm_K) (mr : pm_R) (h : Nat)  (mi : pm_I) (ml : pm_L) (K : pm_I → pm_L → Prop) : Prop := wp l M_X5_goOn d 0 0 8 [some (.ref h), none] [] 0 0 kd mi ml mr (qV kd mr K)
theorem w_X5_goOn_8 {l : Launch} {d : Nat} {kd : pm_K} {mr : pm_R} {h : Nat}  {mi : pm_I} {ml : pm_L} {K : pm_I → pm_L → Prop} (th : TX5s kd mr h)
    (F : (((mi h 1) ≤ (mi h 2) → c_X5_goOn_46 l (d + 1) kd mr h  mi ml K) ∧ (¬ (mi h 1) ≤ (mi h 2) → wI l M_X5_byteAt d [.ref h, .int (mi h 2)] kd mr mi ml (fun r2 mi3 ml4 => wB l M_X5_isBlank d [.int r2] kd mr mi3 ml4 (fun r5 mi6 ml7 => ((r5 = false → c_X5_goOn_46 l (d + 1) kd mr h  mi6 ml7 K) ∧ (r5 = true → c_X5_goOn_8 l (d + 1) kd mr h  (pm_up mi6 h 2 ((mi6 h 2) + 1)) ml7 K))))))) :
    c_X5_goOn_8 l (d + 1) kd mr h mi ml K := by
  show wp l M_X5_goOn (d + 1) 0 0 8 [some (.ref h), none] [] 0 0 kd mi ml mr _
  refine wp_aload_n (pc := 8) dX5_goOn_8 rfl ?_
  refine wp_getI (pc := 9) dX5_goOn_9 fl_X5_96 rfl (TX5s_k th) ?_
  refine wp_aload_n (pc := 12) dX5_goOn_12 rfl ?_
  refine wp_getI (pc := 13) dX5_goOn_13 fl_X5_45 rfl (TX5s_k th) ?_
  refine wp_icmp_ge (tgt := 46) (pc := 16) dX5_goOn_16 (by decide) (fun c1 => ?_) (fun c1 => ?_)
  · have F := F.1 c1
    exact wp_less (L' := [some (.ref h), none]) ⟨rfl, trivial⟩ F
  · have F := F.2 c1
    refine wp_aload_n (pc := 19) dX5_goOn_19 rfl ?_
    refine wp_aload_n (pc := 20) dX5_goOn_20 rfl ?_
    refine wp_getI (pc := 21) dX5_goOn_21 fl_X5_96 rfl (TX5s_k th) ?_
    refine cvI [.int (mi h 2)] [] (pc := 24) dX5_goOn_24 ml_X5_210 iv_X5_byteAt (TX5s_k th) (cl_X5 rfl) rfl rfl (Nat.le_of_ble_eq_true rfl) (Nat.le_of_ble_eq_true rfl) (wI.mono (fun r2 mi3 ml4 F => ?_) F)
    refine csB [.int r2] [] (pc := 27) dX5_goOn_27 ml_X5_217 st_X5_isBlank rfl rfl (Nat.le_of_ble_eq_true rfl) (Nat.le_of_ble_eq_true rfl) (wB.mono (fun r5 mi6 ml7 F => ?_) F)
    refine b_eq (tgt := 46) (pc := 30) dX5_goOn_30 (by decide) (fun c8 => ?_) (fun c8 => ?_)
    · have F := F.1 c8
      exact wp_less (L' := [some (.ref h), none]) ⟨rfl, trivial⟩ F
    · have F := F.2 c8
      refine wp_aload_n (pc := 33) dX5_goOn_33 rfl ?_
      refine wp_dup (pc := 34) dX5_goOn_34 rfl ?_
      refine wp_getI (pc := 35) dX5_goOn_35 fl_X5_96 rfl (TX5s_k th) ?_
      refine wp_iconst (v := 1) (pc := 38) dX5_goOn_38 (by decide) ?_
      refine wp_iadd (pc := 39) dX5_goOn_39 ?_
      refine wp_putI (pc := 40) dX5_goOn_40 fl_X5_96 rfl rfl (TX5s_k th) ?_
      refine wp_goto (tgt := 8) (pc := 43) dX5_goOn_43 (by decide) ?_
      exact wp_less (L' := [some (.ref h), none]) ⟨rfl, trivial⟩ F
theorem w_X5_goOn_46 {l : Launch} {d : Nat} {kd : pm_K} {mr : pm_R} {h : Nat}  {mi : pm_I} {ml : pm_L} {K : pm_I → pm_L → Prop} (th : TX5s kd mr h)
    (F : (((mi h 2) < (mi h 1) → wI l M_X5_byteAt d [.ref h, .int (mi h 2)] kd mr (pm_up mi h 3 (mi h 2)) ml (fun r10 mi11 ml12 => wB l M_X5_isLetter d [.int r10] kd mr (pm_up mi11 h 3 ((mi11 h 2) + 1)) ml12 (fun r13 mi14 ml15 => ((r13 = false → wB l M_X5_isDigit d [.int r10] kd mr mi14 ml15 (fun r17 mi18 ml19 => ((r17 = false → K (pm_up mi18 h 4 (if r10 = 59 then (3 : Int32) else (4 : Int32))) ml19) ∧ (r17 = true → wV l M_X5_readDigits d [.ref h] kd mr mi18 ml19 (fun mi25 ml26 => K mi25 ml26))))) ∧ (r13 = true → c_X5_goOn_102 l (d + 1) kd mr h  (pm_up mi14 h 4 1) ml15 K))))) ∧ (¬ (mi h 2) < (mi h 1) → K (pm_up (pm_up mi h 3 (mi h 2)) h 4 0) ml))) :
    c_X5_goOn_46 l (d + 1) kd mr h mi ml K := by
  show wp l M_X5_goOn (d + 1) 0 0 46 [some (.ref h), none] [] 0 0 kd mi ml mr _
  refine wp_aload_n (pc := 46) dX5_goOn_46 rfl ?_
  refine wp_aload_n (pc := 47) dX5_goOn_47 rfl ?_
  refine wp_getI (pc := 48) dX5_goOn_48 fl_X5_96 rfl (TX5s_k th) ?_
  refine wp_putI (pc := 51) dX5_goOn_51 fl_X5_55 rfl rfl (TX5s_k th) ?_
  refine wp_aload_n (pc := 54) dX5_goOn_54 rfl ?_
  refine wp_getI (pc := 55) dX5_goOn_55 fl_X5_96 rfl (TX5s_k th) ?_
  refine t_I (show ((pm_up mi h 3 (mi h 2)) h 2) = (mi h 2) from pm_up_j _ _ (by decide)) ?_
  refine wp_aload_n (pc := 58) dX5_goOn_58 rfl ?_
  refine wp_getI (pc := 59) dX5_goOn_59 fl_X5_45 rfl (TX5s_k th) ?_
  refine t_I (show ((pm_up mi h 3 (mi h 2)) h 1) = (mi h 1) from pm_up_j _ _ (by decide)) ?_
  refine wp_icmp_lt (tgt := 71) (pc := 62) dX5_goOn_62 (by decide) (fun c9 => ?_) (fun c9 => ?_)
  · have F := F.1 c9
    refine wp_aload_n (pc := 71) dX5_goOn_71 rfl ?_
    refine wp_aload_n (pc := 72) dX5_goOn_72 rfl ?_
    refine wp_getI (pc := 73) dX5_goOn_73 fl_X5_96 rfl (TX5s_k th) ?_
    refine t_I (show ((pm_up mi h 3 (mi h 2)) h 2) = (mi h 2) from pm_up_j _ _ (by decide)) ?_
    refine cvI [.int (mi h 2)] [] (pc := 76) dX5_goOn_76 ml_X5_210 iv_X5_byteAt (TX5s_k th) (cl_X5 rfl) rfl rfl (Nat.le_of_ble_eq_true rfl) (Nat.le_of_ble_eq_true rfl) (wI.mono (fun r10 mi11 ml12 F => ?_) F)
    refine wp_istore_n (pc := 79) dX5_goOn_79 (Nat.le_of_ble_eq_true rfl) rfl ?_
    show wp l M_X5_goOn (d + 1) 0 0 _ [some (.ref h), some (.int r10)] _ 0 0 kd _ _ mr _
    refine wp_aload_n (pc := 80) dX5_goOn_80 rfl ?_
    refine wp_aload_n (pc := 81) dX5_goOn_81 rfl ?_
    refine wp_getI (pc := 82) dX5_goOn_82 fl_X5_96 rfl (TX5s_k th) ?_
    refine wp_iconst (v := 1) (pc := 85) dX5_goOn_85 (by decide) ?_
    refine wp_iadd (pc := 86) dX5_goOn_86 ?_
    refine wp_putI (pc := 87) dX5_goOn_87 fl_X5_55 rfl rfl (TX5s_k th) ?_
    refine wp_iload_n (pc := 90) dX5_goOn_90 rfl ?_
    refine csB [.int r10] [] (pc := 91) dX5_goOn_91 ml_X5_221 st_X5_isLetter rfl rfl (Nat.le_of_ble_eq_true rfl) (Nat.le_of_ble_eq_true rfl) (wB.mono (fun r13 mi14 ml15 F => ?_) F)
    refine b_eq (tgt := 140) (pc := 94) dX5_goOn_94 (by decide) (fun c16 => ?_) (fun c16 => ?_)
    · have F := F.1 c16
      refine wp_iload_n (pc := 140) dX5_goOn_140 rfl ?_
      refine csB [.int r10] [] (pc := 141) dX5_goOn_141 ml_X5_224 st_X5_isDigit rfl rfl (Nat.le_of_ble_eq_true rfl) (Nat.le_of_ble_eq_true rfl) (wB.mono (fun r17 mi18 ml19 F => ?_) F)
      refine b_eq (tgt := 154) (pc := 144) dX5_goOn_144 (by decide) (fun c20 => ?_) (fun c20 => ?_)
      · have F := F.1 c20
        refine wp_aload_n (pc := 154) dX5_goOn_154 rfl ?_
        refine wp_iload_n (pc := 155) dX5_goOn_155 rfl ?_
        refine wp_bipush (v := 59) (pc := 156) dX5_goOn_156 (by decide) ?_
        suffices J21 : ∀ v22 : Int32, v22 = (if r10 = 59 then (3 : Int32) else (4 : Int32)) → wp l M_X5_goOn (d + 1) 0 0 166 [some (.ref h), some (.int r10)] [.int v22, .ref h] 0 0 kd mi18 ml19 mr _ by
            refine wp_icmp_ne (tgt := 165) (pc := 158) dX5_goOn_158 (by decide) (fun c23 => ?_) (fun c23 => ?_)
            · refine wp_iconst (v := 4) (pc := 165) dX5_goOn_165 (by decide) ?_
              exact J21 _ (by simp only [c23, if_true, if_false, decide_true, decide_false, Bool.not_true, Bool.not_false, Bool.true_and, Bool.false_and, Bool.true_or, Bool.false_or, b2i_t, b2i_f, ite_true, ite_false, not_true_eq_false, not_false_eq_true, reduceCtorEq, decide_eq_true_eq])
            · refine wp_iconst (v := 3) (pc := 161) dX5_goOn_161 (by decide) ?_
              refine wp_goto (tgt := 166) (pc := 162) dX5_goOn_162 (by decide) ?_
              exact J21 _ (by simp only [eq_true c23, if_true, if_false, decide_true, decide_false, Bool.not_true, Bool.not_false, Bool.true_and, Bool.false_and, Bool.true_or, Bool.false_or, b2i_t, b2i_f, ite_true, ite_false, not_true_eq_false, not_false_eq_true, reduceCtorEq, decide_eq_true_eq])
        intro v22 ev22
        subst ev22
        refine wp_putI (pc := 166) dX5_goOn_166 fl_X5_74 rfl rfl (TX5s_k th) ?_
        exact r_V (pc := 169) dX5_goOn_169 rfl F
      · have F := F.2 c20
        refine wp_aload_n (pc := 147) dX5_goOn_147 rfl ?_
        refine cvV [] [] (pc := 148) dX5_goOn_148 ml_X5_227 iv_X5_readDigits (TX5s_k th) (cl_X5 rfl) rfl rfl (Nat.le_of_ble_eq_true rfl) (Nat.le_of_ble_eq_true rfl) (wV.mono (fun mi25 ml26 F => ?_) F)
        refine wp_goto (tgt := 169) (pc := 151) dX5_goOn_151 (by decide) ?_
        exact r_V (pc := 169) dX5_goOn_169 rfl F
    · have F := F.2 c16
      refine wp_aload_n (pc := 97) dX5_goOn_97 rfl ?_
      refine wp_iconst (v := 1) (pc := 98) dX5_goOn_98 (by decide) ?_
      refine wp_putI (pc := 99) dX5_goOn_99 fl_X5_74 rfl rfl (TX5s_k th) ?_
      exact wp_less (L' := [some (.ref h), none]) ⟨rfl, trivial⟩ F
  · have F := F.2 c9
    refine wp_aload_n (pc := 65) dX5_goOn_65 rfl ?_
    refine wp_iconst (v := 0) (pc := 66) dX5_goOn_66 (by decide) ?_
    refine wp_putI (pc := 67) dX5_goOn_67 fl_X5_74 rfl rfl (TX5s_k th) ?_
    exact r_V (pc := 70) dX5_goOn_70 rfl F
theorem w_X5_goOn_102 {l : Launch} {d : Nat} {kd : pm_K} {mr : pm_R} {h : Nat}  {mi : pm_I} {ml : pm_L} {K : pm_I → pm_L → Prop} (th : TX5s kd mr h)
    (F : (((mi h 1) ≤ (mi h 3) → K mi ml) ∧ (¬ (mi h 1) ≤ (mi h 3) → wI l M_X5_byteAt d [.ref h, .int (mi h 3)] kd mr mi ml (fun r28 mi29 ml30 => wB l M_X5_isLetter d [.int r28] kd mr mi29 ml30 (fun r31 mi32 ml33 => ((r31 = false → K mi32 ml33) ∧ (r31 = true → c_X5_goOn_102 l (d + 1) kd mr h  (pm_up mi32 h 3 ((mi32 h 3) + 1)) ml33 K))))))) :
    c_X5_goOn_102 l (d + 1) kd mr h mi ml K := by
  show wp l M_X5_goOn (d + 1) 0 0 102 [some (.ref h), none] [] 0 0 kd mi ml mr _
  refine wp_aload_n (pc := 102) dX5_goOn_102 rfl ?_
  refine wp_getI (pc := 103) dX5_goOn_103 fl_X5_55 rfl (TX5s_k th) ?_
  refine wp_aload_n (pc := 106) dX5_goOn_106 rfl ?_
  refine wp_getI (pc := 107) dX5_goOn_107 fl_X5_45 rfl (TX5s_k th) ?_
  refine wp_icmp_ge (tgt := 169) (pc := 110) dX5_goOn_110 (by decide) (fun c27 => ?_) (fun c27 => ?_)
  · have F := F.1 c27
    exact r_V (pc := 169) dX5_goOn_169 rfl F
  · have F := F.2 c27
    refine wp_aload_n (pc := 113) dX5_goOn_113 rfl ?_
    refine wp_aload_n (pc := 114) dX5_goOn_114 rfl ?_
    refine wp_getI (pc := 115) dX5_goOn_115 fl_X5_55 rfl (TX5s_k th) ?_
    refine cvI [.int (mi h 3)] [] (pc := 118) dX5_goOn_118 ml_X5_210 iv_X5_byteAt (TX5s_k th) (cl_X5 rfl) rfl rfl (Nat.le_of_ble_eq_true rfl) (Nat.le_of_ble_eq_true rfl) (wI.mono (fun r28 mi29 ml30 F => ?_) F)
    refine csB [.int r28] [] (pc := 121) dX5_goOn_121 ml_X5_221 st_X5_isLetter rfl rfl (Nat.le_of_ble_eq_true rfl) (Nat.le_of_ble_eq_true rfl) (wB.mono (fun r31 mi32 ml33 F => ?_) F)
    refine b_eq (tgt := 169) (pc := 124) dX5_goOn_124 (by decide) (fun c34 => ?_) (fun c34 => ?_)
    · have F := F.1 c34
      exact r_V (pc := 169) dX5_goOn_169 rfl F
    · have F := F.2 c34
      refine wp_aload_n (pc := 127) dX5_goOn_127 rfl ?_
      refine wp_dup (pc := 128) dX5_goOn_128 rfl ?_
      refine wp_getI (pc := 129) dX5_goOn_129 fl_X5_55 rfl (TX5s_k th) ?_
      refine wp_iconst (v := 1) (pc := 132) dX5_goOn_132 (by decide) ?_
      refine wp_iadd (pc := 133) dX5_goOn_133 ?_
      refine wp_putI (pc := 134) dX5_goOn_134 fl_X5_55 rfl rfl (TX5s_k th) ?_
      refine wp_goto (tgt := 102) (pc := 137) dX5_goOn_137 (by decide) ?_
      exact wp_less (L' := [some (.ref h), none]) ⟨rfl, trivial⟩ F
/-- goOn()V -/
theorem w_X5_goOn {l : Launch} {d : Nat} {kd : pm_K} {mr : pm_R} {h : Nat}  {mi : pm_I} {ml : pm_L} {K : pm_I → pm_L → Prop} (th : TX5s kd mr h)
    (F : c_X5_goOn_8 l (d + 1) kd mr h  (pm_up mi h 2 (mi h 3)) ml K) :
    wV l M_X5_goOn (d + 1) [.ref h] kd mr mi ml K := by
  show wp l M_X5_goOn (d + 1) 0 0 0 [some (.ref h), none] [] 0 0 kd mi ml mr _
  refine wp_aload_n (pc := 0) dX5_goOn_0 rfl ?_
  refine wp_aload_n (pc := 1) dX5_goOn_1 rfl ?_
  refine wp_getI (pc := 2) dX5_goOn_2 fl_X5_55 rfl (TX5s_k th) ?_
  refine wp_putI (pc := 5) dX5_goOn_5 fl_X5_96 rfl rfl (TX5s_k th) ?_
  exact wp_less (L' := [some (.ref h), none]) ⟨rfl, trivial⟩ F
/-- byteAt(I)I -/
theorem w_X5_byteAt {l : Launch} {d : Nat} {kd : pm_K} {mr : pm_R} {h : Nat} {x1 : Int32} {mi : pm_I} {ml : pm_L} {K : Int32 → pm_I → pm_L → Prop} (th : TX5s kd mr h)
    (F : ((x1 < 0 → K 0 mi ml) ∧ (¬ x1 < 0 → ((600 ≤ x1 → K 0 mi ml) ∧ (¬ 600 ≤ x1 → vp_in x1 600 ∧ K ((mi (h + 1) (Int32.toNatClampNeg x1)) &&& 255) mi ml))))) :
    wI l M_X5_byteAt d [.ref h, .int x1] kd mr mi ml K := by
  show wp l M_X5_byteAt d 0 0 0 [some (.ref h), some (.int x1)] [] 0 0 kd mi ml mr _
  refine wp_iload_n (pc := 0) dX5_byteAt_0 rfl ?_
  refine wp_if_lt (tgt := 24) (pc := 1) dX5_byteAt_1 (by decide) (fun c1 => ?_) (fun c1 => ?_)
  · have F := F.1 c1
    refine wp_iconst (v := 0) (pc := 24) dX5_byteAt_24 (by decide) ?_
    exact r_I (pc := 25) dX5_byteAt_25 rfl F
  · have F := F.2 c1
    refine wp_iload_n (pc := 4) dX5_byteAt_4 rfl ?_
    refine wp_sipush (v := 600) (pc := 5) dX5_byteAt_5 (by decide) ?_
    refine wp_icmp_ge (tgt := 24) (pc := 8) dX5_byteAt_8 (by decide) (fun c2 => ?_) (fun c2 => ?_)
    · have F := F.1 c2
      refine wp_iconst (v := 0) (pc := 24) dX5_byteAt_24 (by decide) ?_
      exact r_I (pc := 25) dX5_byteAt_25 rfl F
    · have F := F.2 c2
      refine wp_aload_n (pc := 11) dX5_byteAt_11 rfl ?_
      refine wp_getR (pc := 12) dX5_byteAt_12 fl_X5_9 rfl (TX5s_k th) (TX5s_r0 th) ?_
      refine wp_iload_n (pc := 15) dX5_byteAt_15 rfl ?_
      refine wp_bald (pc := 16) dX5_byteAt_16 (TX5s_a0 th) F.1 ?_
      have F := F.2
      refine wp_sipush (v := 255) (pc := 17) dX5_byteAt_17 (by decide) ?_
      refine wp_iand (pc := 20) dX5_byteAt_20 ?_
      refine wp_goto (tgt := 25) (pc := 21) dX5_byteAt_21 (by decide) ?_
      exact r_I (pc := 25) dX5_byteAt_25 rfl F
/-- isBlank(I)Z -/
theorem w_X5_isBlank {l : Launch} {d : Nat} {kd : pm_K} {mr : pm_R}  {x0 : Int32} {mi : pm_I} {ml : pm_L} {K : Bool → pm_I → pm_L → Prop} 
    (F : K (decide (x0 = 10) || (decide (x0 = 32))) mi ml) :
    wB l M_X5_isBlank d [.int x0] kd mr mi ml K := by
  show wp l M_X5_isBlank d 0 0 0 [some (.int x0)] [] 0 0 kd mi ml mr _
  refine wp_iload_n (pc := 0) dX5_isBlank_0 rfl ?_
  refine wp_bipush (v := 10) (pc := 1) dX5_isBlank_1 (by decide) ?_
  suffices J1 : ∀ v2 : Int32, v2 = (b2i (decide (x0 = 10) || (decide (x0 = 32)))) → wp l M_X5_isBlank d 0 0 17 [some (.int x0)] [.int v2] 0 0 kd mi ml mr _ by
      refine wp_icmp_eq (tgt := 12) (pc := 3) dX5_isBlank_3 (by decide) (fun c3 => ?_) (fun c3 => ?_)
      · refine wp_iconst (v := 1) (pc := 12) dX5_isBlank_12 (by decide) ?_
        refine wp_goto (tgt := 17) (pc := 13) dX5_isBlank_13 (by decide) ?_
        exact J1 _ (by simp only [eq_true c3, if_true, if_false, decide_true, decide_false, Bool.not_true, Bool.not_false, Bool.true_and, Bool.false_and, Bool.true_or, Bool.false_or, b2i_t, b2i_f, ite_true, ite_false, not_true_eq_false, not_false_eq_true, reduceCtorEq, decide_eq_true_eq])
      · refine wp_iload_n (pc := 6) dX5_isBlank_6 rfl ?_
        refine wp_bipush (v := 32) (pc := 7) dX5_isBlank_7 (by decide) ?_
        refine wp_icmp_ne (tgt := 16) (pc := 9) dX5_isBlank_9 (by decide) (fun c4 => ?_) (fun c4 => ?_)
        · refine wp_iconst (v := 0) (pc := 16) dX5_isBlank_16 (by decide) ?_
          exact J1 _ (by simp only [c3, c4, if_true, if_false, decide_true, decide_false, Bool.not_true, Bool.not_false, Bool.true_and, Bool.false_and, Bool.true_or, Bool.false_or, b2i_t, b2i_f, ite_true, ite_false, not_true_eq_false, not_false_eq_true, reduceCtorEq, decide_eq_true_eq])
        · refine wp_iconst (v := 1) (pc := 12) dX5_isBlank_12 (by decide) ?_
          refine wp_goto (tgt := 17) (pc := 13) dX5_isBlank_13 (by decide) ?_
          exact J1 _ (by simp only [c3, eq_true c4, if_true, if_false, decide_true, decide_false, Bool.not_true, Bool.not_false, Bool.true_and, Bool.false_and, Bool.true_or, Bool.false_or, b2i_t, b2i_f, ite_true, ite_false, not_true_eq_false, not_false_eq_true, reduceCtorEq, decide_eq_true_eq])
  intro v2 ev2
  subst ev2
  exact r_B (pc := 17) dX5_isBlank_17 rfl F
/-- isLetter(I)Z -/
theorem w_X5_isLetter {l : Launch} {d : Nat} {kd : pm_K} {mr : pm_R}  {x0 : Int32} {mi : pm_I} {ml : pm_L} {K : Bool → pm_I → pm_L → Prop} 
    (F : K (!decide (x0 < 97) && (!decide (122 < x0))) mi ml) :
    wB l M_X5_isLetter d [.int x0] kd mr mi ml K := by
  show wp l M_X5_isLetter d 0 0 0 [some (.int x0)] [] 0 0 kd mi ml mr _
  refine wp_iload_n (pc := 0) dX5_isLetter_0 rfl ?_
  refine wp_bipush (v := 97) (pc := 1) dX5_isLetter_1 (by decide) ?_
  suffices J1 : ∀ v2 : Int32, v2 = (b2i (!decide (x0 < 97) && (!decide (122 < x0)))) → wp l M_X5_isLetter d 0 0 17 [some (.int x0)] [.int v2] 0 0 kd mi ml mr _ by
      refine wp_icmp_lt (tgt := 16) (pc := 3) dX5_isLetter_3 (by decide) (fun c3 => ?_) (fun c3 => ?_)
      · refine wp_iconst (v := 0) (pc := 16) dX5_isLetter_16 (by decide) ?_
        exact J1 _ (by simp only [eq_true c3, if_true, if_false, decide_true, decide_false, Bool.not_true, Bool.not_false, Bool.true_and, Bool.false_and, Bool.true_or, Bool.false_or, b2i_t, b2i_f, ite_true, ite_false, not_true_eq_false, not_false_eq_true, reduceCtorEq, decide_eq_true_eq])
      · refine wp_iload_n (pc := 6) dX5_isLetter_6 rfl ?_
        refine wp_bipush (v := 122) (pc := 7) dX5_isLetter_7 (by decide) ?_
        refine wp_icmp_gt (tgt := 16) (pc := 9) dX5_isLetter_9 (by decide) (fun c4 => ?_) (fun c4 => ?_)
        · refine wp_iconst (v := 0) (pc := 16) dX5_isLetter_16 (by decide) ?_
          exact J1 _ (by simp only [c3, eq_true c4, if_true, if_false, decide_true, decide_false, Bool.not_true, Bool.not_false, Bool.true_and, Bool.false_and, Bool.true_or, Bool.false_or, b2i_t, b2i_f, ite_true, ite_false, not_true_eq_false, not_false_eq_true, reduceCtorEq, decide_eq_true_eq])
        · refine wp_iconst (v := 1) (pc := 12) dX5_isLetter_12 (by decide) ?_
          refine wp_goto (tgt := 17) (pc := 13) dX5_isLetter_13 (by decide) ?_
          exact J1 _ (by simp only [c3, c4, if_true, if_false, decide_true, decide_false, Bool.not_true, Bool.not_false, Bool.true_and, Bool.false_and, Bool.true_or, Bool.false_or, b2i_t, b2i_f, ite_true, ite_false, not_true_eq_false, not_false_eq_true, reduceCtorEq, decide_eq_true_eq])
  intro v2 ev2
  subst ev2
  exact r_B (pc := 17) dX5_isLetter_17 rfl F
/-- isDigit(I)Z -/
theorem w_X5_isDigit {l : Launch} {d : Nat} {kd : pm_K} {mr : pm_R}  {x0 : Int32} {mi : pm_I} {ml : pm_L} {K : Bool → pm_I → pm_L → Prop} 
    (F : K (!decide (x0 < 48) && (!decide (57 < x0))) mi ml) :
    wB l M_X5_isDigit d [.int x0] kd mr mi ml K := by
  show wp l M_X5_isDigit d 0 0 0 [some (.int x0)] [] 0 0 kd mi ml mr _
  refine wp_iload_n (pc := 0) dX5_isDigit_0 rfl ?_
  refine wp_bipush (v := 48) (pc := 1) dX5_isDigit_1 (by decide) ?_
  suffices J1 : ∀ v2 : Int32, v2 = (b2i (!decide (x0 < 48) && (!decide (57 < x0)))) → wp l M_X5_isDigit d 0 0 17 [some (.int x0)] [.int v2] 0 0 kd mi ml mr _ by
      refine wp_icmp_lt (tgt := 16) (pc := 3) dX5_isDigit_3 (by decide) (fun c3 => ?_) (fun c3 => ?_)
      · refine wp_iconst (v := 0) (pc := 16) dX5_isDigit_16 (by decide) ?_
        exact J1 _ (by simp only [eq_true c3, if_true, if_false, decide_true, decide_false, Bool.not_true, Bool.not_false, Bool.true_and, Bool.false_and, Bool.true_or, Bool.false_or, b2i_t, b2i_f, ite_true, ite_false, not_true_eq_false, not_false_eq_true, reduceCtorEq, decide_eq_true_eq])
      · refine wp_iload_n (pc := 6) dX5_isDigit_6 rfl ?_
        refine wp_bipush (v := 57) (pc := 7) dX5_isDigit_7 (by decide) ?_
        refine wp_icmp_gt (tgt := 16) (pc := 9) dX5_isDigit_9 (by decide) (fun c4 => ?_) (fun c4 => ?_)
        · refine wp_iconst (v := 0) (pc := 16) dX5_isDigit_16 (by decide) ?_
          exact J1 _ (by simp only [c3, eq_true c4, if_true, if_false, decide_true, decide_false, Bool.not_true, Bool.not_false, Bool.true_and, Bool.false_and, Bool.true_or, Bool.false_or, b2i_t, b2i_f, ite_true, ite_false, not_true_eq_false, not_false_eq_true, reduceCtorEq, decide_eq_true_eq])
        · refine wp_iconst (v := 1) (pc := 12) dX5_isDigit_12 (by decide) ?_
          refine wp_goto (tgt := 17) (pc := 13) dX5_isDigit_13 (by decide) ?_
          exact J1 _ (by simp only [c3, c4, if_true, if_false, decide_true, decide_false, Bool.not_true, Bool.not_false, Bool.true_and, Bool.false_and, Bool.true_or, Bool.false_or, b2i_t, b2i_f, ite_true, ite_false, not_true_eq_false, not_false_eq_true, reduceCtorEq, decide_eq_true_eq])
  intro v2 ev2
  subst ev2
  exact r_B (pc := 17) dX5_isDigit_17 rfl F
def c_X5_readDigits_76 (l : Launch) (d : Nat) (kd : pm_K) (mr : pm_R) (h : Nat)  (mi : pm_I) (ml : pm_L) (K : pm_I → pm_L → Prop) : Prop := wp l M_X5_readDigits d 0 0 76 [some (.ref h)] [] 0 0 kd mi ml mr (qV kd mr K)
def c_X5_readDigits_15 (l : Launch) (d : Nat) (kd : pm_K) (mr : pm_R) (h : Nat)  (mi : pm_I) (ml : pm_L) (K : pm_I → pm_L → Prop) : Prop := wp l M_X5_readDigits d 0 0 15 [some (.ref h)] [] 0 0 kd mi ml mr (qV kd mr K)
theorem w_X5_readDigits_15 {l : Launch} {d : Nat} {kd : pm_K} {mr : pm_R} {h : Nat}  {mi : pm_I} {ml : pm_L} {K : pm_I → pm_L → Prop} (th : TX5s kd mr h)
    (F : (((mi h 1) ≤ (mi h 3) → c_X5_readDigits_76 l (d + 1) kd mr h  mi ml K) ∧ (¬ (mi h 1) ≤ (mi h 3) → wI l M_X5_byteAt d [.ref h, .int (mi h 3)] kd mr mi ml (fun r5 mi6 ml7 => wB l M_X5_isDigit d [.int r5] kd mr mi6 ml7 (fun r8 mi9 ml10 => ((r8 = false → c_X5_readDigits_76 l (d + 1) kd mr h  mi9 ml10 K) ∧ (r8 = true → wI l M_X5_byteAt d [.ref h, .int (mi9 h 3)] kd mr mi9 ml10 (fun r12 mi13 ml14 => c_X5_readDigits_15 l (d + 1) kd mr h  (pm_up (pm_up mi13 h 5 (((10 * (mi9 h 5)) + r12) - 48)) h 3 ((mi13 h 3) + 1)) ml14 K)))))))) :
    c_X5_readDigits_15 l (d + 1) kd mr h mi ml K := by
  show wp l M_X5_readDigits (d + 1) 0 0 15 [some (.ref h)] [] 0 0 kd mi ml mr _
  refine wp_aload_n (pc := 15) dX5_readDigits_15 rfl ?_
  refine wp_getI (pc := 16) dX5_readDigits_16 fl_X5_55 rfl (TX5s_k th) ?_
  refine wp_aload_n (pc := 19) dX5_readDigits_19 rfl ?_
  refine wp_getI (pc := 20) dX5_readDigits_20 fl_X5_45 rfl (TX5s_k th) ?_
  refine wp_icmp_ge (tgt := 76) (pc := 23) dX5_readDigits_23 (by decide) (fun c4 => ?_) (fun c4 => ?_)
  · have F := F.1 c4
    exact wp_less (L' := [some (.ref h)]) ⟨rfl, trivial⟩ F
  · have F := F.2 c4
    refine wp_aload_n (pc := 26) dX5_readDigits_26 rfl ?_
    refine wp_aload_n (pc := 27) dX5_readDigits_27 rfl ?_
    refine wp_getI (pc := 28) dX5_readDigits_28 fl_X5_55 rfl (TX5s_k th) ?_
    refine cvI [.int (mi h 3)] [] (pc := 31) dX5_readDigits_31 ml_X5_210 iv_X5_byteAt (TX5s_k th) (cl_X5 rfl) rfl rfl (Nat.le_of_ble_eq_true rfl) (Nat.le_of_ble_eq_true rfl) (wI.mono (fun r5 mi6 ml7 F => ?_) F)
    refine csB [.int r5] [] (pc := 34) dX5_readDigits_34 ml_X5_224 st_X5_isDigit rfl rfl (Nat.le_of_ble_eq_true rfl) (Nat.le_of_ble_eq_true rfl) (wB.mono (fun r8 mi9 ml10 F => ?_) F)
    refine b_eq (tgt := 76) (pc := 37) dX5_readDigits_37 (by decide) (fun c11 => ?_) (fun c11 => ?_)
    · have F := F.1 c11
      exact wp_less (L' := [some (.ref h)]) ⟨rfl, trivial⟩ F
    · have F := F.2 c11
      refine wp_aload_n (pc := 40) dX5_readDigits_40 rfl ?_
      refine wp_bipush (v := 10) (pc := 41) dX5_readDigits_41 (by decide) ?_
      refine wp_aload_n (pc := 43) dX5_readDigits_43 rfl ?_
      refine wp_getI (pc := 44) dX5_readDigits_44 fl_X5_214 rfl (TX5s_k th) ?_
      refine wp_imul (pc := 47) dX5_readDigits_47 ?_
      refine wp_aload_n (pc := 48) dX5_readDigits_48 rfl ?_
      refine wp_aload_n (pc := 49) dX5_readDigits_49 rfl ?_
      refine wp_getI (pc := 50) dX5_readDigits_50 fl_X5_55 rfl (TX5s_k th) ?_
      refine cvI [.int (mi9 h 3)] [.int (10 * (mi9 h 5)), .ref h] (pc := 53) dX5_readDigits_53 ml_X5_210 iv_X5_byteAt (TX5s_k th) (cl_X5 rfl) rfl rfl (Nat.le_of_ble_eq_true rfl) (Nat.le_of_ble_eq_true rfl) (wI.mono (fun r12 mi13 ml14 F => ?_) F)
      refine wp_iadd (pc := 56) dX5_readDigits_56 ?_
      refine wp_bipush (v := 48) (pc := 57) dX5_readDigits_57 (by decide) ?_
      refine wp_isub (pc := 59) dX5_readDigits_59 ?_
      refine wp_putI (pc := 60) dX5_readDigits_60 fl_X5_214 rfl rfl (TX5s_k th) ?_
      refine wp_aload_n (pc := 63) dX5_readDigits_63 rfl ?_
      refine wp_dup (pc := 64) dX5_readDigits_64 rfl ?_
      refine wp_getI (pc := 65) dX5_readDigits_65 fl_X5_55 rfl (TX5s_k th) ?_
      refine t_I (show ((pm_up mi13 h 5 (((10 * (mi9 h 5)) + r12) - 48)) h 3) = (mi13 h 3) from pm_up_j _ _ (by decide)) ?_
      refine wp_iconst (v := 1) (pc := 68) dX5_readDigits_68 (by decide) ?_
      refine wp_iadd (pc := 69) dX5_readDigits_69 ?_
      refine wp_putI (pc := 70) dX5_readDigits_70 fl_X5_55 rfl rfl (TX5s_k th) ?_
      refine wp_goto (tgt := 15) (pc := 73) dX5_readDigits_73 (by decide) ?_
      exact wp_less (L' := [some (.ref h)]) ⟨rfl, trivial⟩ F
theorem w_X5_readDigits_76 {l : Launch} {d : Nat} {kd : pm_K} {mr : pm_R} {h : Nat}  {mi : pm_I} {ml : pm_L} {K : pm_I → pm_L → Prop} (th : TX5s kd mr h)
    (F : K (pm_up mi h 4 (if 2 < ((mi h 3) - (mi h 2)) then (4 : Int32) else (2 : Int32))) ml) :
    c_X5_readDigits_76 l (d + 1) kd mr h mi ml K := by
  show wp l M_X5_readDigits (d + 1) 0 0 76 [some (.ref h)] [] 0 0 kd mi ml mr _
  refine wp_aload_n (pc := 76) dX5_readDigits_76 rfl ?_
  refine wp_aload_n (pc := 77) dX5_readDigits_77 rfl ?_
  refine wp_getI (pc := 78) dX5_readDigits_78 fl_X5_55 rfl (TX5s_k th) ?_
  refine wp_aload_n (pc := 81) dX5_readDigits_81 rfl ?_
  refine wp_getI (pc := 82) dX5_readDigits_82 fl_X5_96 rfl (TX5s_k th) ?_
  refine wp_isub (pc := 85) dX5_readDigits_85 ?_
  refine wp_iconst (v := 2) (pc := 86) dX5_readDigits_86 (by decide) ?_
  suffices J15 : ∀ v16 : Int32, v16 = (if 2 < ((mi h 3) - (mi h 2)) then (4 : Int32) else (2 : Int32)) → wp l M_X5_readDigits (d + 1) 0 0 95 [some (.ref h)] [.int v16, .ref h] 0 0 kd mi ml mr _ by
      refine wp_icmp_gt (tgt := 94) (pc := 87) dX5_readDigits_87 (by decide) (fun c17 => ?_) (fun c17 => ?_)
      · refine wp_iconst (v := 4) (pc := 94) dX5_readDigits_94 (by decide) ?_
        exact J15 _ (by simp only [eq_true c17, if_true, if_false, decide_true, decide_false, Bool.not_true, Bool.not_false, Bool.true_and, Bool.false_and, Bool.true_or, Bool.false_or, b2i_t, b2i_f, ite_true, ite_false, not_true_eq_false, not_false_eq_true, reduceCtorEq, decide_eq_true_eq])
      · refine wp_iconst (v := 2) (pc := 90) dX5_readDigits_90 (by decide) ?_
        refine wp_goto (tgt := 95) (pc := 91) dX5_readDigits_91 (by decide) ?_
        exact J15 _ (by simp only [c17, if_true, if_false, decide_true, decide_false, Bool.not_true, Bool.not_false, Bool.true_and, Bool.false_and, Bool.true_or, Bool.false_or, b2i_t, b2i_f, ite_true, ite_false, not_true_eq_false, not_false_eq_true, reduceCtorEq, decide_eq_true_eq])
  intro v16 ev16
  subst ev16
  refine wp_putI (pc := 95) dX5_readDigits_95 fl_X5_74 rfl rfl (TX5s_k th) ?_
  exact r_V (pc := 98) dX5_readDigits_98 rfl F
/-- readDigits()V -/
theorem w_X5_readDigits {l : Launch} {d : Nat} {kd : pm_K} {mr : pm_R} {h : Nat}  {mi : pm_I} {ml : pm_L} {K : pm_I → pm_L → Prop} (th : TX5s kd mr h)
    (F : wI l M_X5_byteAt d [.ref h, .int (mi h 2)] kd mr mi ml (fun r1 mi2 ml3 => c_X5_readDigits_15 l (d + 1) kd mr h  (pm_up mi2 h 5 (r1 - 48)) ml3 K)) :
    wV l M_X5_readDigits (d + 1) [.ref h] kd mr mi ml K := by
  show wp l M_X5_readDigits (d + 1) 0 0 0 [some (.ref h)] [] 0 0 kd mi ml mr _
  refine wp_aload_n (pc := 0) dX5_readDigits_0 rfl ?_
  refine wp_aload_n (pc := 1) dX5_readDigits_1 rfl ?_
  refine wp_aload_n (pc := 2) dX5_readDigits_2 rfl ?_
  refine wp_getI (pc := 3) dX5_readDigits_3 fl_X5_96 rfl (TX5s_k th) ?_
  refine cvI [.int (mi h 2)] [.ref h] (pc := 6) dX5_readDigits_6 ml_X5_210 iv_X5_byteAt (TX5s_k th) (cl_X5 rfl) rfl rfl (Nat.le_of_ble_eq_true rfl) (Nat.le_of_ble_eq_true rfl) (wI.mono (fun r1 mi2 ml3 F => ?_) F)
  refine wp_bipush (v := 48) (pc := 9) dX5_readDigits_9 (by decide) ?_
  refine wp_isub (pc := 11) dX5_readDigits_11 ?_
  refine wp_putI (pc := 12) dX5_readDigits_12 fl_X5_214 rfl rfl (TX5s_k th) ?_
  exact wp_less (L' := [some (.ref h)]) ⟨rfl, trivial⟩ F
/-- readCityLine()V -/
theorem w_X5_readCityLine {l : Launch} {d : Nat} {kd : pm_K} {mr : pm_R} {h : Nat}  {mi : pm_I} {ml : pm_L} {K : pm_I → pm_L → Prop} (th : TX5s kd mr h)
    (F : wI l M_X5_takeWord d [.ref h, .retAddr 0] kd mr mi ml (fun r1 mi2 ml3 => (((r1).toInt = -1 → K mi2 ml3) ∧ (¬ (r1).toInt = -1 → (((r1).toInt = 9 → wI l M_X5_takeNumber d [.ref h, .int 2, .int 8] kd mr mi2 ml3 (fun r6 mi7 ml8 => wI l M_X5_takeNumber d [.ref h, .int 2, .int 8] kd mr (pm_up mi7 (h + 2) 0 r6) ml8 (fun r9 mi10 ml11 => K (pm_up mi10 (h + 2) 1 r9) ml11))) ∧ (¬ (r1).toInt = 9 → (((r1).toInt = 10 → wI l M_X5_takeNumber d [.ref h, .int 0, .int 4] kd mr mi2 ml3 (fun r13 mi14 ml15 => K (pm_up mi14 (h + 2) 2 r13) ml15)) ∧ (¬ (r1).toInt = 10 → (((r1).toInt = 11 → wV l M_X5_readValue d [.ref h] kd mr mi2 ml3 (fun mi18 ml19 => K mi18 ml19)) ∧ (¬ (r1).toInt = 11 → wV l M_X5_readPlace d [.ref h, .int r1, .int (mi h 2)] kd mr mi2 ml3 (fun mi21 ml22 => K mi21 ml22))))))))))) :
    wV l M_X5_readCityLine (d + 1) [.ref h] kd mr mi ml K := by
  show wp l M_X5_readCityLine (d + 1) 0 0 0 [some (.ref h), none, none] [] 0 0 kd mi ml mr _
  refine wp_aload_n (pc := 0) dX5_readCityLine_0 rfl ?_
  refine wp_getI (pc := 1) dX5_readCityLine_1 fl_X5_96 rfl (TX5s_k th) ?_
  refine wp_istore_n (pc := 4) dX5_readCityLine_4 (Nat.le_of_ble_eq_true rfl) rfl ?_
  show wp l M_X5_readCityLine (d + 1) 0 0 _ [some (.ref h), some (.int (mi h 2)), none] _ 0 0 kd _ _ mr _
  refine wp_aload_n (pc := 5) dX5_readCityLine_5 rfl ?_
  refine wp_ldcS (i := 0) (by decide) (pc := 6) dX5_readCityLine_6 rfl ?_
  refine cvI [.retAddr 0] [] (pc := 8) dX5_readCityLine_8 ml_X5_101 iv_X5_takeWord (TX5s_k th) (cl_X5 rfl) rfl rfl (Nat.le_of_ble_eq_true rfl) (Nat.le_of_ble_eq_true rfl) (wI.mono (fun r1 mi2 ml3 F => ?_) F)
  refine wp_istore_n (pc := 11) dX5_readCityLine_11 (Nat.le_of_ble_eq_true rfl) rfl ?_
  show wp l M_X5_readCityLine (d + 1) 0 0 _ [some (.ref h), some (.int (mi h 2)), some (.int r1)] _ 0 0 kd _ _ mr _
  refine wp_iload_n (pc := 12) dX5_readCityLine_12 rfl ?_
  by_cases c4 : (r1).toInt = -1
  · have F := F.1 c4
    refine wp_lookup (tgt := 56) (off := 43) (pc := 13) dX5_readCityLine_13 (by decide) (by rw [c4]; decide) (by decide) ?_
    refine wp_goto (tgt := 119) (pc := 56) dX5_readCityLine_56 (by decide) ?_
    exact r_V (pc := 119) dX5_readCityLine_119 rfl F
  have F := F.2 c4
  by_cases c5 : (r1).toInt = 9
  · have F := F.1 c5
    refine wp_lookup (tgt := 59) (off := 46) (pc := 13) dX5_readCityLine_13 (by decide) (by rw [c5]; decide) (by decide) ?_
    refine wp_aload_n (pc := 59) dX5_readCityLine_59 rfl ?_
    refine wp_getR (pc := 60) dX5_readCityLine_60 fl_X5_18 rfl (TX5s_k th) (TX5s_r8 th) ?_
    refine wp_aload_n (pc := 63) dX5_readCityLine_63 rfl ?_
    refine wp_iconst (v := 2) (pc := 64) dX5_readCityLine_64 (by decide) ?_
    refine wp_bipush (v := 8) (pc := 65) dX5_readCityLine_65 (by decide) ?_
    refine cvI [.int 2, .int 8] [.ref (h + 2)] (pc := 67) dX5_readCityLine_67 ml_X5_105 iv_X5_takeNumber (TX5s_k th) (cl_X5 rfl) rfl rfl (Nat.le_of_ble_eq_true rfl) (Nat.le_of_ble_eq_true rfl) (wI.mono (fun r6 mi7 ml8 F => ?_) F)
    refine wp_putI (pc := 70) dX5_readCityLine_70 fl_X5_108 rfl rfl (TX0s_k (TX5s_a8 th)) ?_
    refine wp_aload_n (pc := 73) dX5_readCityLine_73 rfl ?_
    refine wp_getR (pc := 74) dX5_readCityLine_74 fl_X5_18 rfl (TX5s_k th) (TX5s_r8 th) ?_
    refine wp_aload_n (pc := 77) dX5_readCityLine_77 rfl ?_
    refine wp_iconst (v := 2) (pc := 78) dX5_readCityLine_78 (by decide) ?_
    refine wp_bipush (v := 8) (pc := 79) dX5_readCityLine_79 (by decide) ?_
    refine cvI [.int 2, .int 8] [.ref (h + 2)] (pc := 81) dX5_readCityLine_81 ml_X5_105 iv_X5_takeNumber (TX5s_k th) (cl_X5 rfl) rfl rfl (Nat.le_of_ble_eq_true rfl) (Nat.le_of_ble_eq_true rfl) (wI.mono (fun r9 mi10 ml11 F => ?_) F)
    refine wp_putI (pc := 84) dX5_readCityLine_84 fl_X5_111 rfl rfl (TX0s_k (TX5s_a8 th)) ?_
    refine wp_goto (tgt := 119) (pc := 87) dX5_readCityLine_87 (by decide) ?_
    exact r_V (pc := 119) dX5_readCityLine_119 rfl F
  have F := F.2 c5
  by_cases c12 : (r1).toInt = 10
  · have F := F.1 c12
    refine wp_lookup (tgt := 90) (off := 77) (pc := 13) dX5_readCityLine_13 (by decide) (by rw [c12]; decide) (by decide) ?_
    refine wp_aload_n (pc := 90) dX5_readCityLine_90 rfl ?_
    refine wp_getR (pc := 91) dX5_readCityLine_91 fl_X5_18 rfl (TX5s_k th) (TX5s_r8 th) ?_
    refine wp_aload_n (pc := 94) dX5_readCityLine_94 rfl ?_
    refine wp_iconst (v := 0) (pc := 95) dX5_readCityLine_95 (by decide) ?_
    refine wp_iconst (v := 4) (pc := 96) dX5_readCityLine_96 (by decide) ?_
    refine cvI [.int 0, .int 4] [.ref (h + 2)] (pc := 97) dX5_readCityLine_97 ml_X5_105 iv_X5_takeNumber (TX5s_k th) (cl_X5 rfl) rfl rfl (Nat.le_of_ble_eq_true rfl) (Nat.le_of_ble_eq_true rfl) (wI.mono (fun r13 mi14 ml15 F => ?_) F)
    refine wp_putI (pc := 100) dX5_readCityLine_100 fl_X5_114 rfl rfl (TX0s_k (TX5s_a8 th)) ?_
    refine wp_goto (tgt := 119) (pc := 103) dX5_readCityLine_103 (by decide) ?_
    exact r_V (pc := 119) dX5_readCityLine_119 rfl F
  have F := F.2 c12
  by_cases c16 : (r1).toInt = 11
  · have F := F.1 c16
    refine wp_lookup (tgt := 106) (off := 93) (pc := 13) dX5_readCityLine_13 (by decide) (by rw [c16]; decide) (by decide) ?_
    refine wp_aload_n (pc := 106) dX5_readCityLine_106 rfl ?_
    refine cvV [] [] (pc := 107) dX5_readCityLine_107 ml_X5_117 iv_X5_readValue (TX5s_k th) (cl_X5 rfl) rfl rfl (Nat.le_of_ble_eq_true rfl) (Nat.le_of_ble_eq_true rfl) (wV.mono (fun mi18 ml19 F => ?_) F)
    refine wp_goto (tgt := 119) (pc := 110) dX5_readCityLine_110 (by decide) ?_
    exact r_V (pc := 119) dX5_readCityLine_119 rfl F
  have F := F.2 c16
  refine wp_lookup (tgt := 113) (off := 100) (pc := 13) dX5_readCityLine_13 (by decide) (by have nc4 : ¬ (-1 : Int) = (r1).toInt := fun z => c4 z.symm; have nc5 : ¬ (9 : Int) = (r1).toInt := fun z => c5 z.symm; have nc12 : ¬ (10 : Int) = (r1).toInt := fun z => c12 z.symm; have nc16 : ¬ (11 : Int) = (r1).toInt := fun z => c16 z.symm; simp only [Op.lookupswitch.offset, nc4, nc5, nc12, nc16, if_false]) (by decide) ?_
  refine wp_aload_n (pc := 113) dX5_readCityLine_113 rfl ?_
  refine wp_iload_n (pc := 114) dX5_readCityLine_114 rfl ?_
  refine wp_iload_n (pc := 115) dX5_readCityLine_115 rfl ?_
  refine cvV [.int r1, .int (mi h 2)] [] (pc := 116) dX5_readCityLine_116 ml_X5_120 iv_X5_readPlace (TX5s_k th) (cl_X5 rfl) rfl rfl (Nat.le_of_ble_eq_true rfl) (Nat.le_of_ble_eq_true rfl) (wV.mono (fun mi21 ml22 F => ?_) F)
  exact r_V (pc := 119) dX5_readCityLine_119 rfl F
def c_X5_takeWord_24 (l : Launch) (d : Nat) (kd : pm_K) (mr : pm_R) (h : Nat) (k1 : Nat)  (mi : pm_I) (ml : pm_L) (K : Int32 → pm_I → pm_L → Prop) : Prop := wp l M_X5_takeWord d 0 0 24 [some (.ref h), none, none] [] 0 0 kd mi ml mr (qI kd mr K)
def c_X5_takeWord_25 (l : Launch) (d : Nat) (kd : pm_K) (mr : pm_R) (h : Nat) (k1 : Nat) (s0 : Int32) (mi : pm_I) (ml : pm_L) (K : Int32 → pm_I → pm_L → Prop) : Prop := wp l M_X5_takeWord d 0 0 25 [some (.ref h), none, none] [.int s0] 0 0 kd mi ml mr (qI kd mr K)
theorem w_X5_takeWord_25 {l : Launch} {d : Nat} {kd : pm_K} {mr : pm_R} {h : Nat} {k1 : Nat} {s0 : Int32} {mi : pm_I} {ml : pm_L} {K : Int32 → pm_I → pm_L → Prop} (th : TX5s kd mr h) (hS : k1 < 5)
    (F : ((¬ s0 = (-1) → wV l M_X5_goOn d [.ref h] kd mr mi ml (fun mi8 ml9 => K s0 mi8 ml9)) ∧ (s0 = (-1) → wV l M_X5_stick d [.ref h] kd mr mi ml (fun mi11 ml12 => K s0 mi11 ml12)))) :
    c_X5_takeWord_25 l (d + 1) kd mr h k1 s0 mi ml K := by
  show wp l M_X5_takeWord (d + 1) 0 0 25 [some (.ref h), none, none] [.int s0] 0 0 kd mi ml mr _
  refine wp_istore_n (pc := 25) dX5_takeWord_25 (Nat.le_of_ble_eq_true rfl) rfl ?_
  show wp l M_X5_takeWord (d + 1) 0 0 _ [some (.ref h), none, some (.int s0)] _ 0 0 kd _ _ mr _
  refine wp_iload_n (pc := 26) dX5_takeWord_26 rfl ?_
  refine wp_iconst (v := -1) (pc := 27) dX5_takeWord_27 (by decide) ?_
  refine wp_icmp_ne (tgt := 38) (pc := 28) dX5_takeWord_28 (by decide) (fun c6 => ?_) (fun c6 => ?_)
  · have F := F.1 c6
    refine wp_aload_n (pc := 38) dX5_takeWord_38 rfl ?_
    refine cvV [] [] (pc := 39) dX5_takeWord_39 ml_X5_71 iv_X5_goOn (TX5s_k th) (cl_X5 rfl) rfl rfl (Nat.le_of_ble_eq_true rfl) (Nat.le_of_ble_eq_true rfl) (wV.mono (fun mi8 ml9 F => ?_) F)
    refine wp_iload_n (pc := 42) dX5_takeWord_42 rfl ?_
    exact r_I (pc := 43) dX5_takeWord_43 rfl F
  · have F := F.2 c6
    refine wp_aload_n (pc := 31) dX5_takeWord_31 rfl ?_
    refine cvV [] [] (pc := 32) dX5_takeWord_32 ml_X5_194 iv_X5_stick (TX5s_k th) (cl_X5 rfl) rfl rfl (Nat.le_of_ble_eq_true rfl) (Nat.le_of_ble_eq_true rfl) (wV.mono (fun mi11 ml12 F => ?_) F)
    refine wp_goto (tgt := 42) (pc := 35) dX5_takeWord_35 (by decide) ?_
    refine wp_iload_n (pc := 42) dX5_takeWord_42 rfl ?_
    exact r_I (pc := 43) dX5_takeWord_43 rfl F
theorem w_X5_takeWord_24 {l : Launch} {d : Nat} {kd : pm_K} {mr : pm_R} {h : Nat} {k1 : Nat}  {mi : pm_I} {ml : pm_L} {K : Int32 → pm_I → pm_L → Prop} (th : TX5s kd mr h) (hS : k1 < 5)
    (F : c_X5_takeWord_25 l (d + 1) kd mr h k1 (-1) mi ml K) :
    c_X5_takeWord_24 l (d + 1) kd mr h k1 mi ml K := by
  show wp l M_X5_takeWord (d + 1) 0 0 24 [some (.ref h), none, none] [] 0 0 kd mi ml mr _
  refine wp_iconst (v := -1) (pc := 24) dX5_takeWord_24 (by decide) ?_
  exact wp_less (L' := [some (.ref h), none, none]) ⟨rfl, trivial⟩ F
/-- takeWord(Ljava/lang/String;)I -/
theorem w_X5_takeWord {l : Launch} {d : Nat} {kd : pm_K} {mr : pm_R} {h : Nat} {k1 : Nat}  {mi : pm_I} {ml : pm_L} {K : Int32 → pm_I → pm_L → Prop} (th : TX5s kd mr h) (hS : k1 < 5)
    (F : (((mi h 6) = 1 → c_X5_takeWord_24 l (d + 1) kd mr h k1  mi ml K) ∧ (¬ (mi h 6) = 1 → ((¬ (mi h 4) = 1 → c_X5_takeWord_24 l (d + 1) kd mr h k1  mi ml K) ∧ ((mi h 4) = 1 → wI l M_X5_wordIn d [.ref h, .retAddr k1] kd mr mi ml (fun r3 mi4 ml5 => c_X5_takeWord_25 l (d + 1) kd mr h k1 r3 mi4 ml5 K)))))) :
    wI l M_X5_takeWord (d + 1) [.ref h, .retAddr k1] kd mr mi ml K := by
  show wp l M_X5_takeWord (d + 1) 0 0 0 [some (.ref h), some (.retAddr k1), none] [] 0 0 kd mi ml mr _
  refine wp_aload_n (pc := 0) dX5_takeWord_0 rfl ?_
  refine wp_getI (pc := 1) dX5_takeWord_1 fl_X5_58 rfl (TX5s_k th) ?_
  refine wp_iconst (v := 1) (pc := 4) dX5_takeWord_4 (by decide) ?_
  refine wp_icmp_eq (tgt := 24) (pc := 5) dX5_takeWord_5 (by decide) (fun c1 => ?_) (fun c1 => ?_)
  · have F := F.1 c1
    exact wp_less (L' := [some (.ref h), none, none]) ⟨rfl, trivial⟩ F
  · have F := F.2 c1
    refine wp_aload_n (pc := 8) dX5_takeWord_8 rfl ?_
    refine wp_getI (pc := 9) dX5_takeWord_9 fl_X5_74 rfl (TX5s_k th) ?_
    refine wp_iconst (v := 1) (pc := 12) dX5_takeWord_12 (by decide) ?_
    refine wp_icmp_ne (tgt := 24) (pc := 13) dX5_takeWord_13 (by decide) (fun c2 => ?_) (fun c2 => ?_)
    · have F := F.1 c2
      exact wp_less (L' := [some (.ref h), none, none]) ⟨rfl, trivial⟩ F
    · have F := F.2 c2
      refine wp_aload_n (pc := 16) dX5_takeWord_16 rfl ?_
      refine wp_aload_nX (pc := 17) dX5_takeWord_17 rfl ?_
      refine cvI [.retAddr k1] [] (pc := 18) dX5_takeWord_18 ml_X5_191 iv_X5_wordIn (TX5s_k th) (cl_X5 rfl) rfl rfl (Nat.le_of_ble_eq_true rfl) (Nat.le_of_ble_eq_true rfl) (wI.mono (fun r3 mi4 ml5 F => ?_) F)
      refine wp_goto (tgt := 25) (pc := 21) dX5_takeWord_21 (by decide) ?_
      exact wp_less (L' := [some (.ref h), none, none]) ⟨rfl, trivial⟩ F
def c_X5_wordIn_48 (l : Launch) (d : Nat) (kd : pm_K) (mr : pm_R) (h : Nat) (k1 : Nat) (x2 : Int32) (x3 : Int32) (x4 : Int32) (mi : pm_I) (ml : pm_L) (K : Int32 → pm_I → pm_L → Prop) : Prop := wp l M_X5_wordIn d 0 0 48 [some (.ref h), some (.retAddr k1), some (.int x2), some (.int x3), some (.int x4)] [] 0 0 kd mi ml mr (qI kd mr K)
def c_X5_wordIn_7 (l : Launch) (d : Nat) (kd : pm_K) (mr : pm_R) (h : Nat) (k1 : Nat) (x2 : Int32) (x3 : Int32) (x4 : Int32) (mi : pm_I) (ml : pm_L) (K : Int32 → pm_I → pm_L → Prop) : Prop := wp l M_X5_wordIn d 0 0 7 [some (.ref h), some (.retAddr k1), some (.int x2), some (.int x3), some (.int x4)] [] 0 0 kd mi ml mr (qI kd mr K)
theorem w_X5_wordIn_7 {l : Launch} {d : Nat} {kd : pm_K} {mr : pm_R} {h : Nat} {k1 : Nat} {x2 : Int32} {x3 : Int32} {x4 : Int32} {mi : pm_I} {ml : pm_L} {K : Int32 → pm_I → pm_L → Prop} (th : TX5s kd mr h) (hS : k1 < 5)
    (F : wI l M_J0_length_8abf5 d [.retAddr k1] kd mr mi ml (fun r1 mi2 ml3 => ((r1 ≤ x4 → K (-1) mi2 ml3) ∧ (¬ r1 ≤ x4 → wI l M_J0_charAt_5068e d [.retAddr k1, .int x4] kd mr mi2 ml3 (fun r5 mi6 ml7 => ((¬ r5 = 32 → c_X5_wordIn_48 l (d + 1) kd mr h k1 x2 x3 x4 mi6 ml7 K) ∧ (r5 = 32 → wB l M_X5_isToken d [.ref h, .retAddr k1, .int x2, .int x4] kd mr mi6 ml7 (fun r9 mi10 ml11 => ((r9 = false → c_X5_wordIn_48 l (d + 1) kd mr h k1 (x4 + 1) (x3 + 1) x4 mi10 ml11 K) ∧ (r9 = true → K x3 mi10 ml11)))))))))) :
    c_X5_wordIn_7 l (d + 1) kd mr h k1 x2 x3 x4 mi ml K := by
  show wp l M_X5_wordIn (d + 1) 0 0 7 [some (.ref h), some (.retAddr k1), some (.int x2), some (.int x3), some (.int x4)] [] 0 0 kd mi ml mr _
  refine wp_iload (pc := 7) dX5_wordIn_7 rfl ?_
  refine wp_aload_nX (pc := 9) dX5_wordIn_9 rfl ?_
  refine cxI [] [.int x4] (pc := 10) dX5_wordIn_10 ml_X5_197 iv_J0_length_8abf5 hS rfl rfl rfl (Nat.le_of_ble_eq_true rfl) (Nat.le_of_ble_eq_true rfl) (wI.mono (fun r1 mi2 ml3 F => ?_) F)
  refine wp_icmp_ge (tgt := 54) (pc := 13) dX5_wordIn_13 (by decide) (fun c4 => ?_) (fun c4 => ?_)
  · have F := F.1 c4
    refine wp_iconst (v := -1) (pc := 54) dX5_wordIn_54 (by decide) ?_
    exact r_I (pc := 55) dX5_wordIn_55 rfl F
  · have F := F.2 c4
    refine wp_aload_nX (pc := 16) dX5_wordIn_16 rfl ?_
    refine wp_iload (pc := 17) dX5_wordIn_17 rfl ?_
    refine cxI [.int x4] [] (pc := 19) dX5_wordIn_19 ml_X5_202 iv_J0_charAt_5068e hS rfl rfl rfl (Nat.le_of_ble_eq_true rfl) (Nat.le_of_ble_eq_true rfl) (wI.mono (fun r5 mi6 ml7 F => ?_) F)
    refine wp_bipush (v := 32) (pc := 22) dX5_wordIn_22 (by decide) ?_
    refine wp_icmp_ne (tgt := 48) (pc := 24) dX5_wordIn_24 (by decide) (fun c8 => ?_) (fun c8 => ?_)
    · have F := F.1 c8
      exact wp_less (L' := [some (.ref h), some (.retAddr k1), some (.int x2), some (.int x3), some (.int x4)]) ⟨rfl, ⟨rfl, ⟨rfl, ⟨rfl, ⟨rfl, trivial⟩⟩⟩⟩⟩ F
    · have F := F.2 c8
      refine wp_aload_n (pc := 27) dX5_wordIn_27 rfl ?_
      refine wp_aload_nX (pc := 28) dX5_wordIn_28 rfl ?_
      refine wp_iload_n (pc := 29) dX5_wordIn_29 rfl ?_
      refine wp_iload (pc := 30) dX5_wordIn_30 rfl ?_
      refine cvB [.retAddr k1, .int x2, .int x4] [] (pc := 32) dX5_wordIn_32 ml_X5_206 iv_X5_isToken (TX5s_k th) (cl_X5 rfl) rfl rfl (Nat.le_of_ble_eq_true rfl) (Nat.le_of_ble_eq_true rfl) (wB.mono (fun r9 mi10 ml11 F => ?_) F)
      refine b_eq (tgt := 40) (pc := 35) dX5_wordIn_35 (by decide) (fun c12 => ?_) (fun c12 => ?_)
      · have F := F.1 c12
        refine wp_iload (pc := 40) dX5_wordIn_40 rfl ?_
        refine wp_iconst (v := 1) (pc := 42) dX5_wordIn_42 (by decide) ?_
        refine wp_iadd (pc := 43) dX5_wordIn_43 ?_
        refine wp_istore_n (pc := 44) dX5_wordIn_44 (Nat.le_of_ble_eq_true rfl) rfl ?_
        show wp l M_X5_wordIn (d + 1) 0 0 _ [some (.ref h), some (.retAddr k1), some (.int (x4 + 1)), some (.int x3), some (.int x4)] _ 0 0 kd _ _ mr _
        refine wp_iinc (v := (x3 + 1)) (pc := 45) dX5_wordIn_45 rfl rfl rfl ?_
        show wp l M_X5_wordIn (d + 1) 0 0 _ [some (.ref h), some (.retAddr k1), some (.int (x4 + 1)), some (.int (x3 + 1)), some (.int x4)] _ 0 0 kd _ _ mr _
        exact wp_less (L' := [some (.ref h), some (.retAddr k1), some (.int (x4 + 1)), some (.int (x3 + 1)), some (.int x4)]) ⟨rfl, ⟨rfl, ⟨rfl, ⟨rfl, ⟨rfl, trivial⟩⟩⟩⟩⟩ F
      · have F := F.2 c12
        refine wp_iload_n (pc := 38) dX5_wordIn_38 rfl ?_
        exact r_I (pc := 39) dX5_wordIn_39 rfl F
theorem w_X5_wordIn_48 {l : Launch} {d : Nat} {kd : pm_K} {mr : pm_R} {h : Nat} {k1 : Nat} {x2 : Int32} {x3 : Int32} {x4 : Int32} {mi : pm_I} {ml : pm_L} {K : Int32 → pm_I → pm_L → Prop} (th : TX5s kd mr h) (hS : k1 < 5)
    (F : c_X5_wordIn_7 l (d + 1) kd mr h k1 x2 x3 (x4 + 1) mi ml K) :
    c_X5_wordIn_48 l (d + 1) kd mr h k1 x2 x3 x4 mi ml K := by
  show wp l M_X5_wordIn (d + 1) 0 0 48 [some (.ref h), some (.retAddr k1), some (.int x2), some (.int x3), some (.int x4)] [] 0 0 kd mi ml mr _
  refine wp_iinc (v := (x4 + 1)) (pc := 48) dX5_wordIn_48 rfl rfl rfl ?_
  show wp l M_X5_wordIn (d + 1) 0 0 _ [some (.ref h), some (.retAddr k1), some (.int x2), some (.int x3), some (.int (x4 + 1))] _ 0 0 kd _ _ mr _
  refine wp_goto (tgt := 7) (pc := 51) dX5_wordIn_51 (by decide) ?_
  exact wp_less (L' := [some (.ref h), some (.retAddr k1), some (.int x2), some (.int x3), some (.int (x4 + 1))]) ⟨rfl, ⟨rfl, ⟨rfl, ⟨rfl, ⟨rfl, trivial⟩⟩⟩⟩⟩ F
/-- wordIn(Ljava/lang/String;)I -/
theorem w_X5_wordIn {l : Launch} {d : Nat} {kd : pm_K} {mr : pm_R} {h : Nat} {k1 : Nat}  {mi : pm_I} {ml : pm_L} {K : Int32 → pm_I → pm_L → Prop} (th : TX5s kd mr h) (hS : k1 < 5)
    (F : c_X5_wordIn_7 l (d + 1) kd mr h k1 0 0 0 mi ml K) :
    wI l M_X5_wordIn (d + 1) [.ref h, .retAddr k1] kd mr mi ml K := by
  show wp l M_X5_wordIn (d + 1) 0 0 0 [some (.ref h), some (.retAddr k1), none, none, none] [] 0 0 kd mi ml mr _
  refine wp_iconst (v := 0) (pc := 0) dX5_wordIn_0 (by decide) ?_
  refine wp_istore_n (pc := 1) dX5_wordIn_1 (Nat.le_of_ble_eq_true rfl) rfl ?_
  show wp l M_X5_wordIn (d + 1) 0 0 _ [some (.ref h), some (.retAddr k1), some (.int 0), none, none] _ 0 0 kd _ _ mr _
  refine wp_iconst (v := 0) (pc := 2) dX5_wordIn_2 (by decide) ?_
  refine wp_istore_n (pc := 3) dX5_wordIn_3 (Nat.le_of_ble_eq_true rfl) rfl ?_
  show wp l M_X5_wordIn (d + 1) 0 0 _ [some (.ref h), some (.retAddr k1), some (.int 0), some (.int 0), none] _ 0 0 kd _ _ mr _
  refine wp_iconst (v := 0) (pc := 4) dX5_wordIn_4 (by decide) ?_
  refine wp_istore (pc := 5) dX5_wordIn_5 (Nat.le_of_ble_eq_true rfl) rfl ?_
  show wp l M_X5_wordIn (d + 1) 0 0 _ [some (.ref h), some (.retAddr k1), some (.int 0), some (.int 0), some (.int 0)] _ 0 0 kd _ _ mr _
  exact wp_less (L' := [some (.ref h), some (.retAddr k1), some (.int 0), some (.int 0), some (.int 0)]) ⟨rfl, ⟨rfl, ⟨rfl, ⟨rfl, ⟨rfl, trivial⟩⟩⟩⟩⟩ F
def c_X5_isToken_20 (l : Launch) (d : Nat) (kd : pm_K) (mr : pm_R) (h : Nat) (k1 : Nat) (x2 : Int32) (x3 : Int32) (x4 : Int32) (mi : pm_I) (ml : pm_L) (K : Bool → pm_I → pm_L → Prop) : Prop := wp l M_X5_isToken d 0 0 20 [some (.ref h), some (.retAddr k1), some (.int x2), some (.int x3), some (.int x4)] [] 0 0 kd mi ml mr (qB kd mr K)
theorem w_X5_isToken_20 {l : Launch} {d : Nat} {kd : pm_K} {mr : pm_R} {h : Nat} {k1 : Nat} {x2 : Int32} {x3 : Int32} {x4 : Int32} {mi : pm_I} {ml : pm_L} {K : Bool → pm_I → pm_L → Prop} (th : TX5s kd mr h) (hS : k1 < 5)
    (F : (((x3 - x2) ≤ x4 → K true mi ml) ∧ (¬ (x3 - x2) ≤ x4 → wI l M_J0_charAt_5068e d [.retAddr k1, .int (x2 + x4)] kd mr mi ml (fun r3 mi4 ml5 => wI l M_X5_byteAt d [.ref h, .int ((mi4 h 2) + x4)] kd mr mi4 ml5 (fun r6 mi7 ml8 => ((r3 = r6 → c_X5_isToken_20 l (d + 1) kd mr h k1 x2 x3 (x4 + 1) mi7 ml8 K) ∧ (¬ r3 = r6 → K false mi7 ml8))))))) :
    c_X5_isToken_20 l (d + 1) kd mr h k1 x2 x3 x4 mi ml K := by
  show wp l M_X5_isToken (d + 1) 0 0 20 [some (.ref h), some (.retAddr k1), some (.int x2), some (.int x3), some (.int x4)] [] 0 0 kd mi ml mr _
  refine wp_iload (pc := 20) dX5_isToken_20 rfl ?_
  refine wp_iload_n (pc := 22) dX5_isToken_22 rfl ?_
  refine wp_iload_n (pc := 23) dX5_isToken_23 rfl ?_
  refine wp_isub (pc := 24) dX5_isToken_24 ?_
  refine wp_icmp_ge (tgt := 58) (pc := 25) dX5_isToken_25 (by decide) (fun c2 => ?_) (fun c2 => ?_)
  · have F := F.1 c2
    refine wp_iconst (v := 1) (pc := 58) dX5_isToken_58 (by decide) ?_
    exact r_Bx (pc := 59) dX5_isToken_59 rfl rfl F
  · have F := F.2 c2
    refine wp_aload_nX (pc := 28) dX5_isToken_28 rfl ?_
    refine wp_iload_n (pc := 29) dX5_isToken_29 rfl ?_
    refine wp_iload (pc := 30) dX5_isToken_30 rfl ?_
    refine wp_iadd (pc := 32) dX5_isToken_32 ?_
    refine cxI [.int (x2 + x4)] [] (pc := 33) dX5_isToken_33 ml_X5_202 iv_J0_charAt_5068e hS rfl rfl rfl (Nat.le_of_ble_eq_true rfl) (Nat.le_of_ble_eq_true rfl) (wI.mono (fun r3 mi4 ml5 F => ?_) F)
    refine wp_aload_n (pc := 36) dX5_isToken_36 rfl ?_
    refine wp_aload_n (pc := 37) dX5_isToken_37 rfl ?_
    refine wp_getI (pc := 38) dX5_isToken_38 fl_X5_96 rfl (TX5s_k th) ?_
    refine wp_iload (pc := 41) dX5_isToken_41 rfl ?_
    refine wp_iadd (pc := 43) dX5_isToken_43 ?_
    refine cvI [.int ((mi4 h 2) + x4)] [.int r3] (pc := 44) dX5_isToken_44 ml_X5_210 iv_X5_byteAt (TX5s_k th) (cl_X5 rfl) rfl rfl (Nat.le_of_ble_eq_true rfl) (Nat.le_of_ble_eq_true rfl) (wI.mono (fun r6 mi7 ml8 F => ?_) F)
    refine wp_icmp_eq (tgt := 52) (pc := 47) dX5_isToken_47 (by decide) (fun c9 => ?_) (fun c9 => ?_)
    · have F := F.1 c9
      refine wp_iinc (v := (x4 + 1)) (pc := 52) dX5_isToken_52 rfl rfl rfl ?_
      show wp l M_X5_isToken (d + 1) 0 0 _ [some (.ref h), some (.retAddr k1), some (.int x2), some (.int x3), some (.int (x4 + 1))] _ 0 0 kd _ _ mr _
      refine wp_goto (tgt := 20) (pc := 55) dX5_isToken_55 (by decide) ?_
      exact wp_less (L' := [some (.ref h), some (.retAddr k1), some (.int x2), some (.int x3), some (.int (x4 + 1))]) ⟨rfl, ⟨rfl, ⟨rfl, ⟨rfl, ⟨rfl, trivial⟩⟩⟩⟩⟩ F
    · have F := F.2 c9
      refine wp_iconst (v := 0) (pc := 50) dX5_isToken_50 (by decide) ?_
      exact r_Bx (pc := 51) dX5_isToken_51 rfl rfl F
/-- isToken(Ljava/lang/String;II)Z -/
theorem w_X5_isToken {l : Launch} {d : Nat} {kd : pm_K} {mr : pm_R} {h : Nat} {k1 : Nat} {x2 : Int32} {x3 : Int32} {mi : pm_I} {ml : pm_L} {K : Bool → pm_I → pm_L → Prop} (th : TX5s kd mr h) (hS : k1 < 5)
    (F : (((x3 - x2) = ((mi h 3) - (mi h 2)) → c_X5_isToken_20 l (d + 1) kd mr h k1 x2 x3 0 mi ml K) ∧ (¬ (x3 - x2) = ((mi h 3) - (mi h 2)) → K false mi ml))) :
    wB l M_X5_isToken (d + 1) [.ref h, .retAddr k1, .int x2, .int x3] kd mr mi ml K := by
  show wp l M_X5_isToken (d + 1) 0 0 0 [some (.ref h), some (.retAddr k1), some (.int x2), some (.int x3), none] [] 0 0 kd mi ml mr _
  refine wp_iload_n (pc := 0) dX5_isToken_0 rfl ?_
  refine wp_iload_n (pc := 1) dX5_isToken_1 rfl ?_
  refine wp_isub (pc := 2) dX5_isToken_2 ?_
  refine wp_aload_n (pc := 3) dX5_isToken_3 rfl ?_
  refine wp_getI (pc := 4) dX5_isToken_4 fl_X5_55 rfl (TX5s_k th) ?_
  refine wp_aload_n (pc := 7) dX5_isToken_7 rfl ?_
  refine wp_getI (pc := 8) dX5_isToken_8 fl_X5_96 rfl (TX5s_k th) ?_
  refine wp_isub (pc := 11) dX5_isToken_11 ?_
  refine wp_icmp_eq (tgt := 17) (pc := 12) dX5_isToken_12 (by decide) (fun c1 => ?_) (fun c1 => ?_)
  · have F := F.1 c1
    refine wp_iconst (v := 0) (pc := 17) dX5_isToken_17 (by decide) ?_
    refine wp_istore (pc := 18) dX5_isToken_18 (Nat.le_of_ble_eq_true rfl) rfl ?_
    show wp l M_X5_isToken (d + 1) 0 0 _ [some (.ref h), some (.retAddr k1), some (.int x2), some (.int x3), some (.int 0)] _ 0 0 kd _ _ mr _
    exact wp_less (L' := [some (.ref h), some (.retAddr k1), some (.int x2), some (.int x3), some (.int 0)]) ⟨rfl, ⟨rfl, ⟨rfl, ⟨rfl, ⟨rfl, trivial⟩⟩⟩⟩⟩ F
  · have F := F.2 c1
    refine wp_iconst (v := 0) (pc := 15) dX5_isToken_15 (by decide) ?_
    exact r_Bx (pc := 16) dX5_isToken_16 rfl rfl F
/-- stick()V -/
theorem w_X5_stick {l : Launch} {d : Nat} {kd : pm_K} {mr : pm_R} {h : Nat}  {mi : pm_I} {ml : pm_L} {K : pm_I → pm_L → Prop} (th : TX5s kd mr h)
    (F : (((mi h 6) = 1 → K mi ml) ∧ (¬ (mi h 6) = 1 → K (pm_up (pm_up mi h 6 1) h 7 (mi h 2)) ml))) :
    wV l M_X5_stick d [.ref h] kd mr mi ml K := by
  show wp l M_X5_stick d 0 0 0 [some (.ref h)] [] 0 0 kd mi ml mr _
  refine wp_aload_n (pc := 0) dX5_stick_0 rfl ?_
  refine wp_getI (pc := 1) dX5_stick_1 fl_X5_58 rfl (TX5s_k th) ?_
  refine wp_iconst (v := 1) (pc := 4) dX5_stick_4 (by decide) ?_
  refine wp_icmp_eq (tgt := 21) (pc := 5) dX5_stick_5 (by decide) (fun c1 => ?_) (fun c1 => ?_)
  · have F := F.1 c1
    exact r_V (pc := 21) dX5_stick_21 rfl F
  · have F := F.2 c1
    refine wp_aload_n (pc := 8) dX5_stick_8 rfl ?_
    refine wp_iconst (v := 1) (pc := 9) dX5_stick_9 (by decide) ?_
    refine wp_putI (pc := 10) dX5_stick_10 fl_X5_58 rfl rfl (TX5s_k th) ?_
    refine wp_aload_n (pc := 13) dX5_stick_13 rfl ?_
    refine wp_aload_n (pc := 14) dX5_stick_14 rfl ?_
    refine wp_getI (pc := 15) dX5_stick_15 fl_X5_96 rfl (TX5s_k th) ?_
    refine t_I (show ((pm_up mi h 6 1) h 2) = (mi h 2) from pm_up_j _ _ (by decide)) ?_
    refine wp_putI (pc := 18) dX5_stick_18 fl_X5_61 rfl rfl (TX5s_k th) ?_
    exact r_V (pc := 21) dX5_stick_21 rfl F
def c_X5_takeNumber_16 (l : Launch) (d : Nat) (kd : pm_K) (mr : pm_R) (h : Nat) (x1 : Int32) (mi : pm_I) (ml : pm_L) (K : Int32 → pm_I → pm_L → Prop) : Prop := wp l M_X5_takeNumber d 0 0 16 [some (.ref h), some (.int x1), none, none] [] 0 0 kd mi ml mr (qI kd mr K)
def c_X5_takeNumber_37 (l : Launch) (d : Nat) (kd : pm_K) (mr : pm_R) (h : Nat) (x1 : Int32) (mi : pm_I) (ml : pm_L) (K : Int32 → pm_I → pm_L → Prop) : Prop := wp l M_X5_takeNumber d 0 0 37 [some (.ref h), some (.int x1), none, none] [] 0 0 kd mi ml mr (qI kd mr K)
def c_X5_takeNumber_48 (l : Launch) (d : Nat) (kd : pm_K) (mr : pm_R) (h : Nat) (x3 : Int32) (mi : pm_I) (ml : pm_L) (K : Int32 → pm_I → pm_L → Prop) : Prop := wp l M_X5_takeNumber d 0 0 48 [some (.ref h), none, none, some (.int x3)] [] 0 0 kd mi ml mr (qI kd mr K)
theorem w_X5_takeNumber_48 {l : Launch} {d : Nat} {kd : pm_K} {mr : pm_R} {h : Nat} {x3 : Int32} {mi : pm_I} {ml : pm_L} {K : Int32 → pm_I → pm_L → Prop} (th : TX5s kd mr h)
    (F : wV l M_X5_goOn d [.ref h] kd mr mi ml (fun mi6 ml7 => K x3 mi6 ml7)) :
    c_X5_takeNumber_48 l (d + 1) kd mr h x3 mi ml K := by
  show wp l M_X5_takeNumber (d + 1) 0 0 48 [some (.ref h), none, none, some (.int x3)] [] 0 0 kd mi ml mr _
  refine wp_aload_n (pc := 48) dX5_takeNumber_48 rfl ?_
  refine cvV [] [] (pc := 49) dX5_takeNumber_49 ml_X5_71 iv_X5_goOn (TX5s_k th) (cl_X5 rfl) rfl rfl (Nat.le_of_ble_eq_true rfl) (Nat.le_of_ble_eq_true rfl) (wV.mono (fun mi6 ml7 F => ?_) F)
  refine wp_iload_n (pc := 52) dX5_takeNumber_52 rfl ?_
  exact r_I (pc := 53) dX5_takeNumber_53 rfl F
theorem w_X5_takeNumber_37 {l : Launch} {d : Nat} {kd : pm_K} {mr : pm_R} {h : Nat} {x1 : Int32} {mi : pm_I} {ml : pm_L} {K : Int32 → pm_I → pm_L → Prop} (th : TX5s kd mr h)
    (F : wV l M_X5_note d [.ref h, .int 2, .int (mi h 2)] kd mr mi ml (fun mi9 ml10 => c_X5_takeNumber_48 l (d + 1) kd mr h x1 mi9 ml10 K)) :
    c_X5_takeNumber_37 l (d + 1) kd mr h x1 mi ml K := by
  show wp l M_X5_takeNumber (d + 1) 0 0 37 [some (.ref h), some (.int x1), none, none] [] 0 0 kd mi ml mr _
  refine wp_aload_n (pc := 37) dX5_takeNumber_37 rfl ?_
  refine wp_iconst (v := 2) (pc := 38) dX5_takeNumber_38 (by decide) ?_
  refine wp_aload_n (pc := 39) dX5_takeNumber_39 rfl ?_
  refine wp_getI (pc := 40) dX5_takeNumber_40 fl_X5_96 rfl (TX5s_k th) ?_
  refine cvV [.int 2, .int (mi h 2)] [] (pc := 43) dX5_takeNumber_43 ml_X5_136 iv_X5_note (TX5s_k th) (cl_X5 rfl) rfl rfl (Nat.le_of_ble_eq_true rfl) (Nat.le_of_ble_eq_true rfl) (wV.mono (fun mi9 ml10 F => ?_) F)
  refine wp_iload_n (pc := 46) dX5_takeNumber_46 rfl ?_
  refine wp_istore_n (pc := 47) dX5_takeNumber_47 (Nat.le_of_ble_eq_true rfl) rfl ?_
  show wp l M_X5_takeNumber (d + 1) 0 0 _ [some (.ref h), some (.int x1), none, some (.int x1)] _ 0 0 kd _ _ mr _
  exact wp_less (L' := [some (.ref h), none, none, some (.int x1)]) ⟨rfl, ⟨rfl, trivial⟩⟩ F
theorem w_X5_takeNumber_16 {l : Launch} {d : Nat} {kd : pm_K} {mr : pm_R} {h : Nat} {x1 : Int32} {mi : pm_I} {ml : pm_L} {K : Int32 → pm_I → pm_L → Prop} (th : TX5s kd mr h)
    (F : wV l M_X5_stick d [.ref h] kd mr mi ml (fun mi12 ml13 => K x1 mi12 ml13)) :
    c_X5_takeNumber_16 l (d + 1) kd mr h x1 mi ml K := by
  show wp l M_X5_takeNumber (d + 1) 0 0 16 [some (.ref h), some (.int x1), none, none] [] 0 0 kd mi ml mr _
  refine wp_aload_n (pc := 16) dX5_takeNumber_16 rfl ?_
  refine cvV [] [] (pc := 17) dX5_takeNumber_17 ml_X5_194 iv_X5_stick (TX5s_k th) (cl_X5 rfl) rfl rfl (Nat.le_of_ble_eq_true rfl) (Nat.le_of_ble_eq_true rfl) (wV.mono (fun mi12 ml13 F => ?_) F)
  refine wp_iload_n (pc := 20) dX5_takeNumber_20 rfl ?_
  exact r_I (pc := 21) dX5_takeNumber_21 rfl F
/-- takeNumber(II)I -/
theorem w_X5_takeNumber {l : Launch} {d : Nat} {kd : pm_K} {mr : pm_R} {h : Nat} {x1 : Int32} {x2 : Int32} {mi : pm_I} {ml : pm_L} {K : Int32 → pm_I → pm_L → Prop} (th : TX5s kd mr h)
    (F : (((mi h 6) = 1 → c_X5_takeNumber_16 l (d + 1) kd mr h x1 mi ml K) ∧ (¬ (mi h 6) = 1 → (((mi h 4) = 2 → (((mi h 5) < x1 → c_X5_takeNumber_37 l (d + 1) kd mr h x1 mi ml K) ∧ (¬ (mi h 5) < x1 → (((mi h 5) ≤ x2 → c_X5_takeNumber_48 l (d + 1) kd mr h (mi h 5) mi ml K) ∧ (¬ (mi h 5) ≤ x2 → c_X5_takeNumber_37 l (d + 1) kd mr h x1 mi ml K))))) ∧ (¬ (mi h 4) = 2 → c_X5_takeNumber_16 l (d + 1) kd mr h x1 mi ml K))))) :
    wI l M_X5_takeNumber (d + 1) [.ref h, .int x1, .int x2] kd mr mi ml K := by
  show wp l M_X5_takeNumber (d + 1) 0 0 0 [some (.ref h), some (.int x1), some (.int x2), none] [] 0 0 kd mi ml mr _
  refine wp_aload_n (pc := 0) dX5_takeNumber_0 rfl ?_
  refine wp_getI (pc := 1) dX5_takeNumber_1 fl_X5_58 rfl (TX5s_k th) ?_
  refine wp_iconst (v := 1) (pc := 4) dX5_takeNumber_4 (by decide) ?_
  refine wp_icmp_eq (tgt := 16) (pc := 5) dX5_takeNumber_5 (by decide) (fun c1 => ?_) (fun c1 => ?_)
  · have F := F.1 c1
    exact wp_less (L' := [some (.ref h), some (.int x1), none, none]) ⟨rfl, ⟨rfl, trivial⟩⟩ F
  · have F := F.2 c1
    refine wp_aload_n (pc := 8) dX5_takeNumber_8 rfl ?_
    refine wp_getI (pc := 9) dX5_takeNumber_9 fl_X5_74 rfl (TX5s_k th) ?_
    refine wp_iconst (v := 2) (pc := 12) dX5_takeNumber_12 (by decide) ?_
    refine wp_icmp_eq (tgt := 22) (pc := 13) dX5_takeNumber_13 (by decide) (fun c2 => ?_) (fun c2 => ?_)
    · have F := F.1 c2
      refine wp_aload_n (pc := 22) dX5_takeNumber_22 rfl ?_
      refine wp_getI (pc := 23) dX5_takeNumber_23 fl_X5_214 rfl (TX5s_k th) ?_
      refine wp_istore_n (pc := 26) dX5_takeNumber_26 (Nat.le_of_ble_eq_true rfl) rfl ?_
      show wp l M_X5_takeNumber (d + 1) 0 0 _ [some (.ref h), some (.int x1), some (.int x2), some (.int (mi h 5))] _ 0 0 kd _ _ mr _
      refine wp_iload_n (pc := 27) dX5_takeNumber_27 rfl ?_
      refine wp_iload_n (pc := 28) dX5_takeNumber_28 rfl ?_
      refine wp_icmp_lt (tgt := 37) (pc := 29) dX5_takeNumber_29 (by decide) (fun c3 => ?_) (fun c3 => ?_)
      · have F := F.1 c3
        exact wp_less (L' := [some (.ref h), some (.int x1), none, none]) ⟨rfl, ⟨rfl, trivial⟩⟩ F
      · have F := F.2 c3
        refine wp_iload_n (pc := 32) dX5_takeNumber_32 rfl ?_
        refine wp_iload_n (pc := 33) dX5_takeNumber_33 rfl ?_
        refine wp_icmp_le (tgt := 48) (pc := 34) dX5_takeNumber_34 (by decide) (fun c4 => ?_) (fun c4 => ?_)
        · have F := F.1 c4
          exact wp_less (L' := [some (.ref h), none, none, some (.int (mi h 5))]) ⟨rfl, ⟨rfl, trivial⟩⟩ F
        · have F := F.2 c4
          exact wp_less (L' := [some (.ref h), some (.int x1), none, none]) ⟨rfl, ⟨rfl, trivial⟩⟩ F
    · have F := F.2 c2
      exact wp_less (L' := [some (.ref h), some (.int x1), none, none]) ⟨rfl, ⟨rfl, trivial⟩⟩ F
/-- note(II)V -/
theorem w_X5_note {l : Launch} {d : Nat} {kd : pm_K} {mr : pm_R} {h : Nat} {x1 : Int32} {x2 : Int32} {mi : pm_I} {ml : pm_L} {K : pm_I → pm_L → Prop} (th : TX5s kd mr h)
    (F : ((¬ (mi h 6) = 0 → K mi ml) ∧ ((mi h 6) = 0 → K (pm_up (pm_up mi h 6 x1) h 7 x2) ml))) :
    wV l M_X5_note d [.ref h, .int x1, .int x2] kd mr mi ml K := by
  show wp l M_X5_note d 0 0 0 [some (.ref h), some (.int x1), some (.int x2)] [] 0 0 kd mi ml mr _
  refine wp_aload_n (pc := 0) dX5_note_0 rfl ?_
  refine wp_getI (pc := 1) dX5_note_1 fl_X5_58 rfl (TX5s_k th) ?_
  refine wp_if_ne (tgt := 17) (pc := 4) dX5_note_4 (by decide) (fun c1 => ?_) (fun c1 => ?_)
  · have F := F.1 c1
    exact r_V (pc := 17) dX5_note_17 rfl F
  · have F := F.2 c1
    refine wp_aload_n (pc := 7) dX5_note_7 rfl ?_
    refine wp_iload_n (pc := 8) dX5_note_8 rfl ?_
    refine wp_putI (pc := 9) dX5_note_9 fl_X5_58 rfl rfl (TX5s_k th) ?_
    refine wp_aload_n (pc := 12) dX5_note_12 rfl ?_
    refine wp_iload_n (pc := 13) dX5_note_13 rfl ?_
    refine wp_putI (pc := 14) dX5_note_14 fl_X5_61 rfl rfl (TX5s_k th) ?_
    exact r_V (pc := 17) dX5_note_17 rfl F
/-- readValue()V -/
theorem w_X5_readValue {l : Launch} {d : Nat} {kd : pm_K} {mr : pm_R} {h : Nat}  {mi : pm_I} {ml : pm_L} {K : pm_I → pm_L → Prop} (th : TX5s kd mr h)
    (F : wI l M_X5_takeWord d [.ref h, .retAddr 1] kd mr mi ml (fun r1 mi2 ml3 => wI l M_X5_takeNumber d [.ref h, .int 0, .int 9] kd mr mi2 ml3 (fun r4 mi5 ml6 => ((r1 < 0 → K mi5 ml6) ∧ (¬ r1 < 0 → ((4 ≤ r1 → K mi5 ml6) ∧ (¬ 4 ≤ r1 → vp_in r1 4 ∧ K (pm_up mi5 ((h + 2) + 5) (Int32.toNatClampNeg r1) r4) ml6))))))) :
    wV l M_X5_readValue (d + 1) [.ref h] kd mr mi ml K := by
  show wp l M_X5_readValue (d + 1) 0 0 0 [some (.ref h), none, none] [] 0 0 kd mi ml mr _
  refine wp_aload_n (pc := 0) dX5_readValue_0 rfl ?_
  refine wp_ldcS (i := 1) (by decide) (pc := 1) dX5_readValue_1 rfl ?_
  refine cvI [.retAddr 1] [] (pc := 3) dX5_readValue_3 ml_X5_101 iv_X5_takeWord (TX5s_k th) (cl_X5 rfl) rfl rfl (Nat.le_of_ble_eq_true rfl) (Nat.le_of_ble_eq_true rfl) (wI.mono (fun r1 mi2 ml3 F => ?_) F)
  refine wp_istore_n (pc := 6) dX5_readValue_6 (Nat.le_of_ble_eq_true rfl) rfl ?_
  show wp l M_X5_readValue (d + 1) 0 0 _ [some (.ref h), some (.int r1), none] _ 0 0 kd _ _ mr _
  refine wp_aload_n (pc := 7) dX5_readValue_7 rfl ?_
  refine wp_iconst (v := 0) (pc := 8) dX5_readValue_8 (by decide) ?_
  refine wp_bipush (v := 9) (pc := 9) dX5_readValue_9 (by decide) ?_
  refine cvI [.int 0, .int 9] [] (pc := 11) dX5_readValue_11 ml_X5_105 iv_X5_takeNumber (TX5s_k th) (cl_X5 rfl) rfl rfl (Nat.le_of_ble_eq_true rfl) (Nat.le_of_ble_eq_true rfl) (wI.mono (fun r4 mi5 ml6 F => ?_) F)
  refine wp_istore_n (pc := 14) dX5_readValue_14 (Nat.le_of_ble_eq_true rfl) rfl ?_
  show wp l M_X5_readValue (d + 1) 0 0 _ [some (.ref h), some (.int r1), some (.int r4)] _ 0 0 kd _ _ mr _
  refine wp_iload_n (pc := 15) dX5_readValue_15 rfl ?_
  refine wp_if_lt (tgt := 34) (pc := 16) dX5_readValue_16 (by decide) (fun c7 => ?_) (fun c7 => ?_)
  · have F := F.1 c7
    exact r_V (pc := 34) dX5_readValue_34 rfl F
  · have F := F.2 c7
    refine wp_iload_n (pc := 19) dX5_readValue_19 rfl ?_
    refine wp_iconst (v := 4) (pc := 20) dX5_readValue_20 (by decide) ?_
    refine wp_icmp_ge (tgt := 34) (pc := 21) dX5_readValue_21 (by decide) (fun c8 => ?_) (fun c8 => ?_)
    · have F := F.1 c8
      exact r_V (pc := 34) dX5_readValue_34 rfl F
    · have F := F.2 c8
      refine wp_aload_n (pc := 24) dX5_readValue_24 rfl ?_
      refine wp_getR (pc := 25) dX5_readValue_25 fl_X5_18 rfl (TX5s_k th) (TX5s_r8 th) ?_
      refine wp_getR (pc := 28) dX5_readValue_28 fl_X5_126 rfl (TX0s_k (TX5s_a8 th)) (TX0s_r10 (TX5s_a8 th)) ?_
      refine wp_iload_n (pc := 31) dX5_readValue_31 rfl ?_
      refine wp_iload_n (pc := 32) dX5_readValue_32 rfl ?_
      refine wp_iast (pc := 33) dX5_readValue_33 (TX0s_a10 (TX5s_a8 th)) F.1 ?_
      have F := F.2
      exact r_V (pc := 34) dX5_readValue_34 rfl F
def c_X5_readPlace_44 (l : Launch) (d : Nat) (kd : pm_K) (mr : pm_R) (h : Nat) (x1 : Int32) (x2 : Int32) (x3 : Int32) (x4 : Int32) (mi : pm_I) (ml : pm_L) (K : pm_I → pm_L → Prop) : Prop := wp l M_X5_readPlace d 0 0 44 [some (.ref h), some (.int x1), some (.int x2), some (.int x3), some (.int x4), none, none, none] [] 0 0 kd mi ml mr (qV kd mr K)
def c_X5_readPlace_67 (l : Launch) (d : Nat) (kd : pm_K) (mr : pm_R) (h : Nat) (x1 : Int32) (x3 : Int32) (x4 : Int32) (mi : pm_I) (ml : pm_L) (K : pm_I → pm_L → Prop) : Prop := wp l M_X5_readPlace d 0 0 67 [some (.ref h), some (.int x1), none, some (.int x3), some (.int x4), none, none, none] [] 0 0 kd mi ml mr (qV kd mr K)
def c_X5_readPlace_61 (l : Launch) (d : Nat) (kd : pm_K) (mr : pm_R) (h : Nat) (x1 : Int32) (x2 : Int32) (x3 : Int32) (x4 : Int32) (mi : pm_I) (ml : pm_L) (K : pm_I → pm_L → Prop) : Prop := wp l M_X5_readPlace d 0 0 61 [some (.ref h), some (.int x1), some (.int x2), some (.int x3), some (.int x4), none, none, none] [] 0 0 kd mi ml mr (qV kd mr K)
theorem w_X5_readPlace_61 {l : Launch} {d : Nat} {kd : pm_K} {mr : pm_R} {h : Nat} {x1 : Int32} {x2 : Int32} {x3 : Int32} {x4 : Int32} {mi : pm_I} {ml : pm_L} {K : pm_I → pm_L → Prop} (th : TX5s kd mr h)
    (F : wV l M_X5_note d [.ref h, .int 3, .int x2] kd mr mi ml (fun mi11 ml12 => c_X5_readPlace_67 l (d + 1) kd mr h x1 x3 x4 mi11 ml12 K)) :
    c_X5_readPlace_61 l (d + 1) kd mr h x1 x2 x3 x4 mi ml K := by
  show wp l M_X5_readPlace (d + 1) 0 0 61 [some (.ref h), some (.int x1), some (.int x2), some (.int x3), some (.int x4), none, none, none] [] 0 0 kd mi ml mr _
  refine wp_aload_n (pc := 61) dX5_readPlace_61 rfl ?_
  refine wp_iconst (v := 3) (pc := 62) dX5_readPlace_62 (by decide) ?_
  refine wp_iload_n (pc := 63) dX5_readPlace_63 rfl ?_
  refine cvV [.int 3, .int x2] [] (pc := 64) dX5_readPlace_64 ml_X5_136 iv_X5_note (TX5s_k th) (cl_X5 rfl) rfl rfl (Nat.le_of_ble_eq_true rfl) (Nat.le_of_ble_eq_true rfl) (wV.mono (fun mi11 ml12 F => ?_) F)
  exact wp_less (L' := [some (.ref h), some (.int x1), none, some (.int x3), some (.int x4), none, none, none]) ⟨rfl, ⟨rfl, ⟨rfl, ⟨rfl, trivial⟩⟩⟩⟩ F
theorem w_X5_readPlace_67 {l : Launch} {d : Nat} {kd : pm_K} {mr : pm_R} {h : Nat} {x1 : Int32} {x3 : Int32} {x4 : Int32} {mi : pm_I} {ml : pm_L} {K : pm_I → pm_L → Prop} (th : TX5s kd mr h)
    (F : wI l M_X5_takeNumber d [.ref h, .int 0, .int 7] kd mr mi ml (fun r13 mi14 ml15 => wI l M_X5_takeNumber d [.ref h, .int 0, .int 7] kd mr mi14 ml15 (fun r16 mi17 ml18 => wI l M_X11_spotAt d [.int r13, .int r16] kd mr mi17 ml18 (fun r19 mi20 ml21 => ((x3 = 0 → ((x4 = 0 → wL l M_X11_only d [.int r19] kd mr mi20 ml21 (fun r24 mi25 ml26 => K mi25 (pm_up ml26 (h + 2) 3 ((ml21 (h + 2) 3) ||| r24)))) ∧ (¬ x4 = 0 → wV l M_X0_addPerson d [.ref (h + 2), .int (x1 - 4), .int r19] kd mr mi20 ml21 (fun mi28 ml29 => K mi28 ml29)))) ∧ (¬ x3 = 0 → wV l M_X0_addPlayer d [.ref (h + 2), .int x1, .int r19] kd mr mi20 ml21 (fun mi31 ml32 => K mi31 ml32))))))) :
    c_X5_readPlace_67 l (d + 1) kd mr h x1 x3 x4 mi ml K := by
  show wp l M_X5_readPlace (d + 1) 0 0 67 [some (.ref h), some (.int x1), none, some (.int x3), some (.int x4), none, none, none] [] 0 0 kd mi ml mr _
  refine wp_aload_n (pc := 67) dX5_readPlace_67 rfl ?_
  refine wp_iconst (v := 0) (pc := 68) dX5_readPlace_68 (by decide) ?_
  refine wp_bipush (v := 7) (pc := 69) dX5_readPlace_69 (by decide) ?_
  refine cvI [.int 0, .int 7] [] (pc := 71) dX5_readPlace_71 ml_X5_105 iv_X5_takeNumber (TX5s_k th) (cl_X5 rfl) rfl rfl (Nat.le_of_ble_eq_true rfl) (Nat.le_of_ble_eq_true rfl) (wI.mono (fun r13 mi14 ml15 F => ?_) F)
  refine wp_istore (pc := 74) dX5_readPlace_74 (Nat.le_of_ble_eq_true rfl) rfl ?_
  show wp l M_X5_readPlace (d + 1) 0 0 _ [some (.ref h), some (.int x1), none, some (.int x3), some (.int x4), some (.int r13), none, none] _ 0 0 kd _ _ mr _
  refine wp_aload_n (pc := 76) dX5_readPlace_76 rfl ?_
  refine wp_iconst (v := 0) (pc := 77) dX5_readPlace_77 (by decide) ?_
  refine wp_bipush (v := 7) (pc := 78) dX5_readPlace_78 (by decide) ?_
  refine cvI [.int 0, .int 7] [] (pc := 80) dX5_readPlace_80 ml_X5_105 iv_X5_takeNumber (TX5s_k th) (cl_X5 rfl) rfl rfl (Nat.le_of_ble_eq_true rfl) (Nat.le_of_ble_eq_true rfl) (wI.mono (fun r16 mi17 ml18 F => ?_) F)
  refine wp_istore (pc := 83) dX5_readPlace_83 (Nat.le_of_ble_eq_true rfl) rfl ?_
  show wp l M_X5_readPlace (d + 1) 0 0 _ [some (.ref h), some (.int x1), none, some (.int x3), some (.int x4), some (.int r13), some (.int r16), none] _ 0 0 kd _ _ mr _
  refine wp_iload (pc := 85) dX5_readPlace_85 rfl ?_
  refine wp_iload (pc := 87) dX5_readPlace_87 rfl ?_
  refine csI [.int r13, .int r16] [] (pc := 89) dX5_readPlace_89 ml_X5_139 st_X11_spotAt rfl rfl (Nat.le_of_ble_eq_true rfl) (Nat.le_of_ble_eq_true rfl) (wI.mono (fun r19 mi20 ml21 F => ?_) F)
  refine wp_istore (pc := 92) dX5_readPlace_92 (Nat.le_of_ble_eq_true rfl) rfl ?_
  show wp l M_X5_readPlace (d + 1) 0 0 _ [some (.ref h), some (.int x1), none, some (.int x3), some (.int x4), some (.int r13), some (.int r16), some (.int r19)] _ 0 0 kd _ _ mr _
  refine wp_iload_n (pc := 94) dX5_readPlace_94 rfl ?_
  refine wp_if_eq (tgt := 111) (pc := 95) dX5_readPlace_95 (by decide) (fun c22 => ?_) (fun c22 => ?_)
  · have F := F.1 c22
    refine wp_iload (pc := 111) dX5_readPlace_111 rfl ?_
    refine wp_if_eq (tgt := 131) (pc := 113) dX5_readPlace_113 (by decide) (fun c23 => ?_) (fun c23 => ?_)
    · have F := F.1 c23
      refine wp_aload_n (pc := 131) dX5_readPlace_131 rfl ?_
      refine wp_getR (pc := 132) dX5_readPlace_132 fl_X5_18 rfl (TX5s_k th) (TX5s_r8 th) ?_
      refine wp_dup (pc := 135) dX5_readPlace_135 rfl ?_
      refine wp_getL (pc := 136) dX5_readPlace_136 fl_X5_148 rfl (TX0s_k (TX5s_a8 th)) ?_
      refine wp_iload (pc := 139) dX5_readPlace_139 rfl ?_
      refine csL [.int r19] [.long (ml21 (h + 2) 3), .ref (h + 2)] (pc := 141) dX5_readPlace_141 ml_X5_152 st_X11_only rfl rfl (Nat.le_of_ble_eq_true rfl) (Nat.le_of_ble_eq_true rfl) (wL.mono (fun r24 mi25 ml26 F => ?_) F)
      refine wp_lor (pc := 144) dX5_readPlace_144 ?_
      refine wp_putL (pc := 145) dX5_readPlace_145 fl_X5_148 rfl rfl (TX0s_k (TX5s_a8 th)) ?_
      exact r_V (pc := 148) dX5_readPlace_148 rfl F
    · have F := F.2 c23
      refine wp_aload_n (pc := 116) dX5_readPlace_116 rfl ?_
      refine wp_getR (pc := 117) dX5_readPlace_117 fl_X5_18 rfl (TX5s_k th) (TX5s_r8 th) ?_
      refine wp_iload_n (pc := 120) dX5_readPlace_120 rfl ?_
      refine wp_iconst (v := 4) (pc := 121) dX5_readPlace_121 (by decide) ?_
      refine wp_isub (pc := 122) dX5_readPlace_122 ?_
      refine wp_iload (pc := 123) dX5_readPlace_123 rfl ?_
      refine cvV [.int (x1 - 4), .int r19] [] (pc := 125) dX5_readPlace_125 ml_X5_145 iv_X0_addPerson (TX0s_k (TX5s_a8 th)) (cl_X0 rfl) rfl rfl (Nat.le_of_ble_eq_true rfl) (Nat.le_of_ble_eq_true rfl) (wV.mono (fun mi28 ml29 F => ?_) F)
      refine wp_goto (tgt := 148) (pc := 128) dX5_readPlace_128 (by decide) ?_
      exact r_V (pc := 148) dX5_readPlace_148 rfl F
  · have F := F.2 c22
    refine wp_aload_n (pc := 98) dX5_readPlace_98 rfl ?_
    refine wp_getR (pc := 99) dX5_readPlace_99 fl_X5_18 rfl (TX5s_k th) (TX5s_r8 th) ?_
    refine wp_iload_n (pc := 102) dX5_readPlace_102 rfl ?_
    refine wp_iload (pc := 103) dX5_readPlace_103 rfl ?_
    refine cvV [.int x1, .int r19] [] (pc := 105) dX5_readPlace_105 ml_X5_142 iv_X0_addPlayer (TX0s_k (TX5s_a8 th)) (cl_X0 rfl) rfl rfl (Nat.le_of_ble_eq_true rfl) (Nat.le_of_ble_eq_true rfl) (wV.mono (fun mi31 ml32 F => ?_) F)
    refine wp_goto (tgt := 148) (pc := 108) dX5_readPlace_108 (by decide) ?_
    exact r_V (pc := 148) dX5_readPlace_148 rfl F
theorem w_X5_readPlace_44 {l : Launch} {d : Nat} {kd : pm_K} {mr : pm_R} {h : Nat} {x1 : Int32} {x2 : Int32} {x3 : Int32} {x4 : Int32} {mi : pm_I} {ml : pm_L} {K : pm_I → pm_L → Prop} (th : TX5s kd mr h)
    (F : ((x4 = 0 → c_X5_readPlace_67 l (d + 1) kd mr h x1 x3 x4 mi ml K) ∧ (¬ x4 = 0 → (((mi (h + 2) 5) < 6 → c_X5_readPlace_67 l (d + 1) kd mr h x1 x3 x4 mi ml K) ∧ (¬ (mi (h + 2) 5) < 6 → c_X5_readPlace_61 l (d + 1) kd mr h x1 x2 x3 x4 mi ml K))))) :
    c_X5_readPlace_44 l (d + 1) kd mr h x1 x2 x3 x4 mi ml K := by
  show wp l M_X5_readPlace (d + 1) 0 0 44 [some (.ref h), some (.int x1), some (.int x2), some (.int x3), some (.int x4), none, none, none] [] 0 0 kd mi ml mr _
  refine wp_iload (pc := 44) dX5_readPlace_44 rfl ?_
  refine wp_if_eq (tgt := 67) (pc := 46) dX5_readPlace_46 (by decide) (fun c33 => ?_) (fun c33 => ?_)
  · have F := F.1 c33
    exact wp_less (L' := [some (.ref h), some (.int x1), none, some (.int x3), some (.int x4), none, none, none]) ⟨rfl, ⟨rfl, ⟨rfl, ⟨rfl, trivial⟩⟩⟩⟩ F
  · have F := F.2 c33
    refine wp_aload_n (pc := 49) dX5_readPlace_49 rfl ?_
    refine wp_getR (pc := 50) dX5_readPlace_50 fl_X5_18 rfl (TX5s_k th) (TX5s_r8 th) ?_
    refine wp_getI (pc := 53) dX5_readPlace_53 fl_X5_133 rfl (TX0s_k (TX5s_a8 th)) ?_
    refine wp_bipush (v := 6) (pc := 56) dX5_readPlace_56 (by decide) ?_
    refine wp_icmp_lt (tgt := 67) (pc := 58) dX5_readPlace_58 (by decide) (fun c34 => ?_) (fun c34 => ?_)
    · have F := F.1 c34
      exact wp_less (L' := [some (.ref h), some (.int x1), none, some (.int x3), some (.int x4), none, none, none]) ⟨rfl, ⟨rfl, ⟨rfl, ⟨rfl, trivial⟩⟩⟩⟩ F
    · have F := F.2 c34
      exact wp_less (L' := [some (.ref h), some (.int x1), some (.int x2), some (.int x3), some (.int x4), none, none, none]) ⟨rfl, ⟨rfl, ⟨rfl, ⟨rfl, ⟨rfl, trivial⟩⟩⟩⟩⟩ F
/-- readPlace(II)V -/
theorem w_X5_readPlace {l : Launch} {d : Nat} {kd : pm_K} {mr : pm_R} {h : Nat} {x1 : Int32} {x2 : Int32} {mi : pm_I} {ml : pm_L} {K : pm_I → pm_L → Prop} (th : TX5s kd mr h)
    (F : (((!decide (4 ≤ x1)) = false → c_X5_readPlace_44 l (d + 1) kd mr h x1 x2 (b2i (!decide (4 ≤ x1))) (b2i (!decide ((!decide (4 ≤ x1)) = true) && (!decide (8 ≤ x1)))) mi ml K) ∧ ((!decide (4 ≤ x1)) = true → ((6 ≤ (mi (h + 2) 4) → c_X5_readPlace_61 l (d + 1) kd mr h x1 x2 (b2i (!decide (4 ≤ x1))) (b2i (!decide ((!decide (4 ≤ x1)) = true) && (!decide (8 ≤ x1)))) mi ml K) ∧ (¬ 6 ≤ (mi (h + 2) 4) → c_X5_readPlace_44 l (d + 1) kd mr h x1 x2 (b2i (!decide (4 ≤ x1))) (b2i (!decide ((!decide (4 ≤ x1)) = true) && (!decide (8 ≤ x1)))) mi ml K))))) :
    wV l M_X5_readPlace (d + 1) [.ref h, .int x1, .int x2] kd mr mi ml K := by
  show wp l M_X5_readPlace (d + 1) 0 0 0 [some (.ref h), some (.int x1), some (.int x2), none, none, none, none, none] [] 0 0 kd mi ml mr _
  refine wp_iload_n (pc := 0) dX5_readPlace_0 rfl ?_
  refine wp_iconst (v := 4) (pc := 1) dX5_readPlace_1 (by decide) ?_
  suffices J1 : ∀ v2 : Int32, v2 = (b2i (!decide (4 ≤ x1))) → wp l M_X5_readPlace (d + 1) 0 0 10 [some (.ref h), some (.int x1), some (.int x2), none, none, none, none, none] [.int v2] 0 0 kd mi ml mr _ by
      refine wp_icmp_ge (tgt := 9) (pc := 2) dX5_readPlace_2 (by decide) (fun c3 => ?_) (fun c3 => ?_)
      · refine wp_iconst (v := 0) (pc := 9) dX5_readPlace_9 (by decide) ?_
        exact J1 _ (by simp only [eq_true c3, if_true, if_false, decide_true, decide_false, Bool.not_true, Bool.not_false, Bool.true_and, Bool.false_and, Bool.true_or, Bool.false_or, b2i_t, b2i_f, ite_true, ite_false, not_true_eq_false, not_false_eq_true, reduceCtorEq, decide_eq_true_eq])
      · refine wp_iconst (v := 1) (pc := 5) dX5_readPlace_5 (by decide) ?_
        refine wp_goto (tgt := 10) (pc := 6) dX5_readPlace_6 (by decide) ?_
        exact J1 _ (by simp only [c3, if_true, if_false, decide_true, decide_false, Bool.not_true, Bool.not_false, Bool.true_and, Bool.false_and, Bool.true_or, Bool.false_or, b2i_t, b2i_f, ite_true, ite_false, not_true_eq_false, not_false_eq_true, reduceCtorEq, decide_eq_true_eq])
  intro v2 ev2
  subst ev2
  refine wp_istore_n (pc := 10) dX5_readPlace_10 (Nat.le_of_ble_eq_true rfl) rfl ?_
  show wp l M_X5_readPlace (d + 1) 0 0 _ [some (.ref h), some (.int x1), some (.int x2), some (.int (b2i (!decide (4 ≤ x1)))), none, none, none, none] _ 0 0 kd _ _ mr _
  refine wp_iload_n (pc := 11) dX5_readPlace_11 rfl ?_
  suffices J4 : ∀ v5 : Int32, v5 = (b2i (!decide ((!decide (4 ≤ x1)) = true) && (!decide (8 ≤ x1)))) → wp l M_X5_readPlace (d + 1) 0 0 26 [some (.ref h), some (.int x1), some (.int x2), some (.int (b2i (!decide (4 ≤ x1)))), none, none, none, none] [.int v5] 0 0 kd mi ml mr _ by
      refine b_ne (tgt := 25) (pc := 12) dX5_readPlace_12 (by decide) (fun c6 => ?_) (fun c6 => ?_)
      · refine wp_iconst (v := 0) (pc := 25) dX5_readPlace_25 (by decide) ?_
        exact J4 _ (by simp only [c6, if_true, if_false, decide_true, decide_false, Bool.not_true, Bool.not_false, Bool.true_and, Bool.false_and, Bool.true_or, Bool.false_or, b2i_t, b2i_f, ite_true, ite_false, not_true_eq_false, not_false_eq_true, reduceCtorEq, decide_eq_true_eq])
      · refine wp_iload_n (pc := 15) dX5_readPlace_15 rfl ?_
        refine wp_bipush (v := 8) (pc := 16) dX5_readPlace_16 (by decide) ?_
        refine wp_icmp_ge (tgt := 25) (pc := 18) dX5_readPlace_18 (by decide) (fun c7 => ?_) (fun c7 => ?_)
        · refine wp_iconst (v := 0) (pc := 25) dX5_readPlace_25 (by decide) ?_
          exact J4 _ (by simp only [c6, eq_true c7, if_true, if_false, decide_true, decide_false, Bool.not_true, Bool.not_false, Bool.true_and, Bool.false_and, Bool.true_or, Bool.false_or, b2i_t, b2i_f, ite_true, ite_false, not_true_eq_false, not_false_eq_true, reduceCtorEq, decide_eq_true_eq])
        · refine wp_iconst (v := 1) (pc := 21) dX5_readPlace_21 (by decide) ?_
          refine wp_goto (tgt := 26) (pc := 22) dX5_readPlace_22 (by decide) ?_
          exact J4 _ (by simp only [c6, c7, if_true, if_false, decide_true, decide_false, Bool.not_true, Bool.not_false, Bool.true_and, Bool.false_and, Bool.true_or, Bool.false_or, b2i_t, b2i_f, ite_true, ite_false, not_true_eq_false, not_false_eq_true, reduceCtorEq, decide_eq_true_eq])
  intro v5 ev5
  subst ev5
  refine wp_istore (pc := 26) dX5_readPlace_26 (Nat.le_of_ble_eq_true rfl) rfl ?_
  show wp l M_X5_readPlace (d + 1) 0 0 _ [some (.ref h), some (.int x1), some (.int x2), some (.int (b2i (!decide (4 ≤ x1)))), some (.int (b2i (!decide ((!decide (4 ≤ x1)) = true) && (!decide (8 ≤ x1))))), none, none, none] _ 0 0 kd _ _ mr _
  refine wp_iload_n (pc := 28) dX5_readPlace_28 rfl ?_
  refine b_eq (tgt := 44) (pc := 29) dX5_readPlace_29 (by decide) (fun c8 => ?_) (fun c8 => ?_)
  · have F := F.1 c8
    exact wp_less (L' := [some (.ref h), some (.int x1), some (.int x2), some (.int (b2i (!decide (4 ≤ x1)))), some (.int (b2i (!decide ((!decide (4 ≤ x1)) = true) && (!decide (8 ≤ x1))))), none, none, none]) ⟨rfl, ⟨rfl, ⟨rfl, ⟨rfl, ⟨rfl, trivial⟩⟩⟩⟩⟩ F
  · have F := F.2 c8
    refine wp_aload_n (pc := 32) dX5_readPlace_32 rfl ?_
    refine wp_getR (pc := 33) dX5_readPlace_33 fl_X5_18 rfl (TX5s_k th) (TX5s_r8 th) ?_
    refine wp_getI (pc := 36) dX5_readPlace_36 fl_X5_130 rfl (TX0s_k (TX5s_a8 th)) ?_
    refine wp_bipush (v := 6) (pc := 39) dX5_readPlace_39 (by decide) ?_
    refine wp_icmp_ge (tgt := 61) (pc := 41) dX5_readPlace_41 (by decide) (fun c9 => ?_) (fun c9 => ?_)
    · have F := F.1 c9
      exact wp_less (L' := [some (.ref h), some (.int x1), some (.int x2), some (.int (b2i (!decide (4 ≤ x1)))), some (.int (b2i (!decide ((!decide (4 ≤ x1)) = true) && (!decide (8 ≤ x1))))), none, none, none]) ⟨rfl, ⟨rfl, ⟨rfl, ⟨rfl, ⟨rfl, trivial⟩⟩⟩⟩⟩ F
    · have F := F.2 c9
      exact wp_less (L' := [some (.ref h), some (.int x1), some (.int x2), some (.int (b2i (!decide (4 ≤ x1)))), some (.int (b2i (!decide ((!decide (4 ≤ x1)) = true) && (!decide (8 ≤ x1))))), none, none, none]) ⟨rfl, ⟨rfl, ⟨rfl, ⟨rfl, ⟨rfl, trivial⟩⟩⟩⟩⟩ F
def c_X5_readDeed_62 (l : Launch) (d : Nat) (kd : pm_K) (mr : pm_R) (h : Nat) (x2 : Int32) (x3 : Int32) (x4 : Int32) (mi : pm_I) (ml : pm_L) (K : pm_I → pm_L → Prop) : Prop := wp l M_X5_readDeed d 0 0 62 [some (.ref h), none, some (.int x2), some (.int x3), some (.int x4)] [] 0 0 kd mi ml mr (qV kd mr K)
def c_X5_readDeed_43 (l : Launch) (d : Nat) (kd : pm_K) (mr : pm_R) (h : Nat) (x2 : Int32) (x3 : Int32) (x4 : Int32) (mi : pm_I) (ml : pm_L) (K : pm_I → pm_L → Prop) : Prop := wp l M_X5_readDeed d 0 0 43 [some (.ref h), none, some (.int x2), some (.int x3), some (.int x4)] [] 0 0 kd mi ml mr (qV kd mr K)
theorem w_X5_readDeed_43 {l : Launch} {d : Nat} {kd : pm_K} {mr : pm_R} {h : Nat} {x2 : Int32} {x3 : Int32} {x4 : Int32} {mi : pm_I} {ml : pm_L} {K : pm_I → pm_L → Prop} (th : TX5s kd mr h)
    (F : ((x2 < 3 → c_X5_readDeed_62 l (d + 1) kd mr h x2 x3 x4 mi ml K) ∧ (¬ x2 < 3 → ((x2 = 6 → c_X5_readDeed_62 l (d + 1) kd mr h x2 x3 x4 mi ml K) ∧ (¬ x2 = 6 → wI l M_X5_takeNumber d [.ref h, .int 0, .int 3] kd mr mi ml (fun r14 mi15 ml16 => c_X5_readDeed_62 l (d + 1) kd mr h x2 x3 r14 mi15 ml16 K)))))) :
    c_X5_readDeed_43 l (d + 1) kd mr h x2 x3 x4 mi ml K := by
  show wp l M_X5_readDeed (d + 1) 0 0 43 [some (.ref h), none, some (.int x2), some (.int x3), some (.int x4)] [] 0 0 kd mi ml mr _
  refine wp_iload_n (pc := 43) dX5_readDeed_43 rfl ?_
  refine wp_iconst (v := 3) (pc := 44) dX5_readDeed_44 (by decide) ?_
  refine wp_icmp_lt (tgt := 62) (pc := 45) dX5_readDeed_45 (by decide) (fun c12 => ?_) (fun c12 => ?_)
  · have F := F.1 c12
    exact wp_less (L' := [some (.ref h), none, some (.int x2), some (.int x3), some (.int x4)]) ⟨rfl, ⟨rfl, ⟨rfl, ⟨rfl, trivial⟩⟩⟩⟩ F
  · have F := F.2 c12
    refine wp_iload_n (pc := 48) dX5_readDeed_48 rfl ?_
    refine wp_bipush (v := 6) (pc := 49) dX5_readDeed_49 (by decide) ?_
    refine wp_icmp_eq (tgt := 62) (pc := 51) dX5_readDeed_51 (by decide) (fun c13 => ?_) (fun c13 => ?_)
    · have F := F.1 c13
      exact wp_less (L' := [some (.ref h), none, some (.int x2), some (.int x3), some (.int x4)]) ⟨rfl, ⟨rfl, ⟨rfl, ⟨rfl, trivial⟩⟩⟩⟩ F
    · have F := F.2 c13
      refine wp_aload_n (pc := 54) dX5_readDeed_54 rfl ?_
      refine wp_iconst (v := 0) (pc := 55) dX5_readDeed_55 (by decide) ?_
      refine wp_iconst (v := 3) (pc := 56) dX5_readDeed_56 (by decide) ?_
      refine cvI [.int 0, .int 3] [] (pc := 57) dX5_readDeed_57 ml_X5_105 iv_X5_takeNumber (TX5s_k th) (cl_X5 rfl) rfl rfl (Nat.le_of_ble_eq_true rfl) (Nat.le_of_ble_eq_true rfl) (wI.mono (fun r14 mi15 ml16 F => ?_) F)
      refine wp_istore (pc := 60) dX5_readDeed_60 (Nat.le_of_ble_eq_true rfl) rfl ?_
      show wp l M_X5_readDeed (d + 1) 0 0 _ [some (.ref h), none, some (.int x2), some (.int x3), some (.int r14)] _ 0 0 kd _ _ mr _
      exact wp_less (L' := [some (.ref h), none, some (.int x2), some (.int x3), some (.int r14)]) ⟨rfl, ⟨rfl, ⟨rfl, ⟨rfl, trivial⟩⟩⟩⟩ F
theorem w_X5_readDeed_62 {l : Launch} {d : Nat} {kd : pm_K} {mr : pm_R} {h : Nat} {x2 : Int32} {x3 : Int32} {x4 : Int32} {mi : pm_I} {ml : pm_L} {K : pm_I → pm_L → Prop} (th : TX5s kd mr h)
    (F : wV l M_X6_add d [.ref (h + 8), .int x2, .int x3, .int x4] kd mr mi ml (fun mi18 ml19 => K mi18 ml19)) :
    c_X5_readDeed_62 l (d + 1) kd mr h x2 x3 x4 mi ml K := by
  show wp l M_X5_readDeed (d + 1) 0 0 62 [some (.ref h), none, some (.int x2), some (.int x3), some (.int x4)] [] 0 0 kd mi ml mr _
  refine wp_aload_n (pc := 62) dX5_readDeed_62 rfl ?_
  refine wp_getR (pc := 63) dX5_readDeed_63 fl_X5_25 rfl (TX5s_k th) (TX5s_r9 th) ?_
  refine wp_iload_n (pc := 66) dX5_readDeed_66 rfl ?_
  refine wp_iload_n (pc := 67) dX5_readDeed_67 rfl ?_
  refine wp_iload (pc := 68) dX5_readDeed_68 rfl ?_
  refine cvV [.int x2, .int x3, .int x4] [] (pc := 70) dX5_readDeed_70 ml_X5_161 iv_X6_add (TX6s_k (TX5s_a9 th)) (cl_X6 rfl) rfl rfl (Nat.le_of_ble_eq_true rfl) (Nat.le_of_ble_eq_true rfl) (wV.mono (fun mi18 ml19 F => ?_) F)
  exact r_V (pc := 73) dX5_readDeed_73 rfl F
/-- readDeed()V -/
theorem w_X5_readDeed {l : Launch} {d : Nat} {kd : pm_K} {mr : pm_R} {h : Nat}  {mi : pm_I} {ml : pm_L} {K : pm_I → pm_L → Prop} (th : TX5s kd mr h)
    (F : wI l M_X5_takeWord d [.ref h, .retAddr 2] kd mr mi ml (fun r1 mi2 ml3 => ((¬ r1 = (-1) → wV l M_X5_noteIfFull d [.ref h, .int 40, .int (mi h 2)] kd mr mi2 ml3 (fun mi6 ml7 => ((r1 = 6 → c_X5_readDeed_43 l (d + 1) kd mr h r1 (-1) (-1) mi6 ml7 K) ∧ (¬ r1 = 6 → wI l M_X5_takeNumber d [.ref h, .int 0, .int 5] kd mr mi6 ml7 (fun r9 mi10 ml11 => c_X5_readDeed_43 l (d + 1) kd mr h r1 r9 (-1) mi10 ml11 K))))) ∧ (r1 = (-1) → K mi2 ml3)))) :
    wV l M_X5_readDeed (d + 1) [.ref h] kd mr mi ml K := by
  show wp l M_X5_readDeed (d + 1) 0 0 0 [some (.ref h), none, none, none, none] [] 0 0 kd mi ml mr _
  refine wp_aload_n (pc := 0) dX5_readDeed_0 rfl ?_
  refine wp_getI (pc := 1) dX5_readDeed_1 fl_X5_96 rfl (TX5s_k th) ?_
  refine wp_istore_n (pc := 4) dX5_readDeed_4 (Nat.le_of_ble_eq_true rfl) rfl ?_
  show wp l M_X5_readDeed (d + 1) 0 0 _ [some (.ref h), some (.int (mi h 2)), none, none, none] _ 0 0 kd _ _ mr _
  refine wp_aload_n (pc := 5) dX5_readDeed_5 rfl ?_
  refine wp_ldcS (i := 2) (by decide) (pc := 6) dX5_readDeed_6 rfl ?_
  refine cvI [.retAddr 2] [] (pc := 8) dX5_readDeed_8 ml_X5_101 iv_X5_takeWord (TX5s_k th) (cl_X5 rfl) rfl rfl (Nat.le_of_ble_eq_true rfl) (Nat.le_of_ble_eq_true rfl) (wI.mono (fun r1 mi2 ml3 F => ?_) F)
  refine wp_istore_n (pc := 11) dX5_readDeed_11 (Nat.le_of_ble_eq_true rfl) rfl ?_
  show wp l M_X5_readDeed (d + 1) 0 0 _ [some (.ref h), some (.int (mi h 2)), some (.int r1), none, none] _ 0 0 kd _ _ mr _
  refine wp_iload_n (pc := 12) dX5_readDeed_12 rfl ?_
  refine wp_iconst (v := -1) (pc := 13) dX5_readDeed_13 (by decide) ?_
  refine wp_icmp_ne (tgt := 18) (pc := 14) dX5_readDeed_14 (by decide) (fun c4 => ?_) (fun c4 => ?_)
  · have F := F.1 c4
    refine wp_aload_n (pc := 18) dX5_readDeed_18 rfl ?_
    refine wp_bipush (v := 40) (pc := 19) dX5_readDeed_19 (by decide) ?_
    refine wp_iload_n (pc := 21) dX5_readDeed_21 rfl ?_
    refine cvV [.int 40, .int (mi h 2)] [] (pc := 22) dX5_readDeed_22 ml_X5_158 iv_X5_noteIfFull (TX5s_k th) (cl_X5 rfl) rfl rfl (Nat.le_of_ble_eq_true rfl) (Nat.le_of_ble_eq_true rfl) (wV.mono (fun mi6 ml7 F => ?_) F)
    refine wp_iconst (v := -1) (pc := 25) dX5_readDeed_25 (by decide) ?_
    refine wp_istore_n (pc := 26) dX5_readDeed_26 (Nat.le_of_ble_eq_true rfl) rfl ?_
    show wp l M_X5_readDeed (d + 1) 0 0 _ [some (.ref h), some (.int (mi h 2)), some (.int r1), some (.int (-1)), none] _ 0 0 kd _ _ mr _
    refine wp_iconst (v := -1) (pc := 27) dX5_readDeed_27 (by decide) ?_
    refine wp_istore (pc := 28) dX5_readDeed_28 (Nat.le_of_ble_eq_true rfl) rfl ?_
    show wp l M_X5_readDeed (d + 1) 0 0 _ [some (.ref h), some (.int (mi h 2)), some (.int r1), some (.int (-1)), some (.int (-1))] _ 0 0 kd _ _ mr _
    refine wp_iload_n (pc := 30) dX5_readDeed_30 rfl ?_
    refine wp_bipush (v := 6) (pc := 31) dX5_readDeed_31 (by decide) ?_
    refine wp_icmp_eq (tgt := 43) (pc := 33) dX5_readDeed_33 (by decide) (fun c8 => ?_) (fun c8 => ?_)
    · have F := F.1 c8
      exact wp_less (L' := [some (.ref h), none, some (.int r1), some (.int (-1)), some (.int (-1))]) ⟨rfl, ⟨rfl, ⟨rfl, ⟨rfl, trivial⟩⟩⟩⟩ F
    · have F := F.2 c8
      refine wp_aload_n (pc := 36) dX5_readDeed_36 rfl ?_
      refine wp_iconst (v := 0) (pc := 37) dX5_readDeed_37 (by decide) ?_
      refine wp_iconst (v := 5) (pc := 38) dX5_readDeed_38 (by decide) ?_
      refine cvI [.int 0, .int 5] [] (pc := 39) dX5_readDeed_39 ml_X5_105 iv_X5_takeNumber (TX5s_k th) (cl_X5 rfl) rfl rfl (Nat.le_of_ble_eq_true rfl) (Nat.le_of_ble_eq_true rfl) (wI.mono (fun r9 mi10 ml11 F => ?_) F)
      refine wp_istore_n (pc := 42) dX5_readDeed_42 (Nat.le_of_ble_eq_true rfl) rfl ?_
      show wp l M_X5_readDeed (d + 1) 0 0 _ [some (.ref h), some (.int (mi h 2)), some (.int r1), some (.int r9), some (.int (-1))] _ 0 0 kd _ _ mr _
      exact wp_less (L' := [some (.ref h), none, some (.int r1), some (.int r9), some (.int (-1))]) ⟨rfl, ⟨rfl, ⟨rfl, ⟨rfl, trivial⟩⟩⟩⟩ F
  · have F := F.2 c4
    exact r_V (pc := 17) dX5_readDeed_17 rfl F
/-- noteIfFull(II)V -/
theorem w_X5_noteIfFull {l : Launch} {d : Nat} {kd : pm_K} {mr : pm_R} {h : Nat} {x1 : Int32} {x2 : Int32} {mi : pm_I} {ml : pm_L} {K : pm_I → pm_L → Prop} (th : TX5s kd mr h)
    (F : (((mi (h + 8) 3) < x1 → K mi ml) ∧ (¬ (mi (h + 8) 3) < x1 → wV l M_X5_note d [.ref h, .int 3, .int x2] kd mr mi ml (fun mi3 ml4 => K mi3 ml4)))) :
    wV l M_X5_noteIfFull (d + 1) [.ref h, .int x1, .int x2] kd mr mi ml K := by
  show wp l M_X5_noteIfFull (d + 1) 0 0 0 [some (.ref h), some (.int x1), some (.int x2)] [] 0 0 kd mi ml mr _
  refine wp_aload_n (pc := 0) dX5_noteIfFull_0 rfl ?_
  refine wp_getR (pc := 1) dX5_noteIfFull_1 fl_X5_25 rfl (TX5s_k th) (TX5s_r9 th) ?_
  refine wp_getI (pc := 4) dX5_noteIfFull_4 fl_X5_67 rfl (TX6s_k (TX5s_a9 th)) ?_
  refine wp_iload_n (pc := 7) dX5_noteIfFull_7 rfl ?_
  refine wp_icmp_lt (tgt := 17) (pc := 8) dX5_noteIfFull_8 (by decide) (fun c1 => ?_) (fun c1 => ?_)
  · have F := F.1 c1
    exact r_V (pc := 17) dX5_noteIfFull_17 rfl F
  · have F := F.2 c1
    refine wp_aload_n (pc := 11) dX5_noteIfFull_11 rfl ?_
    refine wp_iconst (v := 3) (pc := 12) dX5_noteIfFull_12 (by decide) ?_
    refine wp_iload_n (pc := 13) dX5_noteIfFull_13 rfl ?_
    refine cvV [.int 3, .int x2] [] (pc := 14) dX5_noteIfFull_14 ml_X5_136 iv_X5_note (TX5s_k th) (cl_X5 rfl) rfl rfl (Nat.le_of_ble_eq_true rfl) (Nat.le_of_ble_eq_true rfl) (wV.mono (fun mi3 ml4 F => ?_) F)
    exact r_V (pc := 17) dX5_noteIfFull_17 rfl F
def c_X5_readTrialLine_81 (l : Launch) (d : Nat) (kd : pm_K) (mr : pm_R) (h : Nat) (x2 : Int32) (mi : pm_I) (ml : pm_L) (K : pm_I → pm_L → Prop) : Prop := wp l M_X5_readTrialLine d 0 0 81 [some (.ref h), none, some (.int x2), none, none] [] 0 0 kd mi ml mr (qV kd mr K)
theorem w_X5_readTrialLine_81 {l : Launch} {d : Nat} {kd : pm_K} {mr : pm_R} {h : Nat} {x2 : Int32} {mi : pm_I} {ml : pm_L} {K : pm_I → pm_L → Prop} (th : TX5s kd mr h)
    (F : wI l M_X5_takeNumber d [.ref h, .int 0, .int 7] kd mr mi ml (fun r17 mi18 ml19 => wI l M_X5_takeNumber d [.ref h, .int 0, .int 7] kd mr mi18 ml19 (fun r20 mi21 ml22 => wV l M_X6_add d [.ref ((h + 12) + 1), .int x2, .int r17, .int r20] kd mr mi21 ml22 (fun mi24 ml25 => K mi24 ml25)))) :
    c_X5_readTrialLine_81 l (d + 1) kd mr h x2 mi ml K := by
  show wp l M_X5_readTrialLine (d + 1) 0 0 81 [some (.ref h), none, some (.int x2), none, none] [] 0 0 kd mi ml mr _
  refine wp_aload_n (pc := 81) dX5_readTrialLine_81 rfl ?_
  refine wp_iconst (v := 0) (pc := 82) dX5_readTrialLine_82 (by decide) ?_
  refine wp_bipush (v := 7) (pc := 83) dX5_readTrialLine_83 (by decide) ?_
  refine cvI [.int 0, .int 7] [] (pc := 85) dX5_readTrialLine_85 ml_X5_105 iv_X5_takeNumber (TX5s_k th) (cl_X5 rfl) rfl rfl (Nat.le_of_ble_eq_true rfl) (Nat.le_of_ble_eq_true rfl) (wI.mono (fun r17 mi18 ml19 F => ?_) F)
  refine wp_istore_n (pc := 88) dX5_readTrialLine_88 (Nat.le_of_ble_eq_true rfl) rfl ?_
  show wp l M_X5_readTrialLine (d + 1) 0 0 _ [some (.ref h), none, some (.int x2), some (.int r17), none] _ 0 0 kd _ _ mr _
  refine wp_aload_n (pc := 89) dX5_readTrialLine_89 rfl ?_
  refine wp_iconst (v := 0) (pc := 90) dX5_readTrialLine_90 (by decide) ?_
  refine wp_bipush (v := 7) (pc := 91) dX5_readTrialLine_91 (by decide) ?_
  refine cvI [.int 0, .int 7] [] (pc := 93) dX5_readTrialLine_93 ml_X5_105 iv_X5_takeNumber (TX5s_k th) (cl_X5 rfl) rfl rfl (Nat.le_of_ble_eq_true rfl) (Nat.le_of_ble_eq_true rfl) (wI.mono (fun r20 mi21 ml22 F => ?_) F)
  refine wp_istore (pc := 96) dX5_readTrialLine_96 (Nat.le_of_ble_eq_true rfl) rfl ?_
  show wp l M_X5_readTrialLine (d + 1) 0 0 _ [some (.ref h), none, some (.int x2), some (.int r17), some (.int r20)] _ 0 0 kd _ _ mr _
  refine wp_aload_n (pc := 98) dX5_readTrialLine_98 rfl ?_
  refine wp_getR (pc := 99) dX5_readTrialLine_99 fl_X5_32 rfl (TX5s_k th) (TX5s_r10 th) ?_
  refine wp_getR (pc := 102) dX5_readTrialLine_102 fl_X5_173 rfl (TX10s_k (TX5s_a10 th)) (TX10s_r2 (TX5s_a10 th)) ?_
  refine wp_iload_n (pc := 105) dX5_readTrialLine_105 rfl ?_
  refine wp_iload_n (pc := 106) dX5_readTrialLine_106 rfl ?_
  refine wp_iload (pc := 107) dX5_readTrialLine_107 rfl ?_
  refine cvV [.int x2, .int r17, .int r20] [] (pc := 109) dX5_readTrialLine_109 ml_X5_161 iv_X6_add (TX6s_k (TX10s_a2 (TX5s_a10 th))) (cl_X6 rfl) rfl rfl (Nat.le_of_ble_eq_true rfl) (Nat.le_of_ble_eq_true rfl) (wV.mono (fun mi24 ml25 F => ?_) F)
  exact r_V (pc := 112) dX5_readTrialLine_112 rfl F
/-- readTrialLine()V -/
theorem w_X5_readTrialLine {l : Launch} {d : Nat} {kd : pm_K} {mr : pm_R} {h : Nat}  {mi : pm_I} {ml : pm_L} {K : pm_I → pm_L → Prop} (th : TX5s kd mr h)
    (F : wI l M_X5_takeWord d [.ref h, .retAddr 3] kd mr mi ml (fun r1 mi2 ml3 => ((¬ r1 = (-1) → ((r1 ≤ 1 → (((mi2 ((h + 12) + 1) 3) < 12 → c_X5_readTrialLine_81 l (d + 1) kd mr h r1 mi2 ml3 K) ∧ (¬ (mi2 ((h + 12) + 1) 3) < 12 → wV l M_X5_note d [.ref h, .int 3, .int (mi h 2)] kd mr mi2 ml3 (fun mi8 ml9 => c_X5_readTrialLine_81 l (d + 1) kd mr h r1 mi8 ml9 K)))) ∧ (¬ r1 ≤ 1 → ((¬ r1 = 2 → wI l M_X5_takeNumber d [.ref h, .int 0, .int 8] kd mr mi2 ml3 (fun r11 mi12 ml13 => K (pm_up mi12 (h + 12) 1 r11) ml13)) ∧ (r1 = 2 → wI l M_X5_takeNumber d [.ref h, .int 1, .int 8] kd mr mi2 ml3 (fun r14 mi15 ml16 => K (pm_up mi15 (h + 12) 0 r14) ml16)))))) ∧ (r1 = (-1) → K mi2 ml3)))) :
    wV l M_X5_readTrialLine (d + 1) [.ref h] kd mr mi ml K := by
  show wp l M_X5_readTrialLine (d + 1) 0 0 0 [some (.ref h), none, none, none, none] [] 0 0 kd mi ml mr _
  refine wp_aload_n (pc := 0) dX5_readTrialLine_0 rfl ?_
  refine wp_getI (pc := 1) dX5_readTrialLine_1 fl_X5_96 rfl (TX5s_k th) ?_
  refine wp_istore_n (pc := 4) dX5_readTrialLine_4 (Nat.le_of_ble_eq_true rfl) rfl ?_
  show wp l M_X5_readTrialLine (d + 1) 0 0 _ [some (.ref h), some (.int (mi h 2)), none, none, none] _ 0 0 kd _ _ mr _
  refine wp_aload_n (pc := 5) dX5_readTrialLine_5 rfl ?_
  refine wp_ldcS (i := 3) (by decide) (pc := 6) dX5_readTrialLine_6 rfl ?_
  refine cvI [.retAddr 3] [] (pc := 8) dX5_readTrialLine_8 ml_X5_101 iv_X5_takeWord (TX5s_k th) (cl_X5 rfl) rfl rfl (Nat.le_of_ble_eq_true rfl) (Nat.le_of_ble_eq_true rfl) (wI.mono (fun r1 mi2 ml3 F => ?_) F)
  refine wp_istore_n (pc := 11) dX5_readTrialLine_11 (Nat.le_of_ble_eq_true rfl) rfl ?_
  show wp l M_X5_readTrialLine (d + 1) 0 0 _ [some (.ref h), some (.int (mi h 2)), some (.int r1), none, none] _ 0 0 kd _ _ mr _
  refine wp_iload_n (pc := 12) dX5_readTrialLine_12 rfl ?_
  refine wp_iconst (v := -1) (pc := 13) dX5_readTrialLine_13 (by decide) ?_
  refine wp_icmp_ne (tgt := 18) (pc := 14) dX5_readTrialLine_14 (by decide) (fun c4 => ?_) (fun c4 => ?_)
  · have F := F.1 c4
    refine wp_iload_n (pc := 18) dX5_readTrialLine_18 rfl ?_
    refine wp_iconst (v := 1) (pc := 19) dX5_readTrialLine_19 (by decide) ?_
    refine wp_icmp_le (tgt := 60) (pc := 20) dX5_readTrialLine_20 (by decide) (fun c5 => ?_) (fun c5 => ?_)
    · have F := F.1 c5
      refine wp_aload_n (pc := 60) dX5_readTrialLine_60 rfl ?_
      refine wp_getR (pc := 61) dX5_readTrialLine_61 fl_X5_32 rfl (TX5s_k th) (TX5s_r10 th) ?_
      refine wp_getR (pc := 64) dX5_readTrialLine_64 fl_X5_173 rfl (TX10s_k (TX5s_a10 th)) (TX10s_r2 (TX5s_a10 th)) ?_
      refine wp_getI (pc := 67) dX5_readTrialLine_67 fl_X5_67 rfl (TX6s_k (TX10s_a2 (TX5s_a10 th))) ?_
      refine wp_bipush (v := 12) (pc := 70) dX5_readTrialLine_70 (by decide) ?_
      refine wp_icmp_lt (tgt := 81) (pc := 72) dX5_readTrialLine_72 (by decide) (fun c6 => ?_) (fun c6 => ?_)
      · have F := F.1 c6
        exact wp_less (L' := [some (.ref h), none, some (.int r1), none, none]) ⟨rfl, ⟨rfl, trivial⟩⟩ F
      · have F := F.2 c6
        refine wp_aload_n (pc := 75) dX5_readTrialLine_75 rfl ?_
        refine wp_iconst (v := 3) (pc := 76) dX5_readTrialLine_76 (by decide) ?_
        refine wp_iload_n (pc := 77) dX5_readTrialLine_77 rfl ?_
        refine cvV [.int 3, .int (mi h 2)] [] (pc := 78) dX5_readTrialLine_78 ml_X5_136 iv_X5_note (TX5s_k th) (cl_X5 rfl) rfl rfl (Nat.le_of_ble_eq_true rfl) (Nat.le_of_ble_eq_true rfl) (wV.mono (fun mi8 ml9 F => ?_) F)
        exact wp_less (L' := [some (.ref h), none, some (.int r1), none, none]) ⟨rfl, ⟨rfl, trivial⟩⟩ F
    · have F := F.2 c5
      refine wp_iload_n (pc := 23) dX5_readTrialLine_23 rfl ?_
      refine wp_iconst (v := 2) (pc := 24) dX5_readTrialLine_24 (by decide) ?_
      refine wp_icmp_ne (tgt := 45) (pc := 25) dX5_readTrialLine_25 (by decide) (fun c10 => ?_) (fun c10 => ?_)
      · have F := F.1 c10
        refine wp_aload_n (pc := 45) dX5_readTrialLine_45 rfl ?_
        refine wp_getR (pc := 46) dX5_readTrialLine_46 fl_X5_32 rfl (TX5s_k th) (TX5s_r10 th) ?_
        refine wp_aload_n (pc := 49) dX5_readTrialLine_49 rfl ?_
        refine wp_iconst (v := 0) (pc := 50) dX5_readTrialLine_50 (by decide) ?_
        refine wp_bipush (v := 8) (pc := 51) dX5_readTrialLine_51 (by decide) ?_
        refine cvI [.int 0, .int 8] [.ref (h + 12)] (pc := 53) dX5_readTrialLine_53 ml_X5_105 iv_X5_takeNumber (TX5s_k th) (cl_X5 rfl) rfl rfl (Nat.le_of_ble_eq_true rfl) (Nat.le_of_ble_eq_true rfl) (wI.mono (fun r11 mi12 ml13 F => ?_) F)
        refine wp_putI (pc := 56) dX5_readTrialLine_56 fl_X5_170 rfl rfl (TX10s_k (TX5s_a10 th)) ?_
        exact r_V (pc := 59) dX5_readTrialLine_59 rfl F
      · have F := F.2 c10
        refine wp_aload_n (pc := 28) dX5_readTrialLine_28 rfl ?_
        refine wp_getR (pc := 29) dX5_readTrialLine_29 fl_X5_32 rfl (TX5s_k th) (TX5s_r10 th) ?_
        refine wp_aload_n (pc := 32) dX5_readTrialLine_32 rfl ?_
        refine wp_iconst (v := 1) (pc := 33) dX5_readTrialLine_33 (by decide) ?_
        refine wp_bipush (v := 8) (pc := 34) dX5_readTrialLine_34 (by decide) ?_
        refine cvI [.int 1, .int 8] [.ref (h + 12)] (pc := 36) dX5_readTrialLine_36 ml_X5_105 iv_X5_takeNumber (TX5s_k th) (cl_X5 rfl) rfl rfl (Nat.le_of_ble_eq_true rfl) (Nat.le_of_ble_eq_true rfl) (wI.mono (fun r14 mi15 ml16 F => ?_) F)
        refine wp_putI (pc := 39) dX5_readTrialLine_39 fl_X5_167 rfl rfl (TX10s_k (TX5s_a10 th)) ?_
        refine wp_goto (tgt := 59) (pc := 42) dX5_readTrialLine_42 (by decide) ?_
        exact r_V (pc := 59) dX5_readTrialLine_59 rfl F
  · have F := F.2 c4
    exact r_V (pc := 17) dX5_readTrialLine_17 rfl F
/-- readFact()V -/
theorem w_X5_readFact {l : Launch} {d : Nat} {kd : pm_K} {mr : pm_R} {h : Nat}  {mi : pm_I} {ml : pm_L} {K : pm_I → pm_L → Prop} (th : TX5s kd mr h)
    (F : wI l M_X5_takeWord d [.ref h, .retAddr 4] kd mr mi ml (fun r1 mi2 ml3 => ((¬ r1 = (-1) → wV l M_X5_noteIfFull d [.ref h, .int 10, .int (mi h 2)] kd mr mi2 ml3 (fun mi6 ml7 => wI l M_X5_takeNumber d [.ref h, .int 0, .int 7] kd mr mi6 ml7 (fun r8 mi9 ml10 => wI l M_X5_takeNumber d [.ref h, .int 0, .int 7] kd mr mi9 ml10 (fun r11 mi12 ml13 => wV l M_X6_add d [.ref (h + 8), .int r1, .int r8, .int r11] kd mr mi12 ml13 (fun mi15 ml16 => K mi15 ml16))))) ∧ (r1 = (-1) → K mi2 ml3)))) :
    wV l M_X5_readFact (d + 1) [.ref h] kd mr mi ml K := by
  show wp l M_X5_readFact (d + 1) 0 0 0 [some (.ref h), none, none, none, none] [] 0 0 kd mi ml mr _
  refine wp_aload_n (pc := 0) dX5_readFact_0 rfl ?_
  refine wp_getI (pc := 1) dX5_readFact_1 fl_X5_96 rfl (TX5s_k th) ?_
  refine wp_istore_n (pc := 4) dX5_readFact_4 (Nat.le_of_ble_eq_true rfl) rfl ?_
  show wp l M_X5_readFact (d + 1) 0 0 _ [some (.ref h), some (.int (mi h 2)), none, none, none] _ 0 0 kd _ _ mr _
  refine wp_aload_n (pc := 5) dX5_readFact_5 rfl ?_
  refine wp_ldcS (i := 4) (by decide) (pc := 6) dX5_readFact_6 rfl ?_
  refine cvI [.retAddr 4] [] (pc := 8) dX5_readFact_8 ml_X5_101 iv_X5_takeWord (TX5s_k th) (cl_X5 rfl) rfl rfl (Nat.le_of_ble_eq_true rfl) (Nat.le_of_ble_eq_true rfl) (wI.mono (fun r1 mi2 ml3 F => ?_) F)
  refine wp_istore_n (pc := 11) dX5_readFact_11 (Nat.le_of_ble_eq_true rfl) rfl ?_
  show wp l M_X5_readFact (d + 1) 0 0 _ [some (.ref h), some (.int (mi h 2)), some (.int r1), none, none] _ 0 0 kd _ _ mr _
  refine wp_iload_n (pc := 12) dX5_readFact_12 rfl ?_
  refine wp_iconst (v := -1) (pc := 13) dX5_readFact_13 (by decide) ?_
  refine wp_icmp_ne (tgt := 18) (pc := 14) dX5_readFact_14 (by decide) (fun c4 => ?_) (fun c4 => ?_)
  · have F := F.1 c4
    refine wp_aload_n (pc := 18) dX5_readFact_18 rfl ?_
    refine wp_bipush (v := 10) (pc := 19) dX5_readFact_19 (by decide) ?_
    refine wp_iload_n (pc := 21) dX5_readFact_21 rfl ?_
    refine cvV [.int 10, .int (mi h 2)] [] (pc := 22) dX5_readFact_22 ml_X5_158 iv_X5_noteIfFull (TX5s_k th) (cl_X5 rfl) rfl rfl (Nat.le_of_ble_eq_true rfl) (Nat.le_of_ble_eq_true rfl) (wV.mono (fun mi6 ml7 F => ?_) F)
    refine wp_aload_n (pc := 25) dX5_readFact_25 rfl ?_
    refine wp_iconst (v := 0) (pc := 26) dX5_readFact_26 (by decide) ?_
    refine wp_bipush (v := 7) (pc := 27) dX5_readFact_27 (by decide) ?_
    refine cvI [.int 0, .int 7] [] (pc := 29) dX5_readFact_29 ml_X5_105 iv_X5_takeNumber (TX5s_k th) (cl_X5 rfl) rfl rfl (Nat.le_of_ble_eq_true rfl) (Nat.le_of_ble_eq_true rfl) (wI.mono (fun r8 mi9 ml10 F => ?_) F)
    refine wp_istore_n (pc := 32) dX5_readFact_32 (Nat.le_of_ble_eq_true rfl) rfl ?_
    show wp l M_X5_readFact (d + 1) 0 0 _ [some (.ref h), some (.int (mi h 2)), some (.int r1), some (.int r8), none] _ 0 0 kd _ _ mr _
    refine wp_aload_n (pc := 33) dX5_readFact_33 rfl ?_
    refine wp_iconst (v := 0) (pc := 34) dX5_readFact_34 (by decide) ?_
    refine wp_bipush (v := 7) (pc := 35) dX5_readFact_35 (by decide) ?_
    refine cvI [.int 0, .int 7] [] (pc := 37) dX5_readFact_37 ml_X5_105 iv_X5_takeNumber (TX5s_k th) (cl_X5 rfl) rfl rfl (Nat.le_of_ble_eq_true rfl) (Nat.le_of_ble_eq_true rfl) (wI.mono (fun r11 mi12 ml13 F => ?_) F)
    refine wp_istore (pc := 40) dX5_readFact_40 (Nat.le_of_ble_eq_true rfl) rfl ?_
    show wp l M_X5_readFact (d + 1) 0 0 _ [some (.ref h), some (.int (mi h 2)), some (.int r1), some (.int r8), some (.int r11)] _ 0 0 kd _ _ mr _
    refine wp_aload_n (pc := 42) dX5_readFact_42 rfl ?_
    refine wp_getR (pc := 43) dX5_readFact_43 fl_X5_25 rfl (TX5s_k th) (TX5s_r9 th) ?_
    refine wp_iload_n (pc := 46) dX5_readFact_46 rfl ?_
    refine wp_iload_n (pc := 47) dX5_readFact_47 rfl ?_
    refine wp_iload (pc := 48) dX5_readFact_48 rfl ?_
    refine cvV [.int r1, .int r8, .int r11] [] (pc := 50) dX5_readFact_50 ml_X5_161 iv_X6_add (TX6s_k (TX5s_a9 th)) (cl_X6 rfl) rfl rfl (Nat.le_of_ble_eq_true rfl) (Nat.le_of_ble_eq_true rfl) (wV.mono (fun mi15 ml16 F => ?_) F)
    exact r_V (pc := 53) dX5_readFact_53 rfl F
  · have F := F.2 c4
    exact r_V (pc := 17) dX5_readFact_17 rfl F
def c_X5_takeSemicolon_16 (l : Launch) (d : Nat) (kd : pm_K) (mr : pm_R) (h : Nat)  (mi : pm_I) (ml : pm_L) (K : pm_I → pm_L → Prop) : Prop := wp l M_X5_takeSemicolon d 0 0 16 [some (.ref h)] [] 0 0 kd mi ml mr (qV kd mr K)
theorem w_X5_takeSemicolon_16 {l : Launch} {d : Nat} {kd : pm_K} {mr : pm_R} {h : Nat}  {mi : pm_I} {ml : pm_L} {K : pm_I → pm_L → Prop} (th : TX5s kd mr h)
    (F : wV l M_X5_stick d [.ref h] kd mr mi ml (fun mi7 ml8 => K mi7 ml8)) :
    c_X5_takeSemicolon_16 l (d + 1) kd mr h mi ml K := by
  show wp l M_X5_takeSemicolon (d + 1) 0 0 16 [some (.ref h)] [] 0 0 kd mi ml mr _
  refine wp_aload_n (pc := 16) dX5_takeSemicolon_16 rfl ?_
  refine cvV [] [] (pc := 17) dX5_takeSemicolon_17 ml_X5_194 iv_X5_stick (TX5s_k th) (cl_X5 rfl) rfl rfl (Nat.le_of_ble_eq_true rfl) (Nat.le_of_ble_eq_true rfl) (wV.mono (fun mi7 ml8 F => ?_) F)
  refine wp_goto (tgt := 27) (pc := 20) dX5_takeSemicolon_20 (by decide) ?_
  exact r_V (pc := 27) dX5_takeSemicolon_27 rfl F
/-- takeSemicolon()V -/
theorem w_X5_takeSemicolon {l : Launch} {d : Nat} {kd : pm_K} {mr : pm_R} {h : Nat}  {mi : pm_I} {ml : pm_L} {K : pm_I → pm_L → Prop} (th : TX5s kd mr h)
    (F : (((mi h 6) = 1 → c_X5_takeSemicolon_16 l (d + 1) kd mr h  mi ml K) ∧ (¬ (mi h 6) = 1 → (((mi h 4) = 3 → wV l M_X5_goOn d [.ref h] kd mr mi ml (fun mi4 ml5 => K mi4 ml5)) ∧ (¬ (mi h 4) = 3 → c_X5_takeSemicolon_16 l (d + 1) kd mr h  mi ml K))))) :
    wV l M_X5_takeSemicolon (d + 1) [.ref h] kd mr mi ml K := by
  show wp l M_X5_takeSemicolon (d + 1) 0 0 0 [some (.ref h)] [] 0 0 kd mi ml mr _
  refine wp_aload_n (pc := 0) dX5_takeSemicolon_0 rfl ?_
  refine wp_getI (pc := 1) dX5_takeSemicolon_1 fl_X5_58 rfl (TX5s_k th) ?_
  refine wp_iconst (v := 1) (pc := 4) dX5_takeSemicolon_4 (by decide) ?_
  refine wp_icmp_eq (tgt := 16) (pc := 5) dX5_takeSemicolon_5 (by decide) (fun c1 => ?_) (fun c1 => ?_)
  · have F := F.1 c1
    exact wp_less (L' := [some (.ref h)]) ⟨rfl, trivial⟩ F
  · have F := F.2 c1
    refine wp_aload_n (pc := 8) dX5_takeSemicolon_8 rfl ?_
    refine wp_getI (pc := 9) dX5_takeSemicolon_9 fl_X5_74 rfl (TX5s_k th) ?_
    refine wp_iconst (v := 3) (pc := 12) dX5_takeSemicolon_12 (by decide) ?_
    refine wp_icmp_eq (tgt := 23) (pc := 13) dX5_takeSemicolon_13 (by decide) (fun c2 => ?_) (fun c2 => ?_)
    · have F := F.1 c2
      refine wp_aload_n (pc := 23) dX5_takeSemicolon_23 rfl ?_
      refine cvV [] [] (pc := 24) dX5_takeSemicolon_24 ml_X5_71 iv_X5_goOn (TX5s_k th) (cl_X5 rfl) rfl rfl (Nat.le_of_ble_eq_true rfl) (Nat.le_of_ble_eq_true rfl) (wV.mono (fun mi4 ml5 F => ?_) F)
      exact r_V (pc := 27) dX5_takeSemicolon_27 rfl F
    · have F := F.2 c2
      exact wp_less (L' := [some (.ref h)]) ⟨rfl, trivial⟩ F
/-- checkWhole(I)V -/
theorem w_X5_checkWhole {l : Launch} {d : Nat} {kd : pm_K} {mr : pm_R} {h : Nat} {x1 : Int32} {mi : pm_I} {ml : pm_L} {K : pm_I → pm_L → Prop} (th : TX5s kd mr h)
    (F : ((¬ x1 = 0 → ((¬ x1 = 2 → K mi ml) ∧ (x1 = 2 → wB l M_X10_namesOneWhoIsNotThere d [.ref (h + 12)] kd mr mi ml (fun r3 mi4 ml5 => ((r3 = false → K mi4 ml5) ∧ (r3 = true → wV l M_X5_note d [.ref h, .int 4, .int (mi4 h 1)] kd mr mi4 ml5 (fun mi8 ml9 => K mi8 ml9))))))) ∧ (x1 = 0 → wL l M_X0_inhabited d [.ref (h + 2)] kd mr mi ml (fun r10 mi11 ml12 => wL l M_X0_inside d [.ref (h + 2)] kd mr mi11 ml12 (fun r13 mi14 ml15 => (((lg_cmp ((r10 ||| (ml12 (h + 2) 3)) &&& (r13 ^^^ (-1))) 0) = 0 → (((lg_cmp (r10 &&& (ml15 (h + 2) 3)) 0) = 0 → K mi14 ml15) ∧ (¬ (lg_cmp (r10 &&& (ml15 (h + 2) 3)) 0) = 0 → wV l M_X5_note d [.ref h, .int 5, .int (mi14 h 1)] kd mr mi14 ml15 (fun mi19 ml20 => K mi19 ml20)))) ∧ (¬ (lg_cmp ((r10 ||| (ml12 (h + 2) 3)) &&& (r13 ^^^ (-1))) 0) = 0 → wV l M_X5_note d [.ref h, .int 4, .int (mi14 h 1)] kd mr mi14 ml15 (fun mi22 ml23 => K mi22 ml23)))))))) :
    wV l M_X5_checkWhole (d + 1) [.ref h, .int x1] kd mr mi ml K := by
  show wp l M_X5_checkWhole (d + 1) 0 0 0 [some (.ref h), some (.int x1), none, none] [] 0 0 kd mi ml mr _
  refine wp_iload_n (pc := 0) dX5_checkWhole_0 rfl ?_
  refine wp_if_ne (tgt := 76) (pc := 1) dX5_checkWhole_1 (by decide) (fun c1 => ?_) (fun c1 => ?_)
  · have F := F.1 c1
    refine wp_iload_n (pc := 76) dX5_checkWhole_76 rfl ?_
    refine wp_iconst (v := 2) (pc := 77) dX5_checkWhole_77 (by decide) ?_
    refine wp_icmp_ne (tgt := 100) (pc := 78) dX5_checkWhole_78 (by decide) (fun c2 => ?_) (fun c2 => ?_)
    · have F := F.1 c2
      exact r_V (pc := 100) dX5_checkWhole_100 rfl F
    · have F := F.2 c2
      refine wp_aload_n (pc := 81) dX5_checkWhole_81 rfl ?_
      refine wp_getR (pc := 82) dX5_checkWhole_82 fl_X5_32 rfl (TX5s_k th) (TX5s_r10 th) ?_
      refine cvB [] [] (pc := 85) dX5_checkWhole_85 ml_X5_187 iv_X10_namesOneWhoIsNotThere (TX10s_k (TX5s_a10 th)) (cl_X10 rfl) rfl rfl (Nat.le_of_ble_eq_true rfl) (Nat.le_of_ble_eq_true rfl) (wB.mono (fun r3 mi4 ml5 F => ?_) F)
      refine b_eq (tgt := 100) (pc := 88) dX5_checkWhole_88 (by decide) (fun c6 => ?_) (fun c6 => ?_)
      · have F := F.1 c6
        exact r_V (pc := 100) dX5_checkWhole_100 rfl F
      · have F := F.2 c6
        refine wp_aload_n (pc := 91) dX5_checkWhole_91 rfl ?_
        refine wp_iconst (v := 4) (pc := 92) dX5_checkWhole_92 (by decide) ?_
        refine wp_aload_n (pc := 93) dX5_checkWhole_93 rfl ?_
        refine wp_getI (pc := 94) dX5_checkWhole_94 fl_X5_45 rfl (TX5s_k th) ?_
        refine cvV [.int 4, .int (mi4 h 1)] [] (pc := 97) dX5_checkWhole_97 ml_X5_136 iv_X5_note (TX5s_k th) (cl_X5 rfl) rfl rfl (Nat.le_of_ble_eq_true rfl) (Nat.le_of_ble_eq_true rfl) (wV.mono (fun mi8 ml9 F => ?_) F)
        exact r_V (pc := 100) dX5_checkWhole_100 rfl F
  · have F := F.2 c1
    refine wp_aload_n (pc := 4) dX5_checkWhole_4 rfl ?_
    refine wp_getR (pc := 5) dX5_checkWhole_5 fl_X5_18 rfl (TX5s_k th) (TX5s_r8 th) ?_
    refine cvL [] [] (pc := 8) dX5_checkWhole_8 ml_X5_178 iv_X0_inhabited (TX0s_k (TX5s_a8 th)) (cl_X0 rfl) rfl rfl (Nat.le_of_ble_eq_true rfl) (Nat.le_of_ble_eq_true rfl) (wL.mono (fun r10 mi11 ml12 F => ?_) F)
    refine wp_lstore_n (pc := 11) dX5_checkWhole_11 (Nat.le_of_ble_eq_true rfl) rfl ?_
    show wp l M_X5_checkWhole (d + 1) 0 0 _ [some (.ref h), some (.int x1), some (.long r10), none] _ 0 0 kd _ _ mr _
    refine wp_lload_n (pc := 12) dX5_checkWhole_12 rfl ?_
    refine wp_aload_n (pc := 13) dX5_checkWhole_13 rfl ?_
    refine wp_getR (pc := 14) dX5_checkWhole_14 fl_X5_18 rfl (TX5s_k th) (TX5s_r8 th) ?_
    refine wp_getL (pc := 17) dX5_checkWhole_17 fl_X5_148 rfl (TX0s_k (TX5s_a8 th)) ?_
    refine wp_lor (pc := 20) dX5_checkWhole_20 ?_
    refine wp_aload_n (pc := 21) dX5_checkWhole_21 rfl ?_
    refine wp_getR (pc := 22) dX5_checkWhole_22 fl_X5_18 rfl (TX5s_k th) (TX5s_r8 th) ?_
    refine cvL [] [.long (r10 ||| (ml12 (h + 2) 3))] (pc := 25) dX5_checkWhole_25 ml_X5_182 iv_X0_inside (TX0s_k (TX5s_a8 th)) (cl_X0 rfl) rfl rfl (Nat.le_of_ble_eq_true rfl) (Nat.le_of_ble_eq_true rfl) (wL.mono (fun r13 mi14 ml15 F => ?_) F)
    refine wp_ldc2 (v := -1) (pc := 28) dX5_checkWhole_28 (tb_3 164 rfl rfl) ?_
    refine wp_lxor (pc := 31) dX5_checkWhole_31 ?_
    refine wp_land (pc := 32) dX5_checkWhole_32 ?_
    refine wp_lconst (v := 0) (pc := 33) dX5_checkWhole_33 (by decide) ?_
    refine wp_lcmp (pc := 34) dX5_checkWhole_34 ?_
    refine wp_if_eq (tgt := 50) (pc := 35) dX5_checkWhole_35 (by decide) (fun c16 => ?_) (fun c16 => ?_)
    · have F := F.1 c16
      refine wp_lload_n (pc := 50) dX5_checkWhole_50 rfl ?_
      refine wp_aload_n (pc := 51) dX5_checkWhole_51 rfl ?_
      refine wp_getR (pc := 52) dX5_checkWhole_52 fl_X5_18 rfl (TX5s_k th) (TX5s_r8 th) ?_
      refine wp_getL (pc := 55) dX5_checkWhole_55 fl_X5_148 rfl (TX0s_k (TX5s_a8 th)) ?_
      refine wp_land (pc := 58) dX5_checkWhole_58 ?_
      refine wp_lconst (v := 0) (pc := 59) dX5_checkWhole_59 (by decide) ?_
      refine wp_lcmp (pc := 60) dX5_checkWhole_60 ?_
      refine wp_if_eq (tgt := 73) (pc := 61) dX5_checkWhole_61 (by decide) (fun c17 => ?_) (fun c17 => ?_)
      · have F := F.1 c17
        refine wp_goto (tgt := 100) (pc := 73) dX5_checkWhole_73 (by decide) ?_
        exact r_V (pc := 100) dX5_checkWhole_100 rfl F
      · have F := F.2 c17
        refine wp_aload_n (pc := 64) dX5_checkWhole_64 rfl ?_
        refine wp_iconst (v := 5) (pc := 65) dX5_checkWhole_65 (by decide) ?_
        refine wp_aload_n (pc := 66) dX5_checkWhole_66 rfl ?_
        refine wp_getI (pc := 67) dX5_checkWhole_67 fl_X5_45 rfl (TX5s_k th) ?_
        refine cvV [.int 5, .int (mi14 h 1)] [] (pc := 70) dX5_checkWhole_70 ml_X5_136 iv_X5_note (TX5s_k th) (cl_X5 rfl) rfl rfl (Nat.le_of_ble_eq_true rfl) (Nat.le_of_ble_eq_true rfl) (wV.mono (fun mi19 ml20 F => ?_) F)
        refine wp_goto (tgt := 100) (pc := 73) dX5_checkWhole_73 (by decide) ?_
        exact r_V (pc := 100) dX5_checkWhole_100 rfl F
    · have F := F.2 c16
      refine wp_aload_n (pc := 38) dX5_checkWhole_38 rfl ?_
      refine wp_iconst (v := 4) (pc := 39) dX5_checkWhole_39 (by decide) ?_
      refine wp_aload_n (pc := 40) dX5_checkWhole_40 rfl ?_
      refine wp_getI (pc := 41) dX5_checkWhole_41 fl_X5_45 rfl (TX5s_k th) ?_
      refine cvV [.int 4, .int (mi14 h 1)] [] (pc := 44) dX5_checkWhole_44 ml_X5_136 iv_X5_note (TX5s_k th) (cl_X5 rfl) rfl rfl (Nat.le_of_ble_eq_true rfl) (Nat.le_of_ble_eq_true rfl) (wV.mono (fun mi22 ml23 F => ?_) F)
      refine wp_goto (tgt := 73) (pc := 47) dX5_checkWhole_47 (by decide) ?_
      refine wp_goto (tgt := 100) (pc := 73) dX5_checkWhole_73 (by decide) ?_
      exact r_V (pc := 100) dX5_checkWhole_100 rfl F
def c_X3_playNight_8 (l : Launch) (d : Nat) (kd : pm_K) (mr : pm_R) (h : Nat) (o1 : Nat) (o2 : Nat) (x3 : Int32) (x4 : Int32) (mi : pm_I) (ml : pm_L) (K : Int32 → pm_I → pm_L → Prop) : Prop := wp l M_X3_playNight d 0 0 8 [some (.ref h), some (.ref o1), some (.ref o2), some (.int x3), some (.int x4)] [] 0 0 kd mi ml mr (qI kd mr K)
theorem w_X3_playNight_8 {l : Launch} {d : Nat} {kd : pm_K} {mr : pm_R} {h : Nat} {o1 : Nat} {o2 : Nat} {x3 : Int32} {x4 : Int32} {mi : pm_I} {ml : pm_L} {K : Int32 → pm_I → pm_L → Prop} (th : TX3s kd mr h) (to1 : TX0s kd mr o1) (to2 : TX6s kd mr o2)
    (F : ((x3 ≤ x4 → K x3 mi ml) ∧ (¬ x3 ≤ x4 → (((mi o2 3) ≤ x4 → K x3 mi ml) ∧ (¬ (mi o2 3) ≤ x4 → vp_in x4 40 ∧ vp_in x4 40 ∧ vp_in x4 40 ∧ wB l M_X3_act d [.ref h, .ref o1, .int (mi (o2 + 1) (Int32.toNatClampNeg x4)), .int (mi (o2 + 2) (Int32.toNatClampNeg x4)), .int (mi (o2 + 3) (Int32.toNatClampNeg x4))] kd mr mi ml (fun r6 mi7 ml8 => ((r6 = true → c_X3_playNight_8 l (d + 1) kd mr h o1 o2 x3 (x4 + 1) mi7 ml8 K) ∧ (r6 = false → K x4 mi7 ml8)))))))) :
    c_X3_playNight_8 l (d + 1) kd mr h o1 o2 x3 x4 mi ml K := by
  show wp l M_X3_playNight (d + 1) 0 0 8 [some (.ref h), some (.ref o1), some (.ref o2), some (.int x3), some (.int x4)] [] 0 0 kd mi ml mr _
  refine wp_iload (pc := 8) dX3_playNight_8 rfl ?_
  refine wp_iload_n (pc := 10) dX3_playNight_10 rfl ?_
  refine wp_icmp_ge (tgt := 61) (pc := 11) dX3_playNight_11 (by decide) (fun c4 => ?_) (fun c4 => ?_)
  · have F := F.1 c4
    refine wp_iload_n (pc := 61) dX3_playNight_61 rfl ?_
    exact r_I (pc := 62) dX3_playNight_62 rfl F
  · have F := F.2 c4
    refine wp_iload (pc := 14) dX3_playNight_14 rfl ?_
    refine wp_aload_n (pc := 16) dX3_playNight_16 rfl ?_
    refine wp_getI (pc := 17) dX3_playNight_17 fl_X3_61 rfl (TX6s_k to2) ?_
    refine wp_icmp_ge (tgt := 61) (pc := 20) dX3_playNight_20 (by decide) (fun c5 => ?_) (fun c5 => ?_)
    · have F := F.1 c5
      refine wp_iload_n (pc := 61) dX3_playNight_61 rfl ?_
      exact r_I (pc := 62) dX3_playNight_62 rfl F
    · have F := F.2 c5
      refine wp_aload_n (pc := 23) dX3_playNight_23 rfl ?_
      refine wp_aload_n (pc := 24) dX3_playNight_24 rfl ?_
      refine wp_aload_n (pc := 25) dX3_playNight_25 rfl ?_
      refine wp_getR (pc := 26) dX3_playNight_26 fl_X3_66 rfl (TX6s_k to2) (TX6s_r0 to2) ?_
      refine wp_iload (pc := 29) dX3_playNight_29 rfl ?_
      refine wp_iald (pc := 31) dX3_playNight_31 (TX6s_a0 to2) F.1 ?_
      have F := F.2
      refine wp_aload_n (pc := 32) dX3_playNight_32 rfl ?_
      refine wp_getR (pc := 33) dX3_playNight_33 fl_X3_69 rfl (TX6s_k to2) (TX6s_r1 to2) ?_
      refine wp_iload (pc := 36) dX3_playNight_36 rfl ?_
      refine wp_iald (pc := 38) dX3_playNight_38 (TX6s_a1 to2) F.1 ?_
      have F := F.2
      refine wp_aload_n (pc := 39) dX3_playNight_39 rfl ?_
      refine wp_getR (pc := 40) dX3_playNight_40 fl_X3_72 rfl (TX6s_k to2) (TX6s_r2 to2) ?_
      refine wp_iload (pc := 43) dX3_playNight_43 rfl ?_
      refine wp_iald (pc := 45) dX3_playNight_45 (TX6s_a2 to2) F.1 ?_
      have F := F.2
      refine cvB [.ref o1, .int (mi (o2 + 1) (Int32.toNatClampNeg x4)), .int (mi (o2 + 2) (Int32.toNatClampNeg x4)), .int (mi (o2 + 3) (Int32.toNatClampNeg x4))] [] (pc := 46) dX3_playNight_46 ml_X3_75 iv_X3_act (TX3s_k th) (cl_X3 rfl) rfl rfl (Nat.le_of_ble_eq_true rfl) (Nat.le_of_ble_eq_true rfl) (wB.mono (fun r6 mi7 ml8 F => ?_) F)
      refine b_ne (tgt := 55) (pc := 49) dX3_playNight_49 (by decide) (fun c9 => ?_) (fun c9 => ?_)
      · have F := F.1 c9
        refine wp_iinc (v := (x4 + 1)) (pc := 55) dX3_playNight_55 rfl rfl rfl ?_
        show wp l M_X3_playNight (d + 1) 0 0 _ [some (.ref h), some (.ref o1), some (.ref o2), some (.int x3), some (.int (x4 + 1))] _ 0 0 kd _ _ mr _
        refine wp_goto (tgt := 8) (pc := 58) dX3_playNight_58 (by decide) ?_
        exact wp_less (L' := [some (.ref h), some (.ref o1), some (.ref o2), some (.int x3), some (.int (x4 + 1))]) ⟨rfl, ⟨rfl, ⟨rfl, ⟨rfl, ⟨rfl, trivial⟩⟩⟩⟩⟩ F
      · have F := F.2 c9
        refine wp_iload (pc := 52) dX3_playNight_52 rfl ?_
        exact r_I (pc := 54) dX3_playNight_54 rfl F
/-- playNight(LCityChords$City;LCityChords$Rows;I)I -/
theorem w_X3_playNight {l : Launch} {d : Nat} {kd : pm_K} {mr : pm_R} {h : Nat} {o1 : Nat} {o2 : Nat} {x3 : Int32} {mi : pm_I} {ml : pm_L} {K : Int32 → pm_I → pm_L → Prop} (th : TX3s kd mr h) (to1 : TX0s kd mr o1) (to2 : TX6s kd mr o2)
    (F : wV l M_X3_begin d [.ref h, .ref o1] kd mr mi ml (fun mi2 ml3 => c_X3_playNight_8 l (d + 1) kd mr h o1 o2 x3 0 mi2 ml3 K)) :
    wI l M_X3_playNight (d + 1) [.ref h, .ref o1, .ref o2, .int x3] kd mr mi ml K := by
  show wp l M_X3_playNight (d + 1) 0 0 0 [some (.ref h), some (.ref o1), some (.ref o2), some (.int x3), none] [] 0 0 kd mi ml mr _
  refine wp_aload_n (pc := 0) dX3_playNight_0 rfl ?_
  refine wp_aload_n (pc := 1) dX3_playNight_1 rfl ?_
  refine cvV [.ref o1] [] (pc := 2) dX3_playNight_2 ml_X3_57 iv_X3_begin (TX3s_k th) (cl_X3 rfl) rfl rfl (Nat.le_of_ble_eq_true rfl) (Nat.le_of_ble_eq_true rfl) (wV.mono (fun mi2 ml3 F => ?_) F)
  refine wp_iconst (v := 0) (pc := 5) dX3_playNight_5 (by decide) ?_
  refine wp_istore (pc := 6) dX3_playNight_6 (Nat.le_of_ble_eq_true rfl) rfl ?_
  show wp l M_X3_playNight (d + 1) 0 0 _ [some (.ref h), some (.ref o1), some (.ref o2), some (.int x3), some (.int 0)] _ 0 0 kd _ _ mr _
  exact wp_less (L' := [some (.ref h), some (.ref o1), some (.ref o2), some (.int x3), some (.int 0)]) ⟨rfl, ⟨rfl, ⟨rfl, ⟨rfl, ⟨rfl, trivial⟩⟩⟩⟩⟩ F
/-- begin(LCityChords$City;)V -/
theorem w_X3_begin {l : Launch} {d : Nat} {kd : pm_K} {mr : pm_R} {h : Nat} {o1 : Nat}  {mi : pm_I} {ml : pm_L} {K : pm_I → pm_L → Prop} (th : TX3s kd mr h) (to1 : TX0s kd mr o1)
    (F : (¬ (0 : Int32) < 0 ∧ ¬ (0 : Int32) < 0 ∧ ¬ (6 : Int32) < 0 ∧ (Int32.toNatClampNeg (0 : Int32)) + (Int32.toNatClampNeg (6 : Int32)) ≤ 6 ∧ (Int32.toNatClampNeg (0 : Int32)) + (Int32.toNatClampNeg (6 : Int32)) ≤ 6) ∧ ∀ mi1 : pm_I, mi1 = (pm_ur mi (h + 3) (va_cpy (mi (o1 + 2)) (mi (h + 3)) (Int32.toNatClampNeg (0 : Int32)) (Int32.toNatClampNeg (0 : Int32)) (Int32.toNatClampNeg (6 : Int32)))) → (¬ (0 : Int32) < 0 ∧ ¬ (0 : Int32) < 0 ∧ ¬ (6 : Int32) < 0 ∧ (Int32.toNatClampNeg (0 : Int32)) + (Int32.toNatClampNeg (6 : Int32)) ≤ 6 ∧ (Int32.toNatClampNeg (0 : Int32)) + (Int32.toNatClampNeg (6 : Int32)) ≤ 6) ∧ ∀ mi2 : pm_I, mi2 = (pm_ur mi1 (h + 4) (va_cpy (mi1 (o1 + 4)) (mi1 (h + 4)) (Int32.toNatClampNeg (0 : Int32)) (Int32.toNatClampNeg (0 : Int32)) (Int32.toNatClampNeg (6 : Int32)))) → wV l M_J7_fill_53178 d [.ref (h + 5), .int (-1)] kd mr mi2 ml (fun mi4 ml5 => wV l M_J7_fill_53178 d [.ref (h + 6), .int 0] kd mr mi4 ml5 (fun mi7 ml8 => K (pm_up (pm_up (pm_up mi7 h 5 0) h 6 0) h 7 0) ml8))) :
    wV l M_X3_begin (d + 1) [.ref h, .ref o1] kd mr mi ml K := by
  show wp l M_X3_begin (d + 1) 0 0 0 [some (.ref h), some (.ref o1)] [] 0 0 kd mi ml mr _
  refine wp_aload_n (pc := 0) dX3_begin_0 rfl ?_
  refine wp_getR (pc := 1) dX3_begin_1 fl_X3_31 rfl (TX0s_k to1) (TX0s_r7 to1) ?_
  refine wp_iconst (v := 0) (pc := 4) dX3_begin_4 (by decide) ?_
  refine wp_aload_n (pc := 5) dX3_begin_5 rfl ?_
  refine wp_getR (pc := 6) dX3_begin_6 fl_X3_18 rfl (TX3s_k th) (TX3s_r1 th) ?_
  refine wp_iconst (v := 0) (pc := 9) dX3_begin_9 (by decide) ?_
  refine wp_bipush (v := 6) (pc := 10) dX3_begin_10 (by decide) ?_
  refine wp_copy (pc := 12) dX3_begin_12 ⟨tb_4 18 rfl rfl, tb_2 233 rfl rfl, tb_2 232 rfl rfl, tb_1 16 rfl rfl⟩ (Nat.succ_pos d) (Nat.le_of_ble_eq_true rfl) (by decide) (TX0s_a7 to1) (TX3s_a1 th) F.1.1 F.1.2.1 F.1.2.2.1 F.1.2.2.2.1 F.1.2.2.2.2 ?_
  have F := F.2
  generalize emi1 : (pm_ur mi (h + 3) (va_cpy (mi (o1 + 2)) (mi (h + 3)) (Int32.toNatClampNeg (0 : Int32)) (Int32.toNatClampNeg (0 : Int32)) (Int32.toNatClampNeg (6 : Int32)))) = mi1
  have F := F mi1 emi1.symm
  refine wp_aload_n (pc := 15) dX3_begin_15 rfl ?_
  refine wp_getR (pc := 16) dX3_begin_16 fl_X3_40 rfl (TX0s_k to1) (TX0s_r9 to1) ?_
  refine wp_iconst (v := 0) (pc := 19) dX3_begin_19 (by decide) ?_
  refine wp_aload_n (pc := 20) dX3_begin_20 rfl ?_
  refine wp_getR (pc := 21) dX3_begin_21 fl_X3_22 rfl (TX3s_k th) (TX3s_r2 th) ?_
  refine wp_iconst (v := 0) (pc := 24) dX3_begin_24 (by decide) ?_
  refine wp_bipush (v := 6) (pc := 25) dX3_begin_25 (by decide) ?_
  refine wp_copy (pc := 27) dX3_begin_27 ⟨tb_4 18 rfl rfl, tb_2 233 rfl rfl, tb_2 232 rfl rfl, tb_1 16 rfl rfl⟩ (Nat.succ_pos d) (Nat.le_of_ble_eq_true rfl) (by decide) (TX0s_a9 to1) (TX3s_a2 th) F.1.1 F.1.2.1 F.1.2.2.1 F.1.2.2.2.1 F.1.2.2.2.2 ?_
  have F := F.2
  generalize emi2 : (pm_ur mi1 (h + 4) (va_cpy (mi1 (o1 + 4)) (mi1 (h + 4)) (Int32.toNatClampNeg (0 : Int32)) (Int32.toNatClampNeg (0 : Int32)) (Int32.toNatClampNeg (6 : Int32)))) = mi2
  have F := F mi2 emi2.symm
  refine wp_aload_n (pc := 30) dX3_begin_30 rfl ?_
  refine wp_getR (pc := 31) dX3_begin_31 fl_X3_25 rfl (TX3s_k th) (TX3s_r3 th) ?_
  refine wp_iconst (v := -1) (pc := 34) dX3_begin_34 (by decide) ?_
  refine csV [.ref (h + 5), .int (-1)] [] (pc := 35) dX3_begin_35 ml_X3_41 st_J7_fill_53178 rfl rfl (Nat.le_of_ble_eq_true rfl) (Nat.le_of_ble_eq_true rfl) (wV.mono (fun mi4 ml5 F => ?_) F)
  refine wp_aload_n (pc := 38) dX3_begin_38 rfl ?_
  refine wp_getR (pc := 39) dX3_begin_39 fl_X3_28 rfl (TX3s_k th) (TX3s_r4 th) ?_
  refine wp_iconst (v := 0) (pc := 42) dX3_begin_42 (by decide) ?_
  refine csV [.ref (h + 6), .int 0] [] (pc := 43) dX3_begin_43 ml_X3_41 st_J7_fill_53178 rfl rfl (Nat.le_of_ble_eq_true rfl) (Nat.le_of_ble_eq_true rfl) (wV.mono (fun mi7 ml8 F => ?_) F)
  refine wp_aload_n (pc := 46) dX3_begin_46 rfl ?_
  refine wp_iconst (v := 0) (pc := 47) dX3_begin_47 (by decide) ?_
  refine wp_putI (pc := 48) dX3_begin_48 fl_X3_47 rfl rfl (TX3s_k th) ?_
  refine wp_aload_n (pc := 51) dX3_begin_51 rfl ?_
  refine wp_iconst (v := 0) (pc := 52) dX3_begin_52 (by decide) ?_
  refine wp_putI (pc := 53) dX3_begin_53 fl_X3_51 rfl rfl (TX3s_k th) ?_
  refine wp_aload_n (pc := 56) dX3_begin_56 rfl ?_
  refine wp_iconst (v := 0) (pc := 57) dX3_begin_57 (by decide) ?_
  refine wp_putI (pc := 58) dX3_begin_58 fl_X3_54 rfl rfl (TX3s_k th) ?_
  exact r_V (pc := 61) dX3_begin_61 rfl F
/-- act(LCityChords$City;III)Z -/
theorem w_X3_act {l : Launch} {d : Nat} {kd : pm_K} {mr : pm_R} {h : Nat} {o1 : Nat} {x2 : Int32} {x3 : Int32} {x4 : Int32} {mi : pm_I} {ml : pm_L} {K : Bool → pm_I → pm_L → Prop} (th : TX3s kd mr h) (to1 : TX0s kd mr o1)
    (F : (((x2).toInt < 4 ∨ 6 < (x2).toInt → wB l M_X0_hasPlayer d [.ref o1, .int x3] kd mr mi ml (fun r2 mi3 ml4 => ((r2 = true → wV l M_X3_playCommand d [.ref h, .ref o1, .int x2, .int x3, .int x4] kd mr mi3 ml4 (fun mi7 ml8 => K true mi7 ml8)) ∧ (r2 = false → K false mi3 ml4)))) ∧ ((x2).toInt = 4 → wB l M_X0_hasPerson d [.ref o1, .int x3] kd mr mi ml (fun r9 mi10 ml11 => ((r9 = false → K false mi10 ml11) ∧ (r9 = true → wB l M_X3_isFree d [.ref h, .int x3] kd mr mi10 ml11 (fun r13 mi14 ml15 => ((r13 = false → K false mi14 ml15) ∧ (r13 = true → wL l M_X0_open d [.ref o1] kd mr mi14 ml15 (fun r17 mi18 ml19 => wB l M_X3_moveOn d [.ref (h + 4), .int x3, .int x4, .long r17] kd mr mi18 ml19 (fun r20 mi21 ml22 => K (decide (r20 = true)) mi21 ml22))))))))) ∧ ((x2).toInt = 5 → wB l M_X0_hasPlayer d [.ref o1, .int x3] kd mr mi ml (fun r26 mi27 ml28 => ((r26 = false → K false mi27 ml28) ∧ (r26 = true → wL l M_X0_open d [.ref o1] kd mr mi27 ml28 (fun r30 mi31 ml32 => wB l M_X3_moveOn d [.ref (h + 3), .int x3, .int x4, .long r30] kd mr mi31 ml32 (fun r33 mi34 ml35 => K (decide (r33 = true)) mi34 ml35)))))) ∧ ((x2).toInt = 6 → wV l M_J7_fill_53178 d [.ref (h + 5), .int (-1)] kd mr mi ml (fun mi40 ml41 => K true mi40 ml41)))) :
    wB l M_X3_act (d + 1) [.ref h, .ref o1, .int x2, .int x3, .int x4] kd mr mi ml K := by
  show wp l M_X3_act (d + 1) 0 0 0 [some (.ref h), some (.ref o1), some (.int x2), some (.int x3), some (.int x4)] [] 0 0 kd mi ml mr _
  refine wp_iload_n (pc := 0) dX3_act_0 rfl ?_
  by_cases c1 : (x2).toInt < 4 ∨ 6 < (x2).toInt
  · have F := F.1 c1
    refine wp_tableOut (tgt := 108) (pc := 1) dX3_act_1 c1 (by decide) ?_
    refine wp_aload_n (pc := 108) dX3_act_108 rfl ?_
    refine wp_iload_n (pc := 109) dX3_act_109 rfl ?_
    refine cvB [.int x3] [] (pc := 110) dX3_act_110 ml_X3_109 iv_X0_hasPlayer (TX0s_k to1) (cl_X0 rfl) rfl rfl (Nat.le_of_ble_eq_true rfl) (Nat.le_of_ble_eq_true rfl) (wB.mono (fun r2 mi3 ml4 F => ?_) F)
    refine b_ne (tgt := 118) (pc := 113) dX3_act_113 (by decide) (fun c5 => ?_) (fun c5 => ?_)
    · have F := F.1 c5
      refine wp_aload_n (pc := 118) dX3_act_118 rfl ?_
      refine wp_aload_n (pc := 119) dX3_act_119 rfl ?_
      refine wp_iload_n (pc := 120) dX3_act_120 rfl ?_
      refine wp_iload_n (pc := 121) dX3_act_121 rfl ?_
      refine wp_iload (pc := 122) dX3_act_122 rfl ?_
      refine cvV [.ref o1, .int x2, .int x3, .int x4] [] (pc := 124) dX3_act_124 ml_X3_112 iv_X3_playCommand (TX3s_k th) (cl_X3 rfl) rfl rfl (Nat.le_of_ble_eq_true rfl) (Nat.le_of_ble_eq_true rfl) (wV.mono (fun mi7 ml8 F => ?_) F)
      refine wp_iconst (v := 1) (pc := 127) dX3_act_127 (by decide) ?_
      exact r_Bx (pc := 128) dX3_act_128 rfl rfl F
    · have F := F.2 c5
      refine wp_iconst (v := 0) (pc := 116) dX3_act_116 (by decide) ?_
      exact r_Bx (pc := 117) dX3_act_117 rfl rfl F
  have c1 : (x2).toInt = 4 ∨ (x2).toInt = 5 ∨ (x2).toInt = 6 := by omega
  have F := F.2
  rcases c1 with c1 | c1 | c1
  · have F := F.1 c1
    refine wp_tableIn (tgt := 38) (pc := 1) dX3_act_1 c1 (by decide) (by decide) rfl (by decide) ?_
    refine wp_aload_n (pc := 38) dX3_act_38 rfl ?_
    refine wp_iload_n (pc := 39) dX3_act_39 rfl ?_
    refine cvB [.int x3] [] (pc := 40) dX3_act_40 ml_X3_94 iv_X0_hasPerson (TX0s_k to1) (cl_X0 rfl) rfl rfl (Nat.le_of_ble_eq_true rfl) (Nat.le_of_ble_eq_true rfl) (wB.mono (fun r9 mi10 ml11 F => ?_) F)
    refine b_eq (tgt := 75) (pc := 43) dX3_act_43 (by decide) (fun c12 => ?_) (fun c12 => ?_)
    · have F := F.1 c12
      refine wp_iconst (v := 0) (pc := 75) dX3_act_75 (by decide) ?_
      exact r_Bx (pc := 76) dX3_act_76 rfl rfl F
    · have F := F.2 c12
      refine wp_aload_n (pc := 46) dX3_act_46 rfl ?_
      refine wp_iload_n (pc := 47) dX3_act_47 rfl ?_
      refine cvB [.int x3] [] (pc := 48) dX3_act_48 ml_X3_98 iv_X3_isFree (TX3s_k th) (cl_X3 rfl) rfl rfl (Nat.le_of_ble_eq_true rfl) (Nat.le_of_ble_eq_true rfl) (wB.mono (fun r13 mi14 ml15 F => ?_) F)
      refine b_eq (tgt := 75) (pc := 51) dX3_act_51 (by decide) (fun c16 => ?_) (fun c16 => ?_)
      · have F := F.1 c16
        refine wp_iconst (v := 0) (pc := 75) dX3_act_75 (by decide) ?_
        exact r_Bx (pc := 76) dX3_act_76 rfl rfl F
      · have F := F.2 c16
        refine wp_aload_n (pc := 54) dX3_act_54 rfl ?_
        refine wp_getR (pc := 55) dX3_act_55 fl_X3_22 rfl (TX3s_k th) (TX3s_r2 th) ?_
        refine wp_iload_n (pc := 58) dX3_act_58 rfl ?_
        refine wp_iload (pc := 59) dX3_act_59 rfl ?_
        refine wp_aload_n (pc := 61) dX3_act_61 rfl ?_
        refine cvL [] [.int x4, .int x3, .ref (h + 4)] (pc := 62) dX3_act_62 ml_X3_101 iv_X0_open (TX0s_k to1) (cl_X0 rfl) rfl rfl (Nat.le_of_ble_eq_true rfl) (Nat.le_of_ble_eq_true rfl) (wL.mono (fun r17 mi18 ml19 F => ?_) F)
        refine csB [.ref (h + 4), .int x3, .int x4, .long r17] [] (pc := 65) dX3_act_65 ml_X3_105 st_X3_moveOn rfl rfl (Nat.le_of_ble_eq_true rfl) (Nat.le_of_ble_eq_true rfl) (wB.mono (fun r20 mi21 ml22 F => ?_) F)
        suffices J23 : ∀ v24 : Int32, v24 = (b2i (decide (r20 = true))) → wp l M_X3_act (d + 1) 0 0 76 [some (.ref h), some (.ref o1), some (.int x2), some (.int x3), some (.int x4)] [.int v24] 0 0 kd mi21 ml22 mr _ by
            refine b_eq (tgt := 75) (pc := 68) dX3_act_68 (by decide) (fun c25 => ?_) (fun c25 => ?_)
            · refine wp_iconst (v := 0) (pc := 75) dX3_act_75 (by decide) ?_
              exact J23 _ (by simp only [c25, if_true, if_false, decide_true, decide_false, Bool.not_true, Bool.not_false, Bool.true_and, Bool.false_and, Bool.true_or, Bool.false_or, b2i_t, b2i_f, ite_true, ite_false, not_true_eq_false, not_false_eq_true, reduceCtorEq, decide_eq_true_eq])
            · refine wp_iconst (v := 1) (pc := 71) dX3_act_71 (by decide) ?_
              refine wp_goto (tgt := 76) (pc := 72) dX3_act_72 (by decide) ?_
              exact J23 _ (by simp only [c25, if_true, if_false, decide_true, decide_false, Bool.not_true, Bool.not_false, Bool.true_and, Bool.false_and, Bool.true_or, Bool.false_or, b2i_t, b2i_f, ite_true, ite_false, not_true_eq_false, not_false_eq_true, reduceCtorEq, decide_eq_true_eq])
        intro v24 ev24
        subst ev24
        exact r_B (pc := 76) dX3_act_76 rfl F
  · have F := F.2.1 c1
    refine wp_tableIn (tgt := 77) (pc := 1) dX3_act_1 c1 (by decide) (by decide) rfl (by decide) ?_
    refine wp_aload_n (pc := 77) dX3_act_77 rfl ?_
    refine wp_iload_n (pc := 78) dX3_act_78 rfl ?_
    refine cvB [.int x3] [] (pc := 79) dX3_act_79 ml_X3_109 iv_X0_hasPlayer (TX0s_k to1) (cl_X0 rfl) rfl rfl (Nat.le_of_ble_eq_true rfl) (Nat.le_of_ble_eq_true rfl) (wB.mono (fun r26 mi27 ml28 F => ?_) F)
    refine b_eq (tgt := 106) (pc := 82) dX3_act_82 (by decide) (fun c29 => ?_) (fun c29 => ?_)
    · have F := F.1 c29
      refine wp_iconst (v := 0) (pc := 106) dX3_act_106 (by decide) ?_
      exact r_Bx (pc := 107) dX3_act_107 rfl rfl F
    · have F := F.2 c29
      refine wp_aload_n (pc := 85) dX3_act_85 rfl ?_
      refine wp_getR (pc := 86) dX3_act_86 fl_X3_18 rfl (TX3s_k th) (TX3s_r1 th) ?_
      refine wp_iload_n (pc := 89) dX3_act_89 rfl ?_
      refine wp_iload (pc := 90) dX3_act_90 rfl ?_
      refine wp_aload_n (pc := 92) dX3_act_92 rfl ?_
      refine cvL [] [.int x4, .int x3, .ref (h + 3)] (pc := 93) dX3_act_93 ml_X3_101 iv_X0_open (TX0s_k to1) (cl_X0 rfl) rfl rfl (Nat.le_of_ble_eq_true rfl) (Nat.le_of_ble_eq_true rfl) (wL.mono (fun r30 mi31 ml32 F => ?_) F)
      refine csB [.ref (h + 3), .int x3, .int x4, .long r30] [] (pc := 96) dX3_act_96 ml_X3_105 st_X3_moveOn rfl rfl (Nat.le_of_ble_eq_true rfl) (Nat.le_of_ble_eq_true rfl) (wB.mono (fun r33 mi34 ml35 F => ?_) F)
      suffices J36 : ∀ v37 : Int32, v37 = (b2i (decide (r33 = true))) → wp l M_X3_act (d + 1) 0 0 107 [some (.ref h), some (.ref o1), some (.int x2), some (.int x3), some (.int x4)] [.int v37] 0 0 kd mi34 ml35 mr _ by
          refine b_eq (tgt := 106) (pc := 99) dX3_act_99 (by decide) (fun c38 => ?_) (fun c38 => ?_)
          · refine wp_iconst (v := 0) (pc := 106) dX3_act_106 (by decide) ?_
            exact J36 _ (by simp only [c38, if_true, if_false, decide_true, decide_false, Bool.not_true, Bool.not_false, Bool.true_and, Bool.false_and, Bool.true_or, Bool.false_or, b2i_t, b2i_f, ite_true, ite_false, not_true_eq_false, not_false_eq_true, reduceCtorEq, decide_eq_true_eq])
          · refine wp_iconst (v := 1) (pc := 102) dX3_act_102 (by decide) ?_
            refine wp_goto (tgt := 107) (pc := 103) dX3_act_103 (by decide) ?_
            exact J36 _ (by simp only [c38, if_true, if_false, decide_true, decide_false, Bool.not_true, Bool.not_false, Bool.true_and, Bool.false_and, Bool.true_or, Bool.false_or, b2i_t, b2i_f, ite_true, ite_false, not_true_eq_false, not_false_eq_true, reduceCtorEq, decide_eq_true_eq])
      intro v37 ev37
      subst ev37
      exact r_B (pc := 107) dX3_act_107 rfl F
  · have F := F.2.2 c1
    refine wp_tableIn (tgt := 28) (pc := 1) dX3_act_1 c1 (by decide) (by decide) rfl (by decide) ?_
    refine wp_aload_n (pc := 28) dX3_act_28 rfl ?_
    refine wp_getR (pc := 29) dX3_act_29 fl_X3_25 rfl (TX3s_k th) (TX3s_r3 th) ?_
    refine wp_iconst (v := -1) (pc := 32) dX3_act_32 (by decide) ?_
    refine csV [.ref (h + 5), .int (-1)] [] (pc := 33) dX3_act_33 ml_X3_41 st_J7_fill_53178 rfl rfl (Nat.le_of_ble_eq_true rfl) (Nat.le_of_ble_eq_true rfl) (wV.mono (fun mi40 ml41 F => ?_) F)
    refine wp_iconst (v := 1) (pc := 36) dX3_act_36 (by decide) ?_
    exact r_Bx (pc := 37) dX3_act_37 rfl rfl F
/-- isFree(I)Z -/
theorem w_X3_isFree {l : Launch} {d : Nat} {kd : pm_K} {mr : pm_R} {h : Nat} {x1 : Int32} {mi : pm_I} {ml : pm_L} {K : Bool → pm_I → pm_L → Prop} (th : TX3s kd mr h)
    (F : K (decide ((((mi h 5) >>> (x1 &&& 31)) &&& 1) = 0)) mi ml) :
    wB l M_X3_isFree d [.ref h, .int x1] kd mr mi ml K := by
  show wp l M_X3_isFree d 0 0 0 [some (.ref h), some (.int x1)] [] 0 0 kd mi ml mr _
  refine wp_aload_n (pc := 0) dX3_isFree_0 rfl ?_
  refine wp_getI (pc := 1) dX3_isFree_1 fl_X3_47 rfl (TX3s_k th) ?_
  refine wp_iload_n (pc := 4) dX3_isFree_4 rfl ?_
  refine wp_ishr (pc := 5) dX3_isFree_5 ?_
  refine wp_iconst (v := 1) (pc := 6) dX3_isFree_6 (by decide) ?_
  refine wp_iand (pc := 7) dX3_isFree_7 ?_
  suffices J1 : ∀ v2 : Int32, v2 = (b2i (decide ((((mi h 5) >>> (x1 &&& 31)) &&& 1) = 0))) → wp l M_X3_isFree d 0 0 16 [some (.ref h), some (.int x1)] [.int v2] 0 0 kd mi ml mr _ by
      refine wp_if_ne (tgt := 15) (pc := 8) dX3_isFree_8 (by decide) (fun c3 => ?_) (fun c3 => ?_)
      · refine wp_iconst (v := 0) (pc := 15) dX3_isFree_15 (by decide) ?_
        exact J1 _ (by simp only [c3, if_true, if_false, decide_true, decide_false, Bool.not_true, Bool.not_false, Bool.true_and, Bool.false_and, Bool.true_or, Bool.false_or, b2i_t, b2i_f, ite_true, ite_false, not_true_eq_false, not_false_eq_true, reduceCtorEq, decide_eq_true_eq])
      · refine wp_iconst (v := 1) (pc := 11) dX3_isFree_11 (by decide) ?_
        refine wp_goto (tgt := 16) (pc := 12) dX3_isFree_12 (by decide) ?_
        exact J1 _ (by simp only [eq_true c3, if_true, if_false, decide_true, decide_false, Bool.not_true, Bool.not_false, Bool.true_and, Bool.false_and, Bool.true_or, Bool.false_or, b2i_t, b2i_f, ite_true, ite_false, not_true_eq_false, not_false_eq_true, reduceCtorEq, decide_eq_true_eq])
  intro v2 ev2
  subst ev2
  exact r_B (pc := 16) dX3_isFree_16 rfl F
/-- moveOn([IIIJ)Z -/
theorem w_X3_moveOn {l : Launch} {d : Nat} {kd : pm_K} {mr : pm_R} {a0 na0 : Nat} {x1 : Int32} {x2 : Int32} {x3 : Int64} {mi : pm_I} {ml : pm_L} {K : Bool → pm_I → pm_L → Prop} (ka0 : kd[a0]? = some (1, na0))
    (F : vp_in x1 na0 ∧ wI l M_X11_nextSpot d [.int (mi a0 (Int32.toNatClampNeg x1)), .int x2, .long x3] kd mr mi ml (fun r1 mi2 ml3 => ((¬ r1 = (-1) → vp_in x1 na0 ∧ K true (pm_up mi2 a0 (Int32.toNatClampNeg x1) r1) ml3) ∧ (r1 = (-1) → K false mi2 ml3)))) :
    wB l M_X3_moveOn (d + 1) [.ref a0, .int x1, .int x2, .long x3] kd mr mi ml K := by
  show wp l M_X3_moveOn (d + 1) 0 0 0 [some (.ref a0), some (.int x1), some (.int x2), some (.long x3), none, none] [] 0 0 kd mi ml mr _
  refine wp_aload_n (pc := 0) dX3_moveOn_0 rfl ?_
  refine wp_iload_n (pc := 1) dX3_moveOn_1 rfl ?_
  refine wp_iald (pc := 2) dX3_moveOn_2 ka0 F.1 ?_
  have F := F.2
  refine wp_iload_n (pc := 3) dX3_moveOn_3 rfl ?_
  refine wp_lload_n (pc := 4) dX3_moveOn_4 rfl ?_
  refine csI [.int (mi a0 (Int32.toNatClampNeg x1)), .int x2, .long x3] [] (pc := 5) dX3_moveOn_5 ml_X3_116 st_X11_nextSpot rfl rfl (Nat.le_of_ble_eq_true rfl) (Nat.le_of_ble_eq_true rfl) (wI.mono (fun r1 mi2 ml3 F => ?_) F)
  refine wp_istore (pc := 8) dX3_moveOn_8 (Nat.le_of_ble_eq_true rfl) rfl ?_
  show wp l M_X3_moveOn (d + 1) 0 0 _ [some (.ref a0), some (.int x1), some (.int x2), some (.long x3), none, some (.int r1)] _ 0 0 kd _ _ mr _
  refine wp_iload (pc := 10) dX3_moveOn_10 rfl ?_
  refine wp_iconst (v := -1) (pc := 12) dX3_moveOn_12 (by decide) ?_
  refine wp_icmp_ne (tgt := 18) (pc := 13) dX3_moveOn_13 (by decide) (fun c4 => ?_) (fun c4 => ?_)
  · have F := F.1 c4
    refine wp_aload_n (pc := 18) dX3_moveOn_18 rfl ?_
    refine wp_iload_n (pc := 19) dX3_moveOn_19 rfl ?_
    refine wp_iload (pc := 20) dX3_moveOn_20 rfl ?_
    refine wp_iast (pc := 22) dX3_moveOn_22 ka0 F.1 ?_
    have F := F.2
    refine wp_iconst (v := 1) (pc := 23) dX3_moveOn_23 (by decide) ?_
    exact r_Bx (pc := 24) dX3_moveOn_24 rfl rfl F
  · have F := F.2 c4
    refine wp_iconst (v := 0) (pc := 16) dX3_moveOn_16 (by decide) ?_
    exact r_Bx (pc := 17) dX3_moveOn_17 rfl rfl F
def c_X3_playCommand_159 (l : Launch) (d : Nat) (kd : pm_K) (mr : pm_R) (h : Nat) (o1 : Nat) (x2 : Int32) (x4 : Int32) (x5 : Int64) (x7 : Int64) (x9 : Int32) (mi : pm_I) (ml : pm_L) (K : pm_I → pm_L → Prop) : Prop := wp l M_X3_playCommand d 0 0 159 [some (.ref h), some (.ref o1), some (.int x2), none, some (.int x4), some (.long x5), none, some (.long x7), none, some (.int x9), none, none] [] 0 0 kd mi ml mr (qV kd mr K)
def c_X3_playCommand_30 (l : Launch) (d : Nat) (kd : pm_K) (mr : pm_R) (h : Nat) (o1 : Nat) (x2 : Int32) (x4 : Int32) (x5 : Int64) (x7 : Int64) (x9 : Int32) (mi : pm_I) (ml : pm_L) (K : pm_I → pm_L → Prop) : Prop := wp l M_X3_playCommand d 0 0 30 [some (.ref h), some (.ref o1), some (.int x2), none, some (.int x4), some (.long x5), none, some (.long x7), none, some (.int x9), none, none] [] 0 0 kd mi ml mr (qV kd mr K)
theorem w_X3_playCommand_30 {l : Launch} {d : Nat} {kd : pm_K} {mr : pm_R} {h : Nat} {o1 : Nat} {x2 : Int32} {x4 : Int32} {x5 : Int64} {x7 : Int64} {x9 : Int32} {mi : pm_I} {ml : pm_L} {K : pm_I → pm_L → Prop} (th : TX3s kd mr h) (to1 : TX0s kd mr o1)
    (F : (((mi o1 5) ≤ x9 → K mi ml) ∧ (¬ (mi o1 5) ≤ x9 → vp_in x9 6 ∧ (((mi (o1 + 3) (Int32.toNatClampNeg x9)) = 3 → c_X3_playCommand_159 l (d + 1) kd mr h o1 x2 x4 x5 x7 x9 mi ml K) ∧ (¬ (mi (o1 + 3) (Int32.toNatClampNeg x9)) = 3 → vp_in x9 6 ∧ wB l M_X11_has d [.long x5, .int (mi (h + 4) (Int32.toNatClampNeg x9))] kd mr mi ml (fun r12 mi13 ml14 => ((r12 = true → vp_in x9 6 ∧ vp_in x9 6 ∧ vp_in x9 6 ∧ vp_in x9 6 ∧ vp_in x9 6 ∧ (((!decide ((mi13 (h + 5) (Int32.toNatClampNeg x9)) = x2)) = false → c_X3_playCommand_159 l (d + 1) kd mr h o1 x2 x4 x5 x7 x9 (pm_up (pm_up mi13 (h + 5) (Int32.toNatClampNeg x9) x2) (h + 6) (Int32.toNatClampNeg x9) ((mi13 (h + 6) (Int32.toNatClampNeg x9)) + 1)) ml14 K) ∧ ((!decide ((mi13 (h + 5) (Int32.toNatClampNeg x9)) = x2)) = true → (((decide ((mi13 (o1 + 3) (Int32.toNatClampNeg x9)) = 2) && (decide (x2 = 0))) = true → c_X3_playCommand_159 l (d + 1) kd mr h o1 x2 x4 x5 x7 x9 (pm_up (pm_up mi13 (h + 5) (Int32.toNatClampNeg x9) x2) (h + 6) (Int32.toNatClampNeg x9) ((mi13 (h + 6) (Int32.toNatClampNeg x9)) + 1)) ml14 K) ∧ ((decide ((mi13 (o1 + 3) (Int32.toNatClampNeg x9)) = 2) && (decide (x2 = 0))) = false → wV l M_X3_obey d [.ref h, .ref o1, .int x9, .int x2, .int x4, .long x7] kd mr (pm_up (pm_up (pm_up mi13 (h + 5) (Int32.toNatClampNeg x9) x2) (h + 6) (Int32.toNatClampNeg x9) ((mi13 (h + 6) (Int32.toNatClampNeg x9)) + 1)) h 7 ((mi13 h 7) + 1)) ml14 (fun mi26 ml27 => c_X3_playCommand_159 l (d + 1) kd mr h o1 x2 x4 x5 x7 x9 mi26 ml27 K)))))) ∧ (r12 = false → c_X3_playCommand_159 l (d + 1) kd mr h o1 x2 x4 x5 x7 x9 mi13 ml14 K)))))))) :
    c_X3_playCommand_30 l (d + 1) kd mr h o1 x2 x4 x5 x7 x9 mi ml K := by
  show wp l M_X3_playCommand (d + 1) 0 0 30 [some (.ref h), some (.ref o1), some (.int x2), none, some (.int x4), some (.long x5), none, some (.long x7), none, some (.int x9), none, none] [] 0 0 kd mi ml mr _
  refine wp_iload (pc := 30) dX3_playCommand_30 rfl ?_
  refine wp_aload_n (pc := 32) dX3_playCommand_32 rfl ?_
  refine wp_getI (pc := 33) dX3_playCommand_33 fl_X3_87 rfl (TX0s_k to1) ?_
  refine wp_icmp_ge (tgt := 165) (pc := 36) dX3_playCommand_36 (by decide) (fun c10 => ?_) (fun c10 => ?_)
  · have F := F.1 c10
    exact r_V (pc := 165) dX3_playCommand_165 rfl F
  · have F := F.2 c10
    refine wp_aload_n (pc := 39) dX3_playCommand_39 rfl ?_
    refine wp_getR (pc := 40) dX3_playCommand_40 fl_X3_127 rfl (TX0s_k to1) (TX0s_r8 to1) ?_
    refine wp_iload (pc := 43) dX3_playCommand_43 rfl ?_
    refine wp_iald (pc := 45) dX3_playCommand_45 (TX0s_a8 to1) F.1 ?_
    have F := F.2
    refine wp_iconst (v := 3) (pc := 46) dX3_playCommand_46 (by decide) ?_
    refine wp_icmp_eq (tgt := 159) (pc := 47) dX3_playCommand_47 (by decide) (fun c11 => ?_) (fun c11 => ?_)
    · have F := F.1 c11
      exact wp_less (L' := [some (.ref h), some (.ref o1), some (.int x2), none, some (.int x4), some (.long x5), none, some (.long x7), none, some (.int x9), none, none]) ⟨rfl, ⟨rfl, ⟨rfl, ⟨rfl, ⟨rfl, ⟨rfl, ⟨rfl, trivial⟩⟩⟩⟩⟩⟩⟩ F
    · have F := F.2 c11
      refine wp_lload (pc := 50) dX3_playCommand_50 rfl ?_
      refine wp_aload_n (pc := 52) dX3_playCommand_52 rfl ?_
      refine wp_getR (pc := 53) dX3_playCommand_53 fl_X3_22 rfl (TX3s_k th) (TX3s_r2 th) ?_
      refine wp_iload (pc := 56) dX3_playCommand_56 rfl ?_
      refine wp_iald (pc := 58) dX3_playCommand_58 (TX3s_a2 th) F.1 ?_
      have F := F.2
      refine csB [.long x5, .int (mi (h + 4) (Int32.toNatClampNeg x9))] [] (pc := 59) dX3_playCommand_59 ml_X3_128 st_X11_has rfl rfl (Nat.le_of_ble_eq_true rfl) (Nat.le_of_ble_eq_true rfl) (wB.mono (fun r12 mi13 ml14 F => ?_) F)
      refine b_ne (tgt := 68) (pc := 62) dX3_playCommand_62 (by decide) (fun c15 => ?_) (fun c15 => ?_)
      · have F := F.1 c15
        refine wp_aload_n (pc := 68) dX3_playCommand_68 rfl ?_
        refine wp_getR (pc := 69) dX3_playCommand_69 fl_X3_25 rfl (TX3s_k th) (TX3s_r3 th) ?_
        refine wp_iload (pc := 72) dX3_playCommand_72 rfl ?_
        refine wp_iald (pc := 74) dX3_playCommand_74 (TX3s_a3 th) F.1 ?_
        have F := F.2
        refine wp_iload_n (pc := 75) dX3_playCommand_75 rfl ?_
        suffices J16 : ∀ v17 : Int32, v17 = (b2i (!decide ((mi13 (h + 5) (Int32.toNatClampNeg x9)) = x2))) → wp l M_X3_playCommand (d + 1) 0 0 84 [some (.ref h), some (.ref o1), some (.int x2), none, some (.int x4), some (.long x5), none, some (.long x7), none, some (.int x9), none, none] [.int v17] 0 0 kd mi13 ml14 mr _ by
            refine wp_icmp_eq (tgt := 83) (pc := 76) dX3_playCommand_76 (by decide) (fun c18 => ?_) (fun c18 => ?_)
            · refine wp_iconst (v := 0) (pc := 83) dX3_playCommand_83 (by decide) ?_
              exact J16 _ (by simp only [eq_true c18, if_true, if_false, decide_true, decide_false, Bool.not_true, Bool.not_false, Bool.true_and, Bool.false_and, Bool.true_or, Bool.false_or, b2i_t, b2i_f, ite_true, ite_false, not_true_eq_false, not_false_eq_true, reduceCtorEq, decide_eq_true_eq])
            · refine wp_iconst (v := 1) (pc := 79) dX3_playCommand_79 (by decide) ?_
              refine wp_goto (tgt := 84) (pc := 80) dX3_playCommand_80 (by decide) ?_
              exact J16 _ (by simp only [c18, if_true, if_false, decide_true, decide_false, Bool.not_true, Bool.not_false, Bool.true_and, Bool.false_and, Bool.true_or, Bool.false_or, b2i_t, b2i_f, ite_true, ite_false, not_true_eq_false, not_false_eq_true, reduceCtorEq, decide_eq_true_eq])
        intro v17 ev17
        subst ev17
        refine wp_istore (pc := 84) dX3_playCommand_84 (Nat.le_of_ble_eq_true rfl) rfl ?_
        show wp l M_X3_playCommand (d + 1) 0 0 _ [some (.ref h), some (.ref o1), some (.int x2), none, some (.int x4), some (.long x5), none, some (.long x7), none, some (.int x9), some (.int (b2i (!decide ((mi13 (h + 5) (Int32.toNatClampNeg x9)) = x2)))), none] _ 0 0 kd _ _ mr _
        refine wp_aload_n (pc := 86) dX3_playCommand_86 rfl ?_
        refine wp_getR (pc := 87) dX3_playCommand_87 fl_X3_127 rfl (TX0s_k to1) (TX0s_r8 to1) ?_
        refine wp_iload (pc := 90) dX3_playCommand_90 rfl ?_
        refine wp_iald (pc := 92) dX3_playCommand_92 (TX0s_a8 to1) F.1 ?_
        have F := F.2
        refine wp_iconst (v := 2) (pc := 93) dX3_playCommand_93 (by decide) ?_
        suffices J19 : ∀ v20 : Int32, v20 = (b2i (decide ((mi13 (o1 + 3) (Int32.toNatClampNeg x9)) = 2) && (decide (x2 = 0)))) → wp l M_X3_playCommand (d + 1) 0 0 106 [some (.ref h), some (.ref o1), some (.int x2), none, some (.int x4), some (.long x5), none, some (.long x7), none, some (.int x9), some (.int (b2i (!decide ((mi13 (h + 5) (Int32.toNatClampNeg x9)) = x2)))), none] [.int v20] 0 0 kd mi13 ml14 mr _ by
            refine wp_icmp_ne (tgt := 105) (pc := 94) dX3_playCommand_94 (by decide) (fun c21 => ?_) (fun c21 => ?_)
            · refine wp_iconst (v := 0) (pc := 105) dX3_playCommand_105 (by decide) ?_
              exact J19 _ (by simp only [c21, if_true, if_false, decide_true, decide_false, Bool.not_true, Bool.not_false, Bool.true_and, Bool.false_and, Bool.true_or, Bool.false_or, b2i_t, b2i_f, ite_true, ite_false, not_true_eq_false, not_false_eq_true, reduceCtorEq, decide_eq_true_eq])
            · refine wp_iload_n (pc := 97) dX3_playCommand_97 rfl ?_
              refine wp_if_ne (tgt := 105) (pc := 98) dX3_playCommand_98 (by decide) (fun c22 => ?_) (fun c22 => ?_)
              · refine wp_iconst (v := 0) (pc := 105) dX3_playCommand_105 (by decide) ?_
                exact J19 _ (by simp only [eq_true c21, c22, if_true, if_false, decide_true, decide_false, Bool.not_true, Bool.not_false, Bool.true_and, Bool.false_and, Bool.true_or, Bool.false_or, b2i_t, b2i_f, ite_true, ite_false, not_true_eq_false, not_false_eq_true, reduceCtorEq, decide_eq_true_eq])
              · refine wp_iconst (v := 1) (pc := 101) dX3_playCommand_101 (by decide) ?_
                refine wp_goto (tgt := 106) (pc := 102) dX3_playCommand_102 (by decide) ?_
                exact J19 _ (by simp only [eq_true c21, eq_true c22, if_true, if_false, decide_true, decide_false, Bool.not_true, Bool.not_false, Bool.true_and, Bool.false_and, Bool.true_or, Bool.false_or, b2i_t, b2i_f, ite_true, ite_false, not_true_eq_false, not_false_eq_true, reduceCtorEq, decide_eq_true_eq])
        intro v20 ev20
        subst ev20
        refine wp_istore (pc := 106) dX3_playCommand_106 (Nat.le_of_ble_eq_true rfl) rfl ?_
        show wp l M_X3_playCommand (d + 1) 0 0 _ [some (.ref h), some (.ref o1), some (.int x2), none, some (.int x4), some (.long x5), none, some (.long x7), none, some (.int x9), some (.int (b2i (!decide ((mi13 (h + 5) (Int32.toNatClampNeg x9)) = x2)))), some (.int (b2i (decide ((mi13 (o1 + 3) (Int32.toNatClampNeg x9)) = 2) && (decide (x2 = 0)))))] _ 0 0 kd _ _ mr _
        refine wp_aload_n (pc := 108) dX3_playCommand_108 rfl ?_
        refine wp_getR (pc := 109) dX3_playCommand_109 fl_X3_25 rfl (TX3s_k th) (TX3s_r3 th) ?_
        refine wp_iload (pc := 112) dX3_playCommand_112 rfl ?_
        refine wp_iload_n (pc := 114) dX3_playCommand_114 rfl ?_
        refine wp_iast (pc := 115) dX3_playCommand_115 (TX3s_a3 th) F.1 ?_
        have F := F.2
        refine wp_aload_n (pc := 116) dX3_playCommand_116 rfl ?_
        refine wp_getR (pc := 117) dX3_playCommand_117 fl_X3_28 rfl (TX3s_k th) (TX3s_r4 th) ?_
        refine wp_iload (pc := 120) dX3_playCommand_120 rfl ?_
        refine wp_dup2 (pc := 122) dX3_playCommand_122 rfl rfl ?_
        refine wp_iald (pc := 123) dX3_playCommand_123 (TX3s_a4 th) F.1 ?_
        have F := F.2
        refine t_I (show ((pm_up mi13 (h + 5) (Int32.toNatClampNeg x9) x2) (h + 6) (Int32.toNatClampNeg x9)) = (mi13 (h + 6) (Int32.toNatClampNeg x9)) from pm_up_k _ _ (by omega)) ?_
        refine wp_iconst (v := 1) (pc := 124) dX3_playCommand_124 (by decide) ?_
        refine wp_iadd (pc := 125) dX3_playCommand_125 ?_
        refine wp_iast (pc := 126) dX3_playCommand_126 (TX3s_a4 th) F.1 ?_
        have F := F.2
        refine wp_iload (pc := 127) dX3_playCommand_127 rfl ?_
        refine b_eq (tgt := 159) (pc := 129) dX3_playCommand_129 (by decide) (fun c23 => ?_) (fun c23 => ?_)
        · have F := F.1 c23
          exact wp_less (L' := [some (.ref h), some (.ref o1), some (.int x2), none, some (.int x4), some (.long x5), none, some (.long x7), none, some (.int x9), none, none]) ⟨rfl, ⟨rfl, ⟨rfl, ⟨rfl, ⟨rfl, ⟨rfl, ⟨rfl, trivial⟩⟩⟩⟩⟩⟩⟩ F
        · have F := F.2 c23
          refine wp_iload (pc := 132) dX3_playCommand_132 rfl ?_
          refine b_ne (tgt := 159) (pc := 134) dX3_playCommand_134 (by decide) (fun c24 => ?_) (fun c24 => ?_)
          · have F := F.1 c24
            exact wp_less (L' := [some (.ref h), some (.ref o1), some (.int x2), none, some (.int x4), some (.long x5), none, some (.long x7), none, some (.int x9), none, none]) ⟨rfl, ⟨rfl, ⟨rfl, ⟨rfl, ⟨rfl, ⟨rfl, ⟨rfl, trivial⟩⟩⟩⟩⟩⟩⟩ F
          · have F := F.2 c24
            refine wp_aload_n (pc := 137) dX3_playCommand_137 rfl ?_
            refine wp_dup (pc := 138) dX3_playCommand_138 rfl ?_
            refine wp_getI (pc := 139) dX3_playCommand_139 fl_X3_54 rfl (TX3s_k th) ?_
            refine t_I (show ((pm_up (pm_up mi13 (h + 5) (Int32.toNatClampNeg x9) x2) (h + 6) (Int32.toNatClampNeg x9) ((mi13 (h + 6) (Int32.toNatClampNeg x9)) + 1)) h 7) = (mi13 h 7) from (pm_up_k _ _ (by omega)).trans (pm_up_k _ _ (by omega))) ?_
            refine wp_iconst (v := 1) (pc := 142) dX3_playCommand_142 (by decide) ?_
            refine wp_iadd (pc := 143) dX3_playCommand_143 ?_
            refine wp_putI (pc := 144) dX3_playCommand_144 fl_X3_54 rfl rfl (TX3s_k th) ?_
            refine wp_aload_n (pc := 147) dX3_playCommand_147 rfl ?_
            refine wp_aload_n (pc := 148) dX3_playCommand_148 rfl ?_
            refine wp_iload (pc := 149) dX3_playCommand_149 rfl ?_
            refine wp_iload_n (pc := 151) dX3_playCommand_151 rfl ?_
            refine wp_iload (pc := 152) dX3_playCommand_152 rfl ?_
            refine wp_lload (pc := 154) dX3_playCommand_154 rfl ?_
            refine cvV [.ref o1, .int x9, .int x2, .int x4, .long x7] [] (pc := 156) dX3_playCommand_156 ml_X3_132 iv_X3_obey (TX3s_k th) (cl_X3 rfl) rfl rfl (Nat.le_of_ble_eq_true rfl) (Nat.le_of_ble_eq_true rfl) (wV.mono (fun mi26 ml27 F => ?_) F)
            exact wp_less (L' := [some (.ref h), some (.ref o1), some (.int x2), none, some (.int x4), some (.long x5), none, some (.long x7), none, some (.int x9), none, none]) ⟨rfl, ⟨rfl, ⟨rfl, ⟨rfl, ⟨rfl, ⟨rfl, ⟨rfl, trivial⟩⟩⟩⟩⟩⟩⟩ F
      · have F := F.2 c15
        refine wp_goto (tgt := 159) (pc := 65) dX3_playCommand_65 (by decide) ?_
        exact wp_less (L' := [some (.ref h), some (.ref o1), some (.int x2), none, some (.int x4), some (.long x5), none, some (.long x7), none, some (.int x9), none, none]) ⟨rfl, ⟨rfl, ⟨rfl, ⟨rfl, ⟨rfl, ⟨rfl, ⟨rfl, trivial⟩⟩⟩⟩⟩⟩⟩ F
theorem w_X3_playCommand_159 {l : Launch} {d : Nat} {kd : pm_K} {mr : pm_R} {h : Nat} {o1 : Nat} {x2 : Int32} {x4 : Int32} {x5 : Int64} {x7 : Int64} {x9 : Int32} {mi : pm_I} {ml : pm_L} {K : pm_I → pm_L → Prop} (th : TX3s kd mr h) (to1 : TX0s kd mr o1)
    (F : c_X3_playCommand_30 l (d + 1) kd mr h o1 x2 x4 x5 x7 (x9 + 1) mi ml K) :
    c_X3_playCommand_159 l (d + 1) kd mr h o1 x2 x4 x5 x7 x9 mi ml K := by
  show wp l M_X3_playCommand (d + 1) 0 0 159 [some (.ref h), some (.ref o1), some (.int x2), none, some (.int x4), some (.long x5), none, some (.long x7), none, some (.int x9), none, none] [] 0 0 kd mi ml mr _
  refine wp_iinc (v := (x9 + 1)) (pc := 159) dX3_playCommand_159 rfl rfl rfl ?_
  show wp l M_X3_playCommand (d + 1) 0 0 _ [some (.ref h), some (.ref o1), some (.int x2), none, some (.int x4), some (.long x5), none, some (.long x7), none, some (.int (x9 + 1)), none, none] _ 0 0 kd _ _ mr _
  refine wp_goto (tgt := 30) (pc := 162) dX3_playCommand_162 (by decide) ?_
  exact wp_less (L' := [some (.ref h), some (.ref o1), some (.int x2), none, some (.int x4), some (.long x5), none, some (.long x7), none, some (.int (x9 + 1)), none, none]) ⟨rfl, ⟨rfl, ⟨rfl, ⟨rfl, ⟨rfl, ⟨rfl, ⟨rfl, trivial⟩⟩⟩⟩⟩⟩⟩ F
/-- playCommand(LCityChords$City;III)V -/
theorem w_X3_playCommand {l : Launch} {d : Nat} {kd : pm_K} {mr : pm_R} {h : Nat} {o1 : Nat} {x2 : Int32} {x3 : Int32} {x4 : Int32} {mi : pm_I} {ml : pm_L} {K : pm_I → pm_L → Prop} (th : TX3s kd mr h) (to1 : TX0s kd mr o1)
    (F : vp_in x3 6 ∧ wI l M_X0_rangeOf d [.ref o1, .int x3] kd mr mi ml (fun r1 mi2 ml3 => wL l M_X7_heard d [.ref (h + 1), .ref o1, .int (mi (h + 3) (Int32.toNatClampNeg x3)), .int r1] kd mr mi2 ml3 (fun r4 mi5 ml6 => wL l M_X0_open d [.ref o1] kd mr mi5 ml6 (fun r7 mi8 ml9 => c_X3_playCommand_30 l (d + 1) kd mr h o1 x2 x4 r4 r7 0 mi8 ml9 K)))) :
    wV l M_X3_playCommand (d + 1) [.ref h, .ref o1, .int x2, .int x3, .int x4] kd mr mi ml K := by
  show wp l M_X3_playCommand (d + 1) 0 0 0 [some (.ref h), some (.ref o1), some (.int x2), some (.int x3), some (.int x4), none, none, none, none, none, none, none] [] 0 0 kd mi ml mr _
  refine wp_aload_n (pc := 0) dX3_playCommand_0 rfl ?_
  refine wp_getR (pc := 1) dX3_playCommand_1 fl_X3_12 rfl (TX3s_k th) (TX3s_r0 th) ?_
  refine wp_aload_n (pc := 4) dX3_playCommand_4 rfl ?_
  refine wp_aload_n (pc := 5) dX3_playCommand_5 rfl ?_
  refine wp_getR (pc := 6) dX3_playCommand_6 fl_X3_18 rfl (TX3s_k th) (TX3s_r1 th) ?_
  refine wp_iload_n (pc := 9) dX3_playCommand_9 rfl ?_
  refine wp_iald (pc := 10) dX3_playCommand_10 (TX3s_a1 th) F.1 ?_
  have F := F.2
  refine wp_aload_n (pc := 11) dX3_playCommand_11 rfl ?_
  refine wp_iload_n (pc := 12) dX3_playCommand_12 rfl ?_
  refine cvI [.int x3] [.int (mi (h + 3) (Int32.toNatClampNeg x3)), .ref o1, .ref (h + 1)] (pc := 13) dX3_playCommand_13 ml_X3_120 iv_X0_rangeOf (TX0s_k to1) (cl_X0 rfl) rfl rfl (Nat.le_of_ble_eq_true rfl) (Nat.le_of_ble_eq_true rfl) (wI.mono (fun r1 mi2 ml3 F => ?_) F)
  refine cvL [.ref o1, .int (mi (h + 3) (Int32.toNatClampNeg x3)), .int r1] [] (pc := 16) dX3_playCommand_16 ml_X3_123 iv_X7_heard (TX7s_k (TX3s_a0 th)) (cl_X7 rfl) rfl rfl (Nat.le_of_ble_eq_true rfl) (Nat.le_of_ble_eq_true rfl) (wL.mono (fun r4 mi5 ml6 F => ?_) F)
  refine wp_lstore (pc := 19) dX3_playCommand_19 (Nat.le_of_ble_eq_true rfl) rfl ?_
  show wp l M_X3_playCommand (d + 1) 0 0 _ [some (.ref h), some (.ref o1), some (.int x2), some (.int x3), some (.int x4), some (.long r4), none, none, none, none, none, none] _ 0 0 kd _ _ mr _
  refine wp_aload_n (pc := 21) dX3_playCommand_21 rfl ?_
  refine cvL [] [] (pc := 22) dX3_playCommand_22 ml_X3_101 iv_X0_open (TX0s_k to1) (cl_X0 rfl) rfl rfl (Nat.le_of_ble_eq_true rfl) (Nat.le_of_ble_eq_true rfl) (wL.mono (fun r7 mi8 ml9 F => ?_) F)
  refine wp_lstore (pc := 25) dX3_playCommand_25 (Nat.le_of_ble_eq_true rfl) rfl ?_
  show wp l M_X3_playCommand (d + 1) 0 0 _ [some (.ref h), some (.ref o1), some (.int x2), some (.int x3), some (.int x4), some (.long r4), none, some (.long r7), none, none, none, none] _ 0 0 kd _ _ mr _
  refine wp_iconst (v := 0) (pc := 27) dX3_playCommand_27 (by decide) ?_
  refine wp_istore (pc := 28) dX3_playCommand_28 (Nat.le_of_ble_eq_true rfl) rfl ?_
  show wp l M_X3_playCommand (d + 1) 0 0 _ [some (.ref h), some (.ref o1), some (.int x2), some (.int x3), some (.int x4), some (.long r4), none, some (.long r7), none, some (.int 0), none, none] _ 0 0 kd _ _ mr _
  exact wp_less (L' := [some (.ref h), some (.ref o1), some (.int x2), none, some (.int x4), some (.long r4), none, some (.long r7), none, some (.int 0), none, none]) ⟨rfl, ⟨rfl, ⟨rfl, ⟨rfl, ⟨rfl, ⟨rfl, ⟨rfl, trivial⟩⟩⟩⟩⟩⟩⟩ F
def c_X7_heard_47 (l : Launch) (d : Nat) (kd : pm_K) (mr : pm_R) (h : Nat) (o1 : Nat) (x3 : Int32) (mi : pm_I) (ml : pm_L) (K : Int64 → pm_I → pm_L → Prop) : Prop := wp l M_X7_heard d 0 0 47 [some (.ref h), none, none, some (.int x3), none, none, none] [] 0 0 kd mi ml mr (qL kd mr K)
def c_X7_heard_19 (l : Launch) (d : Nat) (kd : pm_K) (mr : pm_R) (h : Nat) (o1 : Nat) (x3 : Int32) (x4 : Int64) (x6 : Int32) (mi : pm_I) (ml : pm_L) (K : Int64 → pm_I → pm_L → Prop) : Prop := wp l M_X7_heard d 0 0 19 [some (.ref h), some (.ref o1), none, some (.int x3), some (.long x4), none, some (.int x6)] [] 0 0 kd mi ml mr (qL kd mr K)
theorem w_X7_heard_19 {l : Launch} {d : Nat} {kd : pm_K} {mr : pm_R} {h : Nat} {o1 : Nat} {x3 : Int32} {x4 : Int64} {x6 : Int32} {mi : pm_I} {ml : pm_L} {K : Int64 → pm_I → pm_L → Prop} (th : TX7s kd mr h) (to1 : TX0s kd mr o1)
    (F : ((x3 < x6 → c_X7_heard_47 l (d + 1) kd mr h o1 x3 mi ml K) ∧ (¬ x3 < x6 → ((56 < x6 → c_X7_heard_47 l (d + 1) kd mr h o1 x3 mi ml K) ∧ (¬ 56 < x6 → wV l M_X7_spread d [.ref h, .ref o1, .long x4, .int x6] kd mr mi ml (fun mi10 ml11 => c_X7_heard_19 l (d + 1) kd mr h o1 x3 x4 (x6 + 1) mi10 ml11 K)))))) :
    c_X7_heard_19 l (d + 1) kd mr h o1 x3 x4 x6 mi ml K := by
  show wp l M_X7_heard (d + 1) 0 0 19 [some (.ref h), some (.ref o1), none, some (.int x3), some (.long x4), none, some (.int x6)] [] 0 0 kd mi ml mr _
  refine wp_iload (pc := 19) dX7_heard_19 rfl ?_
  refine wp_iload_n (pc := 21) dX7_heard_21 rfl ?_
  refine wp_icmp_gt (tgt := 47) (pc := 22) dX7_heard_22 (by decide) (fun c7 => ?_) (fun c7 => ?_)
  · have F := F.1 c7
    exact wp_less (L' := [some (.ref h), none, none, some (.int x3), none, none, none]) ⟨rfl, ⟨rfl, trivial⟩⟩ F
  · have F := F.2 c7
    refine wp_iload (pc := 25) dX7_heard_25 rfl ?_
    refine wp_bipush (v := 56) (pc := 27) dX7_heard_27 (by decide) ?_
    refine wp_icmp_gt (tgt := 47) (pc := 29) dX7_heard_29 (by decide) (fun c8 => ?_) (fun c8 => ?_)
    · have F := F.1 c8
      exact wp_less (L' := [some (.ref h), none, none, some (.int x3), none, none, none]) ⟨rfl, ⟨rfl, trivial⟩⟩ F
    · have F := F.2 c8
      refine wp_aload_n (pc := 32) dX7_heard_32 rfl ?_
      refine wp_aload_n (pc := 33) dX7_heard_33 rfl ?_
      refine wp_lload (pc := 34) dX7_heard_34 rfl ?_
      refine wp_iload (pc := 36) dX7_heard_36 rfl ?_
      refine cvV [.ref o1, .long x4, .int x6] [] (pc := 38) dX7_heard_38 ml_X7_25 iv_X7_spread (TX7s_k th) (cl_X7 rfl) rfl rfl (Nat.le_of_ble_eq_true rfl) (Nat.le_of_ble_eq_true rfl) (wV.mono (fun mi10 ml11 F => ?_) F)
      refine wp_iinc (v := (x6 + 1)) (pc := 41) dX7_heard_41 rfl rfl rfl ?_
      show wp l M_X7_heard (d + 1) 0 0 _ [some (.ref h), some (.ref o1), none, some (.int x3), some (.long x4), none, some (.int (x6 + 1))] _ 0 0 kd _ _ mr _
      refine wp_goto (tgt := 19) (pc := 44) dX7_heard_44 (by decide) ?_
      exact wp_less (L' := [some (.ref h), some (.ref o1), none, some (.int x3), some (.long x4), none, some (.int (x6 + 1))]) ⟨rfl, ⟨rfl, ⟨rfl, ⟨rfl, ⟨rfl, trivial⟩⟩⟩⟩⟩ F
theorem w_X7_heard_47 {l : Launch} {d : Nat} {kd : pm_K} {mr : pm_R} {h : Nat} {o1 : Nat} {x3 : Int32} {mi : pm_I} {ml : pm_L} {K : Int64 → pm_I → pm_L → Prop} (th : TX7s kd mr h) (to1 : TX0s kd mr o1)
    (F : vp_in (if 56 < x3 then 56 else x3) 57 ∧ K (ml (h + 1) (Int32.toNatClampNeg (if 56 < x3 then 56 else x3))) mi ml) :
    c_X7_heard_47 l (d + 1) kd mr h o1 x3 mi ml K := by
  show wp l M_X7_heard (d + 1) 0 0 47 [some (.ref h), none, none, some (.int x3), none, none, none] [] 0 0 kd mi ml mr _
  refine wp_aload_n (pc := 47) dX7_heard_47 rfl ?_
  refine wp_getR (pc := 48) dX7_heard_48 fl_X7_11 rfl (TX7s_k th) (TX7s_r0 th) ?_
  refine wp_iload_n (pc := 51) dX7_heard_51 rfl ?_
  refine wp_bipush (v := 56) (pc := 52) dX7_heard_52 (by decide) ?_
  refine wp_min (pc := 54) dX7_heard_54 ⟨tb_4 80 rfl rfl, tb_2 149 rfl rfl, tb_1 14 rfl rfl, tb_2 150 rfl rfl⟩ (Nat.succ_pos d) (Nat.le_of_ble_eq_true rfl) ⟨Nat.le_refl 0, Nat.le_refl 0⟩ ?_
  refine wp_lald (pc := 57) dX7_heard_57 (TX7s_a0 th) F.1 ?_
  have F := F.2
  exact r_L (pc := 58) dX7_heard_58 rfl F
/-- heard(LCityChords$City;II)J -/
theorem w_X7_heard {l : Launch} {d : Nat} {kd : pm_K} {mr : pm_R} {h : Nat} {o1 : Nat} {x2 : Int32} {x3 : Int32} {mi : pm_I} {ml : pm_L} {K : Int64 → pm_I → pm_L → Prop} (th : TX7s kd mr h) (to1 : TX0s kd mr o1)
    (F : wL l M_X0_open d [.ref o1] kd mr mi ml (fun r1 mi2 ml3 => wL l M_X11_only d [.int x2] kd mr mi2 ml3 (fun r4 mi5 ml6 => c_X7_heard_19 l (d + 1) kd mr h o1 x3 r1 1 mi5 (pm_up ml6 (h + 1) (Int32.toNatClampNeg 0) r4) K))) :
    wL l M_X7_heard (d + 1) [.ref h, .ref o1, .int x2, .int x3] kd mr mi ml K := by
  show wp l M_X7_heard (d + 1) 0 0 0 [some (.ref h), some (.ref o1), some (.int x2), some (.int x3), none, none, none] [] 0 0 kd mi ml mr _
  refine wp_aload_n (pc := 0) dX7_heard_0 rfl ?_
  refine cvL [] [] (pc := 1) dX7_heard_1 ml_X7_15 iv_X0_open (TX0s_k to1) (cl_X0 rfl) rfl rfl (Nat.le_of_ble_eq_true rfl) (Nat.le_of_ble_eq_true rfl) (wL.mono (fun r1 mi2 ml3 F => ?_) F)
  refine wp_lstore (pc := 4) dX7_heard_4 (Nat.le_of_ble_eq_true rfl) rfl ?_
  show wp l M_X7_heard (d + 1) 0 0 _ [some (.ref h), some (.ref o1), some (.int x2), some (.int x3), some (.long r1), none, none] _ 0 0 kd _ _ mr _
  refine wp_aload_n (pc := 6) dX7_heard_6 rfl ?_
  refine wp_getR (pc := 7) dX7_heard_7 fl_X7_11 rfl (TX7s_k th) (TX7s_r0 th) ?_
  refine wp_iconst (v := 0) (pc := 10) dX7_heard_10 (by decide) ?_
  refine wp_iload_n (pc := 11) dX7_heard_11 rfl ?_
  refine csL [.int x2] [.int 0, .ref (h + 1)] (pc := 12) dX7_heard_12 ml_X7_21 st_X11_only rfl rfl (Nat.le_of_ble_eq_true rfl) (Nat.le_of_ble_eq_true rfl) (wL.mono (fun r4 mi5 ml6 F => ?_) F)
  refine wp_last (pc := 15) dX7_heard_15 (TX7s_a0 th) (vp_dec (by decide)) ?_
  refine wp_iconst (v := 1) (pc := 16) dX7_heard_16 (by decide) ?_
  refine wp_istore (pc := 17) dX7_heard_17 (Nat.le_of_ble_eq_true rfl) rfl ?_
  show wp l M_X7_heard (d + 1) 0 0 _ [some (.ref h), some (.ref o1), some (.int x2), some (.int x3), some (.long r1), none, some (.int 1)] _ 0 0 kd _ _ mr _
  exact wp_less (L' := [some (.ref h), some (.ref o1), none, some (.int x3), some (.long r1), none, some (.int 1)]) ⟨rfl, ⟨rfl, ⟨rfl, ⟨rfl, ⟨rfl, trivial⟩⟩⟩⟩⟩ F
def c_X7_spread_45 (l : Launch) (d : Nat) (kd : pm_K) (mr : pm_R) (h : Nat) (o1 : Nat) (x2 : Int64) (x4 : Int32) (x5 : Int64) (x7 : Int32) (s0 : Int32) (mi : pm_I) (ml : pm_L) (K : pm_I → pm_L → Prop) : Prop := wp l M_X7_spread d 0 0 45 [some (.ref h), some (.ref o1), some (.long x2), none, some (.int x4), some (.long x5), none, some (.int x7), none, none] [.int s0] 0 0 kd mi ml mr (qV kd mr K)
def c_X7_spread_44 (l : Launch) (d : Nat) (kd : pm_K) (mr : pm_R) (h : Nat) (o1 : Nat) (x2 : Int64) (x4 : Int32) (x5 : Int64) (x7 : Int32) (mi : pm_I) (ml : pm_L) (K : pm_I → pm_L → Prop) : Prop := wp l M_X7_spread d 0 0 44 [some (.ref h), some (.ref o1), some (.long x2), none, some (.int x4), some (.long x5), none, some (.int x7), none, none] [] 0 0 kd mi ml mr (qV kd mr K)
def c_X7_spread_116 (l : Launch) (d : Nat) (kd : pm_K) (mr : pm_R) (h : Nat) (o1 : Nat) (x2 : Int64) (x4 : Int32) (x5 : Int64) (x7 : Int32) (mi : pm_I) (ml : pm_L) (K : pm_I → pm_L → Prop) : Prop := wp l M_X7_spread d 0 0 116 [some (.ref h), some (.ref o1), some (.long x2), none, some (.int x4), some (.long x5), none, some (.int x7), none, none] [] 0 0 kd mi ml mr (qV kd mr K)
def c_X7_spread_86 (l : Launch) (d : Nat) (kd : pm_K) (mr : pm_R) (h : Nat) (o1 : Nat) (x2 : Int64) (x4 : Int32) (x5 : Int64) (x7 : Int32) (x9 : Int32) (mi : pm_I) (ml : pm_L) (K : pm_I → pm_L → Prop) : Prop := wp l M_X7_spread d 0 0 86 [some (.ref h), some (.ref o1), some (.long x2), none, some (.int x4), some (.long x5), none, some (.int x7), none, some (.int x9)] [] 0 0 kd mi ml mr (qV kd mr K)
def c_X7_spread_14 (l : Launch) (d : Nat) (kd : pm_K) (mr : pm_R) (h : Nat) (o1 : Nat) (x2 : Int64) (x4 : Int32) (x5 : Int64) (x7 : Int32) (mi : pm_I) (ml : pm_L) (K : pm_I → pm_L → Prop) : Prop := wp l M_X7_spread d 0 0 14 [some (.ref h), some (.ref o1), some (.long x2), none, some (.int x4), some (.long x5), none, some (.int x7), none, none] [] 0 0 kd mi ml mr (qV kd mr K)
theorem w_X7_spread_14 {l : Launch} {d : Nat} {kd : pm_K} {mr : pm_R} {h : Nat} {o1 : Nat} {x2 : Int64} {x4 : Int32} {x5 : Int64} {x7 : Int32} {mi : pm_I} {ml : pm_L} {K : pm_I → pm_L → Prop} (th : TX7s kd mr h) (to1 : TX0s kd mr o1)
    (F : ((4 ≤ x7 → vp_in x4 57 ∧ K mi (pm_up ml (h + 1) (Int32.toNatClampNeg x4) x5)) ∧ (¬ 4 ≤ x7 → (((mi o1 2) = 4 → c_X7_spread_44 l (d + 1) kd mr h o1 x2 x4 x5 x7 mi ml K) ∧ (¬ (mi o1 2) = 4 → wI l M_X11_contrary d [.int (mi o1 2)] kd mr mi ml (fun r3 mi4 ml5 => (((x4 - (if (decide (x7 = r3)) = true then (2 : Int32) else (1 : Int32))) < 0 → c_X7_spread_86 l (d + 1) kd mr h o1 x2 x4 x5 x7 (x4 - (if (decide (x7 = r3)) = true then (2 : Int32) else (1 : Int32))) mi4 ml5 K) ∧ (¬ (x4 - (if (decide (x7 = r3)) = true then (2 : Int32) else (1 : Int32))) < 0 → vp_in (x4 - (if (decide (x7 = r3)) = true then (2 : Int32) else (1 : Int32))) 57 ∧ wL l M_X11_moved d [.long (ml5 (h + 1) (Int32.toNatClampNeg (x4 - (if (decide (x7 = r3)) = true then (2 : Int32) else (1 : Int32))))), .int x7] kd mr mi4 ml5 (fun r13 mi14 ml15 => c_X7_spread_86 l (d + 1) kd mr h o1 x2 x4 (x5 ||| (r13 &&& x2)) x7 (x4 - (if (decide (x7 = r3)) = true then (2 : Int32) else (1 : Int32))) mi14 ml15 K))))))))) :
    c_X7_spread_14 l (d + 1) kd mr h o1 x2 x4 x5 x7 mi ml K := by
  show wp l M_X7_spread (d + 1) 0 0 14 [some (.ref h), some (.ref o1), some (.long x2), none, some (.int x4), some (.long x5), none, some (.int x7), none, none] [] 0 0 kd mi ml mr _
  refine wp_iload (pc := 14) dX7_spread_14 rfl ?_
  refine wp_iconst (v := 4) (pc := 16) dX7_spread_16 (by decide) ?_
  refine wp_icmp_ge (tgt := 122) (pc := 17) dX7_spread_17 (by decide) (fun c1 => ?_) (fun c1 => ?_)
  · have F := F.1 c1
    refine wp_aload_n (pc := 122) dX7_spread_122 rfl ?_
    refine wp_getR (pc := 123) dX7_spread_123 fl_X7_11 rfl (TX7s_k th) (TX7s_r0 th) ?_
    refine wp_iload (pc := 126) dX7_spread_126 rfl ?_
    refine wp_lload (pc := 128) dX7_spread_128 rfl ?_
    refine wp_last (pc := 130) dX7_spread_130 (TX7s_a0 th) F.1 ?_
    have F := F.2
    exact r_V (pc := 131) dX7_spread_131 rfl F
  · have F := F.2 c1
    refine wp_aload_n (pc := 20) dX7_spread_20 rfl ?_
    refine wp_getI (pc := 21) dX7_spread_21 fl_X7_39 rfl (TX0s_k to1) ?_
    refine wp_iconst (v := 4) (pc := 24) dX7_spread_24 (by decide) ?_
    refine wp_icmp_eq (tgt := 44) (pc := 25) dX7_spread_25 (by decide) (fun c2 => ?_) (fun c2 => ?_)
    · have F := F.1 c2
      exact wp_less (L' := [some (.ref h), some (.ref o1), some (.long x2), none, some (.int x4), some (.long x5), none, some (.int x7), none, none]) ⟨rfl, ⟨rfl, ⟨rfl, ⟨rfl, ⟨rfl, ⟨rfl, trivial⟩⟩⟩⟩⟩⟩ F
    · have F := F.2 c2
      refine wp_iload (pc := 28) dX7_spread_28 rfl ?_
      refine wp_aload_n (pc := 30) dX7_spread_30 rfl ?_
      refine wp_getI (pc := 31) dX7_spread_31 fl_X7_39 rfl (TX0s_k to1) ?_
      refine csI [.int (mi o1 2)] [.int x7] (pc := 34) dX7_spread_34 ml_X7_43 st_X11_contrary rfl rfl (Nat.le_of_ble_eq_true rfl) (Nat.le_of_ble_eq_true rfl) (wI.mono (fun r3 mi4 ml5 F => ?_) F)
      suffices J6 : ∀ v7 : Int32, v7 = (b2i (decide (x7 = r3))) → wp l M_X7_spread (d + 1) 0 0 45 [some (.ref h), some (.ref o1), some (.long x2), none, some (.int x4), some (.long x5), none, some (.int x7), none, none] [.int v7] 0 0 kd mi4 ml5 mr _ by
          refine wp_icmp_ne (tgt := 44) (pc := 37) dX7_spread_37 (by decide) (fun c8 => ?_) (fun c8 => ?_)
          · refine wp_iconst (v := 0) (pc := 44) dX7_spread_44 (by decide) ?_
            exact J6 _ (by simp only [c8, if_true, if_false, decide_true, decide_false, Bool.not_true, Bool.not_false, Bool.true_and, Bool.false_and, Bool.true_or, Bool.false_or, b2i_t, b2i_f, ite_true, ite_false, not_true_eq_false, not_false_eq_true, reduceCtorEq, decide_eq_true_eq])
          · refine wp_iconst (v := 1) (pc := 40) dX7_spread_40 (by decide) ?_
            refine wp_goto (tgt := 45) (pc := 41) dX7_spread_41 (by decide) ?_
            exact J6 _ (by simp only [eq_true c8, if_true, if_false, decide_true, decide_false, Bool.not_true, Bool.not_false, Bool.true_and, Bool.false_and, Bool.true_or, Bool.false_or, b2i_t, b2i_f, ite_true, ite_false, not_true_eq_false, not_false_eq_true, reduceCtorEq, decide_eq_true_eq])
      intro v7 ev7
      subst ev7
      refine wp_istore (pc := 45) dX7_spread_45 (Nat.le_of_ble_eq_true rfl) rfl ?_
      show wp l M_X7_spread (d + 1) 0 0 _ [some (.ref h), some (.ref o1), some (.long x2), none, some (.int x4), some (.long x5), none, some (.int x7), some (.int (b2i (decide (x7 = r3)))), none] _ 0 0 kd _ _ mr _
      refine wp_iload (pc := 47) dX7_spread_47 rfl ?_
      refine wp_iload (pc := 49) dX7_spread_49 rfl ?_
      suffices J9 : ∀ v10 : Int32, v10 = (if (decide (x7 = r3)) = true then (2 : Int32) else (1 : Int32)) → wp l M_X7_spread (d + 1) 0 0 59 [some (.ref h), some (.ref o1), some (.long x2), none, some (.int x4), some (.long x5), none, some (.int x7), some (.int (b2i (decide (x7 = r3)))), none] [.int v10, .int x4] 0 0 kd mi4 ml5 mr _ by
          refine b_eq (tgt := 58) (pc := 51) dX7_spread_51 (by decide) (fun c11 => ?_) (fun c11 => ?_)
          · refine wp_iconst (v := 1) (pc := 58) dX7_spread_58 (by decide) ?_
            exact J9 _ (by simp only [c11, if_true, if_false, decide_true, decide_false, Bool.not_true, Bool.not_false, Bool.true_and, Bool.false_and, Bool.true_or, Bool.false_or, b2i_t, b2i_f, ite_true, ite_false, not_true_eq_false, not_false_eq_true, reduceCtorEq, decide_eq_true_eq])
          · refine wp_iconst (v := 2) (pc := 54) dX7_spread_54 (by decide) ?_
            refine wp_goto (tgt := 59) (pc := 55) dX7_spread_55 (by decide) ?_
            exact J9 _ (by simp only [c11, if_true, if_false, decide_true, decide_false, Bool.not_true, Bool.not_false, Bool.true_and, Bool.false_and, Bool.true_or, Bool.false_or, b2i_t, b2i_f, ite_true, ite_false, not_true_eq_false, not_false_eq_true, reduceCtorEq, decide_eq_true_eq])
      intro v10 ev10
      subst ev10
      refine wp_isub (pc := 59) dX7_spread_59 ?_
      refine wp_istore (pc := 60) dX7_spread_60 (Nat.le_of_ble_eq_true rfl) rfl ?_
      show wp l M_X7_spread (d + 1) 0 0 _ [some (.ref h), some (.ref o1), some (.long x2), none, some (.int x4), some (.long x5), none, some (.int x7), some (.int (b2i (decide (x7 = r3)))), some (.int (x4 - (if (decide (x7 = r3)) = true then (2 : Int32) else (1 : Int32))))] _ 0 0 kd _ _ mr _
      refine wp_iload (pc := 62) dX7_spread_62 rfl ?_
      refine wp_if_lt (tgt := 86) (pc := 64) dX7_spread_64 (by decide) (fun c12 => ?_) (fun c12 => ?_)
      · have F := F.1 c12
        exact wp_less (L' := [some (.ref h), some (.ref o1), some (.long x2), none, some (.int x4), some (.long x5), none, some (.int x7), none, some (.int (x4 - (if (decide (x7 = r3)) = true then (2 : Int32) else (1 : Int32))))]) ⟨rfl, ⟨rfl, ⟨rfl, ⟨rfl, ⟨rfl, ⟨rfl, ⟨rfl, trivial⟩⟩⟩⟩⟩⟩⟩ F
      · have F := F.2 c12
        refine wp_lload (pc := 67) dX7_spread_67 rfl ?_
        refine wp_aload_n (pc := 69) dX7_spread_69 rfl ?_
        refine wp_getR (pc := 70) dX7_spread_70 fl_X7_11 rfl (TX7s_k th) (TX7s_r0 th) ?_
        refine wp_iload (pc := 73) dX7_spread_73 rfl ?_
        refine wp_lald (pc := 75) dX7_spread_75 (TX7s_a0 th) F.1 ?_
        have F := F.2
        refine wp_iload (pc := 76) dX7_spread_76 rfl ?_
        refine csL [.long (ml5 (h + 1) (Int32.toNatClampNeg (x4 - (if (decide (x7 = r3)) = true then (2 : Int32) else (1 : Int32))))), .int x7] [.long x5] (pc := 78) dX7_spread_78 ml_X7_47 st_X11_moved rfl rfl (Nat.le_of_ble_eq_true rfl) (Nat.le_of_ble_eq_true rfl) (wL.mono (fun r13 mi14 ml15 F => ?_) F)
        refine wp_lload_n (pc := 81) dX7_spread_81 rfl ?_
        refine wp_land (pc := 82) dX7_spread_82 ?_
        refine wp_lor (pc := 83) dX7_spread_83 ?_
        refine wp_lstore (pc := 84) dX7_spread_84 (Nat.le_of_ble_eq_true rfl) rfl ?_
        show wp l M_X7_spread (d + 1) 0 0 _ [some (.ref h), some (.ref o1), some (.long x2), none, some (.int x4), some (.long (x5 ||| (r13 &&& x2))), none, some (.int x7), some (.int (b2i (decide (x7 = r3)))), some (.int (x4 - (if (decide (x7 = r3)) = true then (2 : Int32) else (1 : Int32))))] _ 0 0 kd _ _ mr _
        exact wp_less (L' := [some (.ref h), some (.ref o1), some (.long x2), none, some (.int x4), some (.long (x5 ||| (r13 &&& x2))), none, some (.int x7), none, some (.int (x4 - (if (decide (x7 = r3)) = true then (2 : Int32) else (1 : Int32))))]) ⟨rfl, ⟨rfl, ⟨rfl, ⟨rfl, ⟨rfl, ⟨rfl, ⟨rfl, trivial⟩⟩⟩⟩⟩⟩⟩ F
theorem w_X7_spread_86 {l : Launch} {d : Nat} {kd : pm_K} {mr : pm_R} {h : Nat} {o1 : Nat} {x2 : Int64} {x4 : Int32} {x5 : Int64} {x7 : Int32} {x9 : Int32} {mi : pm_I} {ml : pm_L} {K : pm_I → pm_L → Prop} (th : TX7s kd mr h) (to1 : TX0s kd mr o1)
    (F : ((x9 < 2 → c_X7_spread_116 l (d + 1) kd mr h o1 x2 x4 x5 x7 mi ml K) ∧ (¬ x9 < 2 → vp_in (x9 - 2) 57 ∧ wL l M_X11_moved d [.long (ml (h + 1) (Int32.toNatClampNeg (x9 - 2))), .int x7] kd mr mi ml (fun r17 mi18 ml19 => c_X7_spread_116 l (d + 1) kd mr h o1 x2 x4 (x5 ||| (r17 &&& (ml19 o1 3))) x7 mi18 ml19 K)))) :
    c_X7_spread_86 l (d + 1) kd mr h o1 x2 x4 x5 x7 x9 mi ml K := by
  show wp l M_X7_spread (d + 1) 0 0 86 [some (.ref h), some (.ref o1), some (.long x2), none, some (.int x4), some (.long x5), none, some (.int x7), none, some (.int x9)] [] 0 0 kd mi ml mr _
  refine wp_iload (pc := 86) dX7_spread_86 rfl ?_
  refine wp_iconst (v := 2) (pc := 88) dX7_spread_88 (by decide) ?_
  refine wp_icmp_lt (tgt := 116) (pc := 89) dX7_spread_89 (by decide) (fun c16 => ?_) (fun c16 => ?_)
  · have F := F.1 c16
    exact wp_less (L' := [some (.ref h), some (.ref o1), some (.long x2), none, some (.int x4), some (.long x5), none, some (.int x7), none, none]) ⟨rfl, ⟨rfl, ⟨rfl, ⟨rfl, ⟨rfl, ⟨rfl, trivial⟩⟩⟩⟩⟩⟩ F
  · have F := F.2 c16
    refine wp_lload (pc := 92) dX7_spread_92 rfl ?_
    refine wp_aload_n (pc := 94) dX7_spread_94 rfl ?_
    refine wp_getR (pc := 95) dX7_spread_95 fl_X7_11 rfl (TX7s_k th) (TX7s_r0 th) ?_
    refine wp_iload (pc := 98) dX7_spread_98 rfl ?_
    refine wp_iconst (v := 2) (pc := 100) dX7_spread_100 (by decide) ?_
    refine wp_isub (pc := 101) dX7_spread_101 ?_
    refine wp_lald (pc := 102) dX7_spread_102 (TX7s_a0 th) F.1 ?_
    have F := F.2
    refine wp_iload (pc := 103) dX7_spread_103 rfl ?_
    refine csL [.long (ml (h + 1) (Int32.toNatClampNeg (x9 - 2))), .int x7] [.long x5] (pc := 105) dX7_spread_105 ml_X7_47 st_X11_moved rfl rfl (Nat.le_of_ble_eq_true rfl) (Nat.le_of_ble_eq_true rfl) (wL.mono (fun r17 mi18 ml19 F => ?_) F)
    refine wp_aload_n (pc := 108) dX7_spread_108 rfl ?_
    refine wp_getL (pc := 109) dX7_spread_109 fl_X7_51 rfl (TX0s_k to1) ?_
    refine wp_land (pc := 112) dX7_spread_112 ?_
    refine wp_lor (pc := 113) dX7_spread_113 ?_
    refine wp_lstore (pc := 114) dX7_spread_114 (Nat.le_of_ble_eq_true rfl) rfl ?_
    show wp l M_X7_spread (d + 1) 0 0 _ [some (.ref h), some (.ref o1), some (.long x2), none, some (.int x4), some (.long (x5 ||| (r17 &&& (ml19 o1 3)))), none, some (.int x7), none, some (.int x9)] _ 0 0 kd _ _ mr _
    exact wp_less (L' := [some (.ref h), some (.ref o1), some (.long x2), none, some (.int x4), some (.long (x5 ||| (r17 &&& (ml19 o1 3)))), none, some (.int x7), none, none]) ⟨rfl, ⟨rfl, ⟨rfl, ⟨rfl, ⟨rfl, ⟨rfl, trivial⟩⟩⟩⟩⟩⟩ F
theorem w_X7_spread_116 {l : Launch} {d : Nat} {kd : pm_K} {mr : pm_R} {h : Nat} {o1 : Nat} {x2 : Int64} {x4 : Int32} {x5 : Int64} {x7 : Int32} {mi : pm_I} {ml : pm_L} {K : pm_I → pm_L → Prop} (th : TX7s kd mr h) (to1 : TX0s kd mr o1)
    (F : c_X7_spread_14 l (d + 1) kd mr h o1 x2 x4 x5 (x7 + 1) mi ml K) :
    c_X7_spread_116 l (d + 1) kd mr h o1 x2 x4 x5 x7 mi ml K := by
  show wp l M_X7_spread (d + 1) 0 0 116 [some (.ref h), some (.ref o1), some (.long x2), none, some (.int x4), some (.long x5), none, some (.int x7), none, none] [] 0 0 kd mi ml mr _
  refine wp_iinc (v := (x7 + 1)) (pc := 116) dX7_spread_116 rfl rfl rfl ?_
  show wp l M_X7_spread (d + 1) 0 0 _ [some (.ref h), some (.ref o1), some (.long x2), none, some (.int x4), some (.long x5), none, some (.int (x7 + 1)), none, none] _ 0 0 kd _ _ mr _
  refine wp_goto (tgt := 14) (pc := 119) dX7_spread_119 (by decide) ?_
  exact wp_less (L' := [some (.ref h), some (.ref o1), some (.long x2), none, some (.int x4), some (.long x5), none, some (.int (x7 + 1)), none, none]) ⟨rfl, ⟨rfl, ⟨rfl, ⟨rfl, ⟨rfl, ⟨rfl, trivial⟩⟩⟩⟩⟩⟩ F
theorem w_X7_spread_44 {l : Launch} {d : Nat} {kd : pm_K} {mr : pm_R} {h : Nat} {o1 : Nat} {x2 : Int64} {x4 : Int32} {x5 : Int64} {x7 : Int32} {mi : pm_I} {ml : pm_L} {K : pm_I → pm_L → Prop} (th : TX7s kd mr h) (to1 : TX0s kd mr o1)
    (F : c_X7_spread_45 l (d + 1) kd mr h o1 x2 x4 x5 x7 0 mi ml K) :
    c_X7_spread_44 l (d + 1) kd mr h o1 x2 x4 x5 x7 mi ml K := by
  show wp l M_X7_spread (d + 1) 0 0 44 [some (.ref h), some (.ref o1), some (.long x2), none, some (.int x4), some (.long x5), none, some (.int x7), none, none] [] 0 0 kd mi ml mr _
  refine wp_iconst (v := 0) (pc := 44) dX7_spread_44 (by decide) ?_
  exact wp_less (L' := [some (.ref h), some (.ref o1), some (.long x2), none, some (.int x4), some (.long x5), none, some (.int x7), none, none]) ⟨rfl, ⟨rfl, ⟨rfl, ⟨rfl, ⟨rfl, ⟨rfl, trivial⟩⟩⟩⟩⟩⟩ F
theorem w_X7_spread_45 {l : Launch} {d : Nat} {kd : pm_K} {mr : pm_R} {h : Nat} {o1 : Nat} {x2 : Int64} {x4 : Int32} {x5 : Int64} {x7 : Int32} {s0 : Int32} {mi : pm_I} {ml : pm_L} {K : pm_I → pm_L → Prop} (th : TX7s kd mr h) (to1 : TX0s kd mr o1)
    (F : (((x4 - (if s0 = 0 then (1 : Int32) else (2 : Int32))) < 0 → c_X7_spread_86 l (d + 1) kd mr h o1 x2 x4 x5 x7 (x4 - (if s0 = 0 then (1 : Int32) else (2 : Int32))) mi ml K) ∧ (¬ (x4 - (if s0 = 0 then (1 : Int32) else (2 : Int32))) < 0 → vp_in (x4 - (if s0 = 0 then (1 : Int32) else (2 : Int32))) 57 ∧ wL l M_X11_moved d [.long (ml (h + 1) (Int32.toNatClampNeg (x4 - (if s0 = 0 then (1 : Int32) else (2 : Int32))))), .int x7] kd mr mi ml (fun r24 mi25 ml26 => c_X7_spread_86 l (d + 1) kd mr h o1 x2 x4 (x5 ||| (r24 &&& x2)) x7 (x4 - (if s0 = 0 then (1 : Int32) else (2 : Int32))) mi25 ml26 K)))) :
    c_X7_spread_45 l (d + 1) kd mr h o1 x2 x4 x5 x7 s0 mi ml K := by
  show wp l M_X7_spread (d + 1) 0 0 45 [some (.ref h), some (.ref o1), some (.long x2), none, some (.int x4), some (.long x5), none, some (.int x7), none, none] [.int s0] 0 0 kd mi ml mr _
  refine wp_istore (pc := 45) dX7_spread_45 (Nat.le_of_ble_eq_true rfl) rfl ?_
  show wp l M_X7_spread (d + 1) 0 0 _ [some (.ref h), some (.ref o1), some (.long x2), none, some (.int x4), some (.long x5), none, some (.int x7), some (.int s0), none] _ 0 0 kd _ _ mr _
  refine wp_iload (pc := 47) dX7_spread_47 rfl ?_
  refine wp_iload (pc := 49) dX7_spread_49 rfl ?_
  suffices J20 : ∀ v21 : Int32, v21 = (if s0 = 0 then (1 : Int32) else (2 : Int32)) → wp l M_X7_spread (d + 1) 0 0 59 [some (.ref h), some (.ref o1), some (.long x2), none, some (.int x4), some (.long x5), none, some (.int x7), some (.int s0), none] [.int v21, .int x4] 0 0 kd mi ml mr _ by
      refine wp_if_eq (tgt := 58) (pc := 51) dX7_spread_51 (by decide) (fun c22 => ?_) (fun c22 => ?_)
      · refine wp_iconst (v := 1) (pc := 58) dX7_spread_58 (by decide) ?_
        exact J20 _ (by simp only [eq_true c22, if_true, if_false, decide_true, decide_false, Bool.not_true, Bool.not_false, Bool.true_and, Bool.false_and, Bool.true_or, Bool.false_or, b2i_t, b2i_f, ite_true, ite_false, not_true_eq_false, not_false_eq_true, reduceCtorEq, decide_eq_true_eq])
      · refine wp_iconst (v := 2) (pc := 54) dX7_spread_54 (by decide) ?_
        refine wp_goto (tgt := 59) (pc := 55) dX7_spread_55 (by decide) ?_
        exact J20 _ (by simp only [c22, if_true, if_false, decide_true, decide_false, Bool.not_true, Bool.not_false, Bool.true_and, Bool.false_and, Bool.true_or, Bool.false_or, b2i_t, b2i_f, ite_true, ite_false, not_true_eq_false, not_false_eq_true, reduceCtorEq, decide_eq_true_eq])
  intro v21 ev21
  subst ev21
  refine wp_isub (pc := 59) dX7_spread_59 ?_
  refine wp_istore (pc := 60) dX7_spread_60 (Nat.le_of_ble_eq_true rfl) rfl ?_
  show wp l M_X7_spread (d + 1) 0 0 _ [some (.ref h), some (.ref o1), some (.long x2), none, some (.int x4), some (.long x5), none, some (.int x7), some (.int s0), some (.int (x4 - (if s0 = 0 then (1 : Int32) else (2 : Int32))))] _ 0 0 kd _ _ mr _
  refine wp_iload (pc := 62) dX7_spread_62 rfl ?_
  refine wp_if_lt (tgt := 86) (pc := 64) dX7_spread_64 (by decide) (fun c23 => ?_) (fun c23 => ?_)
  · have F := F.1 c23
    exact wp_less (L' := [some (.ref h), some (.ref o1), some (.long x2), none, some (.int x4), some (.long x5), none, some (.int x7), none, some (.int (x4 - (if s0 = 0 then (1 : Int32) else (2 : Int32))))]) ⟨rfl, ⟨rfl, ⟨rfl, ⟨rfl, ⟨rfl, ⟨rfl, ⟨rfl, trivial⟩⟩⟩⟩⟩⟩⟩ F
  · have F := F.2 c23
    refine wp_lload (pc := 67) dX7_spread_67 rfl ?_
    refine wp_aload_n (pc := 69) dX7_spread_69 rfl ?_
    refine wp_getR (pc := 70) dX7_spread_70 fl_X7_11 rfl (TX7s_k th) (TX7s_r0 th) ?_
    refine wp_iload (pc := 73) dX7_spread_73 rfl ?_
    refine wp_lald (pc := 75) dX7_spread_75 (TX7s_a0 th) F.1 ?_
    have F := F.2
    refine wp_iload (pc := 76) dX7_spread_76 rfl ?_
    refine csL [.long (ml (h + 1) (Int32.toNatClampNeg (x4 - (if s0 = 0 then (1 : Int32) else (2 : Int32))))), .int x7] [.long x5] (pc := 78) dX7_spread_78 ml_X7_47 st_X11_moved rfl rfl (Nat.le_of_ble_eq_true rfl) (Nat.le_of_ble_eq_true rfl) (wL.mono (fun r24 mi25 ml26 F => ?_) F)
    refine wp_lload_n (pc := 81) dX7_spread_81 rfl ?_
    refine wp_land (pc := 82) dX7_spread_82 ?_
    refine wp_lor (pc := 83) dX7_spread_83 ?_
    refine wp_lstore (pc := 84) dX7_spread_84 (Nat.le_of_ble_eq_true rfl) rfl ?_
    show wp l M_X7_spread (d + 1) 0 0 _ [some (.ref h), some (.ref o1), some (.long x2), none, some (.int x4), some (.long (x5 ||| (r24 &&& x2))), none, some (.int x7), some (.int s0), some (.int (x4 - (if s0 = 0 then (1 : Int32) else (2 : Int32))))] _ 0 0 kd _ _ mr _
    exact wp_less (L' := [some (.ref h), some (.ref o1), some (.long x2), none, some (.int x4), some (.long (x5 ||| (r24 &&& x2))), none, some (.int x7), none, some (.int (x4 - (if s0 = 0 then (1 : Int32) else (2 : Int32))))]) ⟨rfl, ⟨rfl, ⟨rfl, ⟨rfl, ⟨rfl, ⟨rfl, ⟨rfl, trivial⟩⟩⟩⟩⟩⟩⟩ F
/-- spread(LCityChords$City;JI)V -/
theorem w_X7_spread {l : Launch} {d : Nat} {kd : pm_K} {mr : pm_R} {h : Nat} {o1 : Nat} {x2 : Int64} {x4 : Int32} {mi : pm_I} {ml : pm_L} {K : pm_I → pm_L → Prop} (th : TX7s kd mr h) (to1 : TX0s kd mr o1)
    (F : vp_in (x4 - 1) 57 ∧ c_X7_spread_14 l (d + 1) kd mr h o1 x2 x4 (ml (h + 1) (Int32.toNatClampNeg (x4 - 1))) 0 mi ml K) :
    wV l M_X7_spread (d + 1) [.ref h, .ref o1, .long x2, .int x4] kd mr mi ml K := by
  show wp l M_X7_spread (d + 1) 0 0 0 [some (.ref h), some (.ref o1), some (.long x2), none, some (.int x4), none, none, none, none, none] [] 0 0 kd mi ml mr _
  refine wp_aload_n (pc := 0) dX7_spread_0 rfl ?_
  refine wp_getR (pc := 1) dX7_spread_1 fl_X7_11 rfl (TX7s_k th) (TX7s_r0 th) ?_
  refine wp_iload (pc := 4) dX7_spread_4 rfl ?_
  refine wp_iconst (v := 1) (pc := 6) dX7_spread_6 (by decide) ?_
  refine wp_isub (pc := 7) dX7_spread_7 ?_
  refine wp_lald (pc := 8) dX7_spread_8 (TX7s_a0 th) F.1 ?_
  have F := F.2
  refine wp_lstore (pc := 9) dX7_spread_9 (Nat.le_of_ble_eq_true rfl) rfl ?_
  show wp l M_X7_spread (d + 1) 0 0 _ [some (.ref h), some (.ref o1), some (.long x2), none, some (.int x4), some (.long (ml (h + 1) (Int32.toNatClampNeg (x4 - 1)))), none, none, none, none] _ 0 0 kd _ _ mr _
  refine wp_iconst (v := 0) (pc := 11) dX7_spread_11 (by decide) ?_
  refine wp_istore (pc := 12) dX7_spread_12 (Nat.le_of_ble_eq_true rfl) rfl ?_
  show wp l M_X7_spread (d + 1) 0 0 _ [some (.ref h), some (.ref o1), some (.long x2), none, some (.int x4), some (.long (ml (h + 1) (Int32.toNatClampNeg (x4 - 1)))), none, some (.int 0), none, none] _ 0 0 kd _ _ mr _
  exact wp_less (L' := [some (.ref h), some (.ref o1), some (.long x2), none, some (.int x4), some (.long (ml (h + 1) (Int32.toNatClampNeg (x4 - 1)))), none, some (.int 0), none, none]) ⟨rfl, ⟨rfl, ⟨rfl, ⟨rfl, ⟨rfl, ⟨rfl, trivial⟩⟩⟩⟩⟩⟩ F
/-- obey(LCityChords$City;IIIJ)V -/
theorem w_X3_obey {l : Launch} {d : Nat} {kd : pm_K} {mr : pm_R} {h : Nat} {o1 : Nat} {x2 : Int32} {x3 : Int32} {x4 : Int32} {x5 : Int64} {mi : pm_I} {ml : pm_L} {K : pm_I → pm_L → Prop} (th : TX3s kd mr h) (to1 : TX0s kd mr o1)
    (F : (((x3).toInt < 0 ∨ 2 < (x3).toInt → vp_in x2 6 ∧ wI l M_X11_nextSpot d [.int (mi (h + 4) (Int32.toNatClampNeg x2)), .int x4, .long x5] kd mr mi ml (fun r2 mi3 ml4 => wB l M_X3_isFree d [.ref h, .int x2] kd mr mi3 ml4 (fun r5 mi6 ml7 => ((r5 = false → K mi6 ml7) ∧ (r5 = true → ((r2 = (-1) → K mi6 ml7) ∧ (¬ r2 = (-1) → vp_in x2 6 ∧ K (pm_up mi6 (h + 4) (Int32.toNatClampNeg x2) r2) ml7))))))) ∧ ((x3).toInt = 0 → K (pm_up mi h 5 ((mi h 5) ||| ((1 : Int32) <<< (x2 &&& 31)))) ml) ∧ ((x3).toInt = 1 → K (pm_up mi h 5 ((mi h 5) &&& (((1 : Int32) <<< (x2 &&& 31)) ^^^ (-1)))) ml) ∧ ((x3).toInt = 2 → vp_in x2 6 ∧ ((¬ (mi (o1 + 3) (Int32.toNatClampNeg x2)) = 1 → K mi ml) ∧ ((mi (o1 + 3) (Int32.toNatClampNeg x2)) = 1 → K (pm_up mi h 6 ((mi h 6) ||| ((1 : Int32) <<< (x2 &&& 31)))) ml))))) :
    wV l M_X3_obey (d + 1) [.ref h, .ref o1, .int x2, .int x3, .int x4, .long x5] kd mr mi ml K := by
  show wp l M_X3_obey (d + 1) 0 0 0 [some (.ref h), some (.ref o1), some (.int x2), some (.int x3), some (.int x4), some (.long x5), none, none] [] 0 0 kd mi ml mr _
  refine wp_iload_n (pc := 0) dX3_obey_0 rfl ?_
  by_cases c1 : (x3).toInt < 0 ∨ 2 < (x3).toInt
  · have F := F.1 c1
    refine wp_tableOut (tgt := 85) (pc := 1) dX3_obey_1 c1 (by decide) ?_
    refine wp_aload_n (pc := 85) dX3_obey_85 rfl ?_
    refine wp_getR (pc := 86) dX3_obey_86 fl_X3_22 rfl (TX3s_k th) (TX3s_r2 th) ?_
    refine wp_iload_n (pc := 89) dX3_obey_89 rfl ?_
    refine wp_iald (pc := 90) dX3_obey_90 (TX3s_a2 th) F.1 ?_
    have F := F.2
    refine wp_iload (pc := 91) dX3_obey_91 rfl ?_
    refine wp_lload (pc := 93) dX3_obey_93 rfl ?_
    refine csI [.int (mi (h + 4) (Int32.toNatClampNeg x2)), .int x4, .long x5] [] (pc := 95) dX3_obey_95 ml_X3_116 st_X11_nextSpot rfl rfl (Nat.le_of_ble_eq_true rfl) (Nat.le_of_ble_eq_true rfl) (wI.mono (fun r2 mi3 ml4 F => ?_) F)
    refine wp_istore (pc := 98) dX3_obey_98 (Nat.le_of_ble_eq_true rfl) rfl ?_
    show wp l M_X3_obey (d + 1) 0 0 _ [some (.ref h), some (.ref o1), some (.int x2), some (.int x3), some (.int x4), some (.long x5), none, some (.int r2)] _ 0 0 kd _ _ mr _
    refine wp_aload_n (pc := 100) dX3_obey_100 rfl ?_
    refine wp_iload_n (pc := 101) dX3_obey_101 rfl ?_
    refine cvB [.int x2] [] (pc := 102) dX3_obey_102 ml_X3_98 iv_X3_isFree (TX3s_k th) (cl_X3 rfl) rfl rfl (Nat.le_of_ble_eq_true rfl) (Nat.le_of_ble_eq_true rfl) (wB.mono (fun r5 mi6 ml7 F => ?_) F)
    refine b_eq (tgt := 122) (pc := 105) dX3_obey_105 (by decide) (fun c8 => ?_) (fun c8 => ?_)
    · have F := F.1 c8
      exact r_V (pc := 122) dX3_obey_122 rfl F
    · have F := F.2 c8
      refine wp_iload (pc := 108) dX3_obey_108 rfl ?_
      refine wp_iconst (v := -1) (pc := 110) dX3_obey_110 (by decide) ?_
      refine wp_icmp_eq (tgt := 122) (pc := 111) dX3_obey_111 (by decide) (fun c9 => ?_) (fun c9 => ?_)
      · have F := F.1 c9
        exact r_V (pc := 122) dX3_obey_122 rfl F
      · have F := F.2 c9
        refine wp_aload_n (pc := 114) dX3_obey_114 rfl ?_
        refine wp_getR (pc := 115) dX3_obey_115 fl_X3_22 rfl (TX3s_k th) (TX3s_r2 th) ?_
        refine wp_iload_n (pc := 118) dX3_obey_118 rfl ?_
        refine wp_iload (pc := 119) dX3_obey_119 rfl ?_
        refine wp_iast (pc := 121) dX3_obey_121 (TX3s_a2 th) F.1 ?_
        have F := F.2
        exact r_V (pc := 122) dX3_obey_122 rfl F
  have c1 : (x3).toInt = 0 ∨ (x3).toInt = 1 ∨ (x3).toInt = 2 := by omega
  have F := F.2
  rcases c1 with c1 | c1 | c1
  · have F := F.1 c1
    refine wp_tableIn (tgt := 28) (pc := 1) dX3_obey_1 c1 (by decide) (by decide) rfl (by decide) ?_
    refine wp_aload_n (pc := 28) dX3_obey_28 rfl ?_
    refine wp_dup (pc := 29) dX3_obey_29 rfl ?_
    refine wp_getI (pc := 30) dX3_obey_30 fl_X3_47 rfl (TX3s_k th) ?_
    refine wp_iconst (v := 1) (pc := 33) dX3_obey_33 (by decide) ?_
    refine wp_iload_n (pc := 34) dX3_obey_34 rfl ?_
    refine wp_ishl (pc := 35) dX3_obey_35 ?_
    refine wp_ior (pc := 36) dX3_obey_36 ?_
    refine wp_putI (pc := 37) dX3_obey_37 fl_X3_47 rfl rfl (TX3s_k th) ?_
    refine wp_goto (tgt := 122) (pc := 40) dX3_obey_40 (by decide) ?_
    exact r_V (pc := 122) dX3_obey_122 rfl F
  · have F := F.2.1 c1
    refine wp_tableIn (tgt := 43) (pc := 1) dX3_obey_1 c1 (by decide) (by decide) rfl (by decide) ?_
    refine wp_aload_n (pc := 43) dX3_obey_43 rfl ?_
    refine wp_dup (pc := 44) dX3_obey_44 rfl ?_
    refine wp_getI (pc := 45) dX3_obey_45 fl_X3_47 rfl (TX3s_k th) ?_
    refine wp_iconst (v := 1) (pc := 48) dX3_obey_48 (by decide) ?_
    refine wp_iload_n (pc := 49) dX3_obey_49 rfl ?_
    refine wp_ishl (pc := 50) dX3_obey_50 ?_
    refine wp_iconst (v := -1) (pc := 51) dX3_obey_51 (by decide) ?_
    refine wp_ixor (pc := 52) dX3_obey_52 ?_
    refine wp_iand (pc := 53) dX3_obey_53 ?_
    refine wp_putI (pc := 54) dX3_obey_54 fl_X3_47 rfl rfl (TX3s_k th) ?_
    refine wp_goto (tgt := 122) (pc := 57) dX3_obey_57 (by decide) ?_
    exact r_V (pc := 122) dX3_obey_122 rfl F
  · have F := F.2.2 c1
    refine wp_tableIn (tgt := 60) (pc := 1) dX3_obey_1 c1 (by decide) (by decide) rfl (by decide) ?_
    refine wp_aload_n (pc := 60) dX3_obey_60 rfl ?_
    refine wp_getR (pc := 61) dX3_obey_61 fl_X3_127 rfl (TX0s_k to1) (TX0s_r8 to1) ?_
    refine wp_iload_n (pc := 64) dX3_obey_64 rfl ?_
    refine wp_iald (pc := 65) dX3_obey_65 (TX0s_a8 to1) F.1 ?_
    have F := F.2
    refine wp_iconst (v := 1) (pc := 66) dX3_obey_66 (by decide) ?_
    refine wp_icmp_ne (tgt := 122) (pc := 67) dX3_obey_67 (by decide) (fun c10 => ?_) (fun c10 => ?_)
    · have F := F.1 c10
      exact r_V (pc := 122) dX3_obey_122 rfl F
    · have F := F.2 c10
      refine wp_aload_n (pc := 70) dX3_obey_70 rfl ?_
      refine wp_dup (pc := 71) dX3_obey_71 rfl ?_
      refine wp_getI (pc := 72) dX3_obey_72 fl_X3_51 rfl (TX3s_k th) ?_
      refine wp_iconst (v := 1) (pc := 75) dX3_obey_75 (by decide) ?_
      refine wp_iload_n (pc := 76) dX3_obey_76 rfl ?_
      refine wp_ishl (pc := 77) dX3_obey_77 ?_
      refine wp_ior (pc := 78) dX3_obey_78 ?_
      refine wp_putI (pc := 79) dX3_obey_79 fl_X3_51 rfl rfl (TX3s_k th) ?_
      refine wp_goto (tgt := 122) (pc := 82) dX3_obey_82 (by decide) ?_
      exact r_V (pc := 122) dX3_obey_122 rfl F
/-- tell(LCityChords$City;I)I -/
theorem w_X3_tell {l : Launch} {d : Nat} {kd : pm_K} {mr : pm_R} {h : Nat} {o1 : Nat} {x2 : Int32} {mi : pm_I} {ml : pm_L} {K : Int32 → pm_I → pm_L → Prop} (th : TX3s kd mr h) (to1 : TX0s kd mr o1)
    (F : (((x2).toInt < 0 ∨ 2 < (x2).toInt → ((10 ≤ x2 → ((¬ (x2 / 10) = 4 → wB l M_X0_hasPerson d [.ref o1, .int (x2 - x2 / 10 * 10)] kd mr mi ml (fun r4 mi5 ml6 => ((r4 = true → ((((x2 / 10)).toInt < 1 ∨ 3 < ((x2 / 10)).toInt → K (-2) mi5 ml6) ∧ (((x2 / 10)).toInt = 1 → vp_in (x2 - x2 / 10 * 10) 6 ∧ wI l M_X0_cellOf d [.ref o1, .int (mi5 (h + 4) (Int32.toNatClampNeg (x2 - x2 / 10 * 10)))] kd mr mi5 ml6 (fun r9 mi10 ml11 => K r9 mi10 ml11)) ∧ (((x2 / 10)).toInt = 2 → vp_in (x2 - x2 / 10 * 10) 6 ∧ K (mi5 (h + 5) (Int32.toNatClampNeg (x2 - x2 / 10 * 10))) mi5 ml6) ∧ (((x2 / 10)).toInt = 3 → vp_in (x2 - x2 / 10 * 10) 6 ∧ K (mi5 (h + 6) (Int32.toNatClampNeg (x2 - x2 / 10 * 10))) mi5 ml6))) ∧ (r4 = false → K (-2) mi5 ml6)))) ∧ ((x2 / 10) = 4 → wB l M_X0_hasPlayer d [.ref o1, .int (x2 - x2 / 10 * 10)] kd mr mi ml (fun r12 mi13 ml14 => ((r12 = false → K (-2) mi13 ml14) ∧ (r12 = true → vp_in (x2 - x2 / 10 * 10) 6 ∧ wI l M_X0_cellOf d [.ref o1, .int (mi13 (h + 3) (Int32.toNatClampNeg (x2 - x2 / 10 * 10)))] kd mr mi13 ml14 (fun r16 mi17 ml18 => K r16 mi17 ml18))))))) ∧ (¬ 10 ≤ x2 → K (-2) mi ml))) ∧ ((x2).toInt = 0 → K (mi h 5) mi ml) ∧ ((x2).toInt = 1 → K (mi h 6) mi ml) ∧ ((x2).toInt = 2 → K (mi h 7) mi ml))) :
    wI l M_X3_tell (d + 1) [.ref h, .ref o1, .int x2] kd mr mi ml K := by
  show wp l M_X3_tell (d + 1) 0 0 0 [some (.ref h), some (.ref o1), some (.int x2), none, none] [] 0 0 kd mi ml mr _
  refine wp_iload_n (pc := 0) dX3_tell_0 rfl ?_
  by_cases c1 : (x2).toInt < 0 ∨ 2 < (x2).toInt
  · have F := F.1 c1
    refine wp_tableOut (tgt := 43) (pc := 1) dX3_tell_1 c1 (by decide) ?_
    refine wp_iload_n (pc := 43) dX3_tell_43 rfl ?_
    refine wp_bipush (v := 10) (pc := 44) dX3_tell_44 (by decide) ?_
    refine wp_icmp_ge (tgt := 52) (pc := 46) dX3_tell_46 (by decide) (fun c2 => ?_) (fun c2 => ?_)
    · have F := F.1 c2
      refine wp_iload_n (pc := 52) dX3_tell_52 rfl ?_
      refine wp_bipush (v := 10) (pc := 53) dX3_tell_53 (by decide) ?_
      refine wp_idiv (pc := 55) dX3_tell_55 (by decide) ?_
      refine wp_istore_n (pc := 56) dX3_tell_56 (Nat.le_of_ble_eq_true rfl) rfl ?_
      show wp l M_X3_tell (d + 1) 0 0 _ [some (.ref h), some (.ref o1), some (.int x2), some (.int (x2 / 10)), none] _ 0 0 kd _ _ mr _
      refine wp_iload_n (pc := 57) dX3_tell_57 rfl ?_
      refine wp_bipush (v := 10) (pc := 58) dX3_tell_58 (by decide) ?_
      refine wp_irem (pc := 60) dX3_tell_60 (by decide) ?_
      refine wp_istore (pc := 61) dX3_tell_61 (Nat.le_of_ble_eq_true rfl) rfl ?_
      show wp l M_X3_tell (d + 1) 0 0 _ [some (.ref h), some (.ref o1), some (.int x2), some (.int (x2 / 10)), some (.int (x2 - x2 / 10 * 10))] _ 0 0 kd _ _ mr _
      refine wp_iload_n (pc := 63) dX3_tell_63 rfl ?_
      refine wp_iconst (v := 4) (pc := 64) dX3_tell_64 (by decide) ?_
      refine wp_icmp_ne (tgt := 94) (pc := 65) dX3_tell_65 (by decide) (fun c3 => ?_) (fun c3 => ?_)
      · have F := F.1 c3
        refine wp_aload_n (pc := 94) dX3_tell_94 rfl ?_
        refine wp_iload (pc := 95) dX3_tell_95 rfl ?_
        refine cvB [.int (x2 - x2 / 10 * 10)] [] (pc := 97) dX3_tell_97 ml_X3_94 iv_X0_hasPerson (TX0s_k to1) (cl_X0 rfl) rfl rfl (Nat.le_of_ble_eq_true rfl) (Nat.le_of_ble_eq_true rfl) (wB.mono (fun r4 mi5 ml6 F => ?_) F)
        refine b_ne (tgt := 106) (pc := 100) dX3_tell_100 (by decide) (fun c7 => ?_) (fun c7 => ?_)
        · have F := F.1 c7
          refine wp_iload_n (pc := 106) dX3_tell_106 rfl ?_
          by_cases c8 : ((x2 / 10)).toInt < 1 ∨ 3 < ((x2 / 10)).toInt
          · have F := F.1 c8
            refine wp_tableOut (tgt := 160) (pc := 107) dX3_tell_107 c8 (by decide) ?_
            refine wp_bipush (v := -2) (pc := 160) dX3_tell_160 (by decide) ?_
            exact r_I (pc := 162) dX3_tell_162 rfl F
          have c8 : ((x2 / 10)).toInt = 1 ∨ ((x2 / 10)).toInt = 2 ∨ ((x2 / 10)).toInt = 3 := by omega
          have F := F.2
          rcases c8 with c8 | c8 | c8
          · have F := F.1 c8
            refine wp_tableIn (tgt := 132) (pc := 107) dX3_tell_107 c8 (by decide) (by decide) rfl (by decide) ?_
            refine wp_aload_n (pc := 132) dX3_tell_132 rfl ?_
            refine wp_aload_n (pc := 133) dX3_tell_133 rfl ?_
            refine wp_getR (pc := 134) dX3_tell_134 fl_X3_22 rfl (TX3s_k th) (TX3s_r2 th) ?_
            refine wp_iload (pc := 137) dX3_tell_137 rfl ?_
            refine wp_iald (pc := 139) dX3_tell_139 (TX3s_a2 th) F.1 ?_
            have F := F.2
            refine cvI [.int (mi5 (h + 4) (Int32.toNatClampNeg (x2 - x2 / 10 * 10)))] [] (pc := 140) dX3_tell_140 ml_X3_136 iv_X0_cellOf (TX0s_k to1) (cl_X0 rfl) rfl rfl (Nat.le_of_ble_eq_true rfl) (Nat.le_of_ble_eq_true rfl) (wI.mono (fun r9 mi10 ml11 F => ?_) F)
            exact r_I (pc := 143) dX3_tell_143 rfl F
          · have F := F.2.1 c8
            refine wp_tableIn (tgt := 144) (pc := 107) dX3_tell_107 c8 (by decide) (by decide) rfl (by decide) ?_
            refine wp_aload_n (pc := 144) dX3_tell_144 rfl ?_
            refine wp_getR (pc := 145) dX3_tell_145 fl_X3_25 rfl (TX3s_k th) (TX3s_r3 th) ?_
            refine wp_iload (pc := 148) dX3_tell_148 rfl ?_
            refine wp_iald (pc := 150) dX3_tell_150 (TX3s_a3 th) F.1 ?_
            have F := F.2
            exact r_I (pc := 151) dX3_tell_151 rfl F
          · have F := F.2.2 c8
            refine wp_tableIn (tgt := 152) (pc := 107) dX3_tell_107 c8 (by decide) (by decide) rfl (by decide) ?_
            refine wp_aload_n (pc := 152) dX3_tell_152 rfl ?_
            refine wp_getR (pc := 153) dX3_tell_153 fl_X3_28 rfl (TX3s_k th) (TX3s_r4 th) ?_
            refine wp_iload (pc := 156) dX3_tell_156 rfl ?_
            refine wp_iald (pc := 158) dX3_tell_158 (TX3s_a4 th) F.1 ?_
            have F := F.2
            exact r_I (pc := 159) dX3_tell_159 rfl F
        · have F := F.2 c7
          refine wp_bipush (v := -2) (pc := 103) dX3_tell_103 (by decide) ?_
          exact r_I (pc := 105) dX3_tell_105 rfl F
      · have F := F.2 c3
        refine wp_aload_n (pc := 68) dX3_tell_68 rfl ?_
        refine wp_iload (pc := 69) dX3_tell_69 rfl ?_
        refine cvB [.int (x2 - x2 / 10 * 10)] [] (pc := 71) dX3_tell_71 ml_X3_109 iv_X0_hasPlayer (TX0s_k to1) (cl_X0 rfl) rfl rfl (Nat.le_of_ble_eq_true rfl) (Nat.le_of_ble_eq_true rfl) (wB.mono (fun r12 mi13 ml14 F => ?_) F)
        refine b_eq (tgt := 91) (pc := 74) dX3_tell_74 (by decide) (fun c15 => ?_) (fun c15 => ?_)
        · have F := F.1 c15
          refine wp_bipush (v := -2) (pc := 91) dX3_tell_91 (by decide) ?_
          exact r_I (pc := 93) dX3_tell_93 rfl F
        · have F := F.2 c15
          refine wp_aload_n (pc := 77) dX3_tell_77 rfl ?_
          refine wp_aload_n (pc := 78) dX3_tell_78 rfl ?_
          refine wp_getR (pc := 79) dX3_tell_79 fl_X3_18 rfl (TX3s_k th) (TX3s_r1 th) ?_
          refine wp_iload (pc := 82) dX3_tell_82 rfl ?_
          refine wp_iald (pc := 84) dX3_tell_84 (TX3s_a1 th) F.1 ?_
          have F := F.2
          refine cvI [.int (mi13 (h + 3) (Int32.toNatClampNeg (x2 - x2 / 10 * 10)))] [] (pc := 85) dX3_tell_85 ml_X3_136 iv_X0_cellOf (TX0s_k to1) (cl_X0 rfl) rfl rfl (Nat.le_of_ble_eq_true rfl) (Nat.le_of_ble_eq_true rfl) (wI.mono (fun r16 mi17 ml18 F => ?_) F)
          refine wp_goto (tgt := 93) (pc := 88) dX3_tell_88 (by decide) ?_
          exact r_I (pc := 93) dX3_tell_93 rfl F
    · have F := F.2 c2
      refine wp_bipush (v := -2) (pc := 49) dX3_tell_49 (by decide) ?_
      exact r_I (pc := 51) dX3_tell_51 rfl F
  have c1 : (x2).toInt = 0 ∨ (x2).toInt = 1 ∨ (x2).toInt = 2 := by omega
  have F := F.2
  rcases c1 with c1 | c1 | c1
  · have F := F.1 c1
    refine wp_tableIn (tgt := 28) (pc := 1) dX3_tell_1 c1 (by decide) (by decide) rfl (by decide) ?_
    refine wp_aload_n (pc := 28) dX3_tell_28 rfl ?_
    refine wp_getI (pc := 29) dX3_tell_29 fl_X3_47 rfl (TX3s_k th) ?_
    exact r_I (pc := 32) dX3_tell_32 rfl F
  · have F := F.2.1 c1
    refine wp_tableIn (tgt := 33) (pc := 1) dX3_tell_1 c1 (by decide) (by decide) rfl (by decide) ?_
    refine wp_aload_n (pc := 33) dX3_tell_33 rfl ?_
    refine wp_getI (pc := 34) dX3_tell_34 fl_X3_51 rfl (TX3s_k th) ?_
    exact r_I (pc := 37) dX3_tell_37 rfl F
  · have F := F.2.2 c1
    refine wp_tableIn (tgt := 38) (pc := 1) dX3_tell_1 c1 (by decide) (by decide) rfl (by decide) ?_
    refine wp_aload_n (pc := 38) dX3_tell_38 rfl ?_
    refine wp_getI (pc := 39) dX3_tell_39 fl_X3_54 rfl (TX3s_k th) ?_
    exact r_I (pc := 42) dX3_tell_42 rfl F
def c_X7_cost_40 (l : Launch) (d : Nat) (kd : pm_K) (mr : pm_R) (h : Nat) (o1 : Nat) (x3 : Int32) (x4 : Int64) (x6 : Int32) (mi : pm_I) (ml : pm_L) (K : Int32 → pm_I → pm_L → Prop) : Prop := wp l M_X7_cost d 0 0 40 [some (.ref h), some (.ref o1), none, some (.int x3), some (.long x4), none, some (.int x6)] [] 0 0 kd mi ml mr (qI kd mr K)
def c_X7_cost_19 (l : Launch) (d : Nat) (kd : pm_K) (mr : pm_R) (h : Nat) (o1 : Nat) (x3 : Int32) (x4 : Int64) (x6 : Int32) (mi : pm_I) (ml : pm_L) (K : Int32 → pm_I → pm_L → Prop) : Prop := wp l M_X7_cost d 0 0 19 [some (.ref h), some (.ref o1), none, some (.int x3), some (.long x4), none, some (.int x6)] [] 0 0 kd mi ml mr (qI kd mr K)
theorem w_X7_cost_19 {l : Launch} {d : Nat} {kd : pm_K} {mr : pm_R} {h : Nat} {o1 : Nat} {x3 : Int32} {x4 : Int64} {x6 : Int32} {mi : pm_I} {ml : pm_L} {K : Int32 → pm_I → pm_L → Prop} (th : TX7s kd mr h) (to1 : TX0s kd mr o1)
    (F : ((56 < x6 → K (-1) mi ml) ∧ (¬ 56 < x6 → ((x6 ≤ 0 → c_X7_cost_40 l (d + 1) kd mr h o1 x3 x4 x6 mi ml K) ∧ (¬ x6 ≤ 0 → wV l M_X7_spread d [.ref h, .ref o1, .long x4, .int x6] kd mr mi ml (fun mi10 ml11 => c_X7_cost_40 l (d + 1) kd mr h o1 x3 x4 x6 mi10 ml11 K)))))) :
    c_X7_cost_19 l (d + 1) kd mr h o1 x3 x4 x6 mi ml K := by
  show wp l M_X7_cost (d + 1) 0 0 19 [some (.ref h), some (.ref o1), none, some (.int x3), some (.long x4), none, some (.int x6)] [] 0 0 kd mi ml mr _
  refine wp_iload (pc := 19) dX7_cost_19 rfl ?_
  refine wp_bipush (v := 56) (pc := 21) dX7_cost_21 (by decide) ?_
  refine wp_icmp_gt (tgt := 63) (pc := 23) dX7_cost_23 (by decide) (fun c7 => ?_) (fun c7 => ?_)
  · have F := F.1 c7
    refine wp_iconst (v := -1) (pc := 63) dX7_cost_63 (by decide) ?_
    exact r_I (pc := 64) dX7_cost_64 rfl F
  · have F := F.2 c7
    refine wp_iload (pc := 26) dX7_cost_26 rfl ?_
    refine wp_if_le (tgt := 40) (pc := 28) dX7_cost_28 (by decide) (fun c8 => ?_) (fun c8 => ?_)
    · have F := F.1 c8
      exact wp_less (L' := [some (.ref h), some (.ref o1), none, some (.int x3), some (.long x4), none, some (.int x6)]) ⟨rfl, ⟨rfl, ⟨rfl, ⟨rfl, ⟨rfl, trivial⟩⟩⟩⟩⟩ F
    · have F := F.2 c8
      refine wp_aload_n (pc := 31) dX7_cost_31 rfl ?_
      refine wp_aload_n (pc := 32) dX7_cost_32 rfl ?_
      refine wp_lload (pc := 33) dX7_cost_33 rfl ?_
      refine wp_iload (pc := 35) dX7_cost_35 rfl ?_
      refine cvV [.ref o1, .long x4, .int x6] [] (pc := 37) dX7_cost_37 ml_X7_25 iv_X7_spread (TX7s_k th) (cl_X7 rfl) rfl rfl (Nat.le_of_ble_eq_true rfl) (Nat.le_of_ble_eq_true rfl) (wV.mono (fun mi10 ml11 F => ?_) F)
      exact wp_less (L' := [some (.ref h), some (.ref o1), none, some (.int x3), some (.long x4), none, some (.int x6)]) ⟨rfl, ⟨rfl, ⟨rfl, ⟨rfl, ⟨rfl, trivial⟩⟩⟩⟩⟩ F
theorem w_X7_cost_40 {l : Launch} {d : Nat} {kd : pm_K} {mr : pm_R} {h : Nat} {o1 : Nat} {x3 : Int32} {x4 : Int64} {x6 : Int32} {mi : pm_I} {ml : pm_L} {K : Int32 → pm_I → pm_L → Prop} (th : TX7s kd mr h) (to1 : TX0s kd mr o1)
    (F : vp_in x6 57 ∧ wB l M_X11_has d [.long (ml (h + 1) (Int32.toNatClampNeg x6)), .int x3] kd mr mi ml (fun r12 mi13 ml14 => ((r12 = false → c_X7_cost_19 l (d + 1) kd mr h o1 x3 x4 (x6 + 1) mi13 ml14 K) ∧ (r12 = true → K x6 mi13 ml14)))) :
    c_X7_cost_40 l (d + 1) kd mr h o1 x3 x4 x6 mi ml K := by
  show wp l M_X7_cost (d + 1) 0 0 40 [some (.ref h), some (.ref o1), none, some (.int x3), some (.long x4), none, some (.int x6)] [] 0 0 kd mi ml mr _
  refine wp_aload_n (pc := 40) dX7_cost_40 rfl ?_
  refine wp_getR (pc := 41) dX7_cost_41 fl_X7_11 rfl (TX7s_k th) (TX7s_r0 th) ?_
  refine wp_iload (pc := 44) dX7_cost_44 rfl ?_
  refine wp_lald (pc := 46) dX7_cost_46 (TX7s_a0 th) F.1 ?_
  have F := F.2
  refine wp_iload_n (pc := 47) dX7_cost_47 rfl ?_
  refine csB [.long (ml (h + 1) (Int32.toNatClampNeg x6)), .int x3] [] (pc := 48) dX7_cost_48 ml_X7_35 st_X11_has rfl rfl (Nat.le_of_ble_eq_true rfl) (Nat.le_of_ble_eq_true rfl) (wB.mono (fun r12 mi13 ml14 F => ?_) F)
  refine b_eq (tgt := 57) (pc := 51) dX7_cost_51 (by decide) (fun c15 => ?_) (fun c15 => ?_)
  · have F := F.1 c15
    refine wp_iinc (v := (x6 + 1)) (pc := 57) dX7_cost_57 rfl rfl rfl ?_
    show wp l M_X7_cost (d + 1) 0 0 _ [some (.ref h), some (.ref o1), none, some (.int x3), some (.long x4), none, some (.int (x6 + 1))] _ 0 0 kd _ _ mr _
    refine wp_goto (tgt := 19) (pc := 60) dX7_cost_60 (by decide) ?_
    exact wp_less (L' := [some (.ref h), some (.ref o1), none, some (.int x3), some (.long x4), none, some (.int (x6 + 1))]) ⟨rfl, ⟨rfl, ⟨rfl, ⟨rfl, ⟨rfl, trivial⟩⟩⟩⟩⟩ F
  · have F := F.2 c15
    refine wp_iload (pc := 54) dX7_cost_54 rfl ?_
    exact r_I (pc := 56) dX7_cost_56 rfl F
/-- cost(LCityChords$City;II)I -/
theorem w_X7_cost {l : Launch} {d : Nat} {kd : pm_K} {mr : pm_R} {h : Nat} {o1 : Nat} {x2 : Int32} {x3 : Int32} {mi : pm_I} {ml : pm_L} {K : Int32 → pm_I → pm_L → Prop} (th : TX7s kd mr h) (to1 : TX0s kd mr o1)
    (F : wL l M_X0_open d [.ref o1] kd mr mi ml (fun r1 mi2 ml3 => wL l M_X11_only d [.int x2] kd mr mi2 ml3 (fun r4 mi5 ml6 => c_X7_cost_19 l (d + 1) kd mr h o1 x3 r1 0 mi5 (pm_up ml6 (h + 1) (Int32.toNatClampNeg 0) r4) K))) :
    wI l M_X7_cost (d + 1) [.ref h, .ref o1, .int x2, .int x3] kd mr mi ml K := by
  show wp l M_X7_cost (d + 1) 0 0 0 [some (.ref h), some (.ref o1), some (.int x2), some (.int x3), none, none, none] [] 0 0 kd mi ml mr _
  refine wp_aload_n (pc := 0) dX7_cost_0 rfl ?_
  refine cvL [] [] (pc := 1) dX7_cost_1 ml_X7_15 iv_X0_open (TX0s_k to1) (cl_X0 rfl) rfl rfl (Nat.le_of_ble_eq_true rfl) (Nat.le_of_ble_eq_true rfl) (wL.mono (fun r1 mi2 ml3 F => ?_) F)
  refine wp_lstore (pc := 4) dX7_cost_4 (Nat.le_of_ble_eq_true rfl) rfl ?_
  show wp l M_X7_cost (d + 1) 0 0 _ [some (.ref h), some (.ref o1), some (.int x2), some (.int x3), some (.long r1), none, none] _ 0 0 kd _ _ mr _
  refine wp_aload_n (pc := 6) dX7_cost_6 rfl ?_
  refine wp_getR (pc := 7) dX7_cost_7 fl_X7_11 rfl (TX7s_k th) (TX7s_r0 th) ?_
  refine wp_iconst (v := 0) (pc := 10) dX7_cost_10 (by decide) ?_
  refine wp_iload_n (pc := 11) dX7_cost_11 rfl ?_
  refine csL [.int x2] [.int 0, .ref (h + 1)] (pc := 12) dX7_cost_12 ml_X7_21 st_X11_only rfl rfl (Nat.le_of_ble_eq_true rfl) (Nat.le_of_ble_eq_true rfl) (wL.mono (fun r4 mi5 ml6 F => ?_) F)
  refine wp_last (pc := 15) dX7_cost_15 (TX7s_a0 th) (vp_dec (by decide)) ?_
  refine wp_iconst (v := 0) (pc := 16) dX7_cost_16 (by decide) ?_
  refine wp_istore (pc := 17) dX7_cost_17 (Nat.le_of_ble_eq_true rfl) rfl ?_
  show wp l M_X7_cost (d + 1) 0 0 _ [some (.ref h), some (.ref o1), some (.int x2), some (.int x3), some (.long r1), none, some (.int 0)] _ 0 0 kd _ _ mr _
  exact wp_less (L' := [some (.ref h), some (.ref o1), none, some (.int x3), some (.long r1), none, some (.int 0)]) ⟨rfl, ⟨rfl, ⟨rfl, ⟨rfl, ⟨rfl, trivial⟩⟩⟩⟩⟩ F
def c_X1_listen_76 (l : Launch) (d : Nat) (kd : pm_K) (mr : pm_R) (h : Nat) (o1 : Nat) (x2 : Int32) (x3 : Int32) (mi : pm_I) (ml : pm_L) (K : pm_I → pm_L → Prop) : Prop := wp l M_X1_listen d 0 0 76 [some (.ref h), some (.ref o1), some (.int x2), some (.int x3)] [] 0 0 kd mi ml mr (qV kd mr K)
def c_X1_listen_45 (l : Launch) (d : Nat) (kd : pm_K) (mr : pm_R) (h : Nat) (o1 : Nat) (x2 : Int32) (x3 : Int32) (mi : pm_I) (ml : pm_L) (K : pm_I → pm_L → Prop) : Prop := wp l M_X1_listen d 0 0 45 [some (.ref h), some (.ref o1), some (.int x2), some (.int x3)] [] 0 0 kd mi ml mr (qV kd mr K)
def c_X1_listen_10 (l : Launch) (d : Nat) (kd : pm_K) (mr : pm_R) (h : Nat) (o1 : Nat) (x2 : Int32) (mi : pm_I) (ml : pm_L) (K : pm_I → pm_L → Prop) : Prop := wp l M_X1_listen d 0 0 10 [some (.ref h), some (.ref o1), some (.int x2), none] [] 0 0 kd mi ml mr (qV kd mr K)
theorem w_X1_listen_10 {l : Launch} {d : Nat} {kd : pm_K} {mr : pm_R} {h : Nat} {o1 : Nat} {x2 : Int32} {mi : pm_I} {ml : pm_L} {K : pm_I → pm_L → Prop} (th : TX1s kd mr h) (to1 : TX0s kd mr o1)
    (F : (((mi o1 4) ≤ x2 → K mi ml) ∧ (¬ (mi o1 4) ≤ x2 → vp_in x2 6 ∧ wI l M_X0_rangeOf d [.ref o1, .int x2] kd mr mi ml (fun r5 mi6 ml7 => wL l M_X7_heard d [.ref (h + 1), .ref o1, .int (mi (o1 + 2) (Int32.toNatClampNeg x2)), .int r5] kd mr mi6 ml7 (fun r8 mi9 ml10 => vp_in x2 6 ∧ c_X1_listen_45 l (d + 1) kd mr h o1 x2 0 mi9 (pm_up ml10 (h + 3) (Int32.toNatClampNeg x2) r8) K))))) :
    c_X1_listen_10 l (d + 1) kd mr h o1 x2 mi ml K := by
  show wp l M_X1_listen (d + 1) 0 0 10 [some (.ref h), some (.ref o1), some (.int x2), none] [] 0 0 kd mi ml mr _
  refine wp_iload_n (pc := 10) dX1_listen_10 rfl ?_
  refine wp_aload_n (pc := 11) dX1_listen_11 rfl ?_
  refine wp_getI (pc := 12) dX1_listen_12 fl_X1_35 rfl (TX0s_k to1) ?_
  refine wp_icmp_ge (tgt := 88) (pc := 15) dX1_listen_15 (by decide) (fun c4 => ?_) (fun c4 => ?_)
  · have F := F.1 c4
    exact r_V (pc := 88) dX1_listen_88 rfl F
  · have F := F.2 c4
    refine wp_aload_n (pc := 18) dX1_listen_18 rfl ?_
    refine wp_getR (pc := 19) dX1_listen_19 fl_X1_18 rfl (TX1s_k th) (TX1s_r1 th) ?_
    refine wp_iload_n (pc := 22) dX1_listen_22 rfl ?_
    refine wp_aload_n (pc := 23) dX1_listen_23 rfl ?_
    refine wp_getR (pc := 24) dX1_listen_24 fl_X1_12 rfl (TX1s_k th) (TX1s_r0 th) ?_
    refine wp_aload_n (pc := 27) dX1_listen_27 rfl ?_
    refine wp_aload_n (pc := 28) dX1_listen_28 rfl ?_
    refine wp_getR (pc := 29) dX1_listen_29 fl_X1_41 rfl (TX0s_k to1) (TX0s_r7 to1) ?_
    refine wp_iload_n (pc := 32) dX1_listen_32 rfl ?_
    refine wp_iald (pc := 33) dX1_listen_33 (TX0s_a7 to1) F.1 ?_
    have F := F.2
    refine wp_aload_n (pc := 34) dX1_listen_34 rfl ?_
    refine wp_iload_n (pc := 35) dX1_listen_35 rfl ?_
    refine cvI [.int x2] [.int (mi (o1 + 2) (Int32.toNatClampNeg x2)), .ref o1, .ref (h + 1), .int x2, .ref (h + 3)] (pc := 36) dX1_listen_36 ml_X1_44 iv_X0_rangeOf (TX0s_k to1) (cl_X0 rfl) rfl rfl (Nat.le_of_ble_eq_true rfl) (Nat.le_of_ble_eq_true rfl) (wI.mono (fun r5 mi6 ml7 F => ?_) F)
    refine cvL [.ref o1, .int (mi (o1 + 2) (Int32.toNatClampNeg x2)), .int r5] [.int x2, .ref (h + 3)] (pc := 39) dX1_listen_39 ml_X1_48 iv_X7_heard (TX7s_k (TX1s_a0 th)) (cl_X7 rfl) rfl rfl (Nat.le_of_ble_eq_true rfl) (Nat.le_of_ble_eq_true rfl) (wL.mono (fun r8 mi9 ml10 F => ?_) F)
    refine wp_last (pc := 42) dX1_listen_42 (TX1s_a1 th) F.1 ?_
    have F := F.2
    refine wp_iconst (v := 0) (pc := 43) dX1_listen_43 (by decide) ?_
    refine wp_istore_n (pc := 44) dX1_listen_44 (Nat.le_of_ble_eq_true rfl) rfl ?_
    show wp l M_X1_listen (d + 1) 0 0 _ [some (.ref h), some (.ref o1), some (.int x2), some (.int 0)] _ 0 0 kd _ _ mr _
    exact wp_less (L' := [some (.ref h), some (.ref o1), some (.int x2), some (.int 0)]) ⟨rfl, ⟨rfl, ⟨rfl, ⟨rfl, trivial⟩⟩⟩⟩ F
theorem w_X1_listen_45 {l : Launch} {d : Nat} {kd : pm_K} {mr : pm_R} {h : Nat} {o1 : Nat} {x2 : Int32} {x3 : Int32} {mi : pm_I} {ml : pm_L} {K : pm_I → pm_L → Prop} (th : TX1s kd mr h) (to1 : TX0s kd mr o1)
    (F : ((64 ≤ x3 → c_X1_listen_10 l (d + 1) kd mr h o1 (x2 + 1) mi ml K) ∧ (¬ 64 ≤ x3 → vp_in x2 6 ∧ wB l M_X11_has d [.long (ml (h + 3) (Int32.toNatClampNeg x2)), .int x3] kd mr mi ml (fun r12 mi13 ml14 => ((r12 = false → c_X1_listen_76 l (d + 1) kd mr h o1 x2 x3 mi13 ml14 K) ∧ (r12 = true → vp_in x3 64 ∧ vp_in x3 64 ∧ c_X1_listen_76 l (d + 1) kd mr h o1 x2 x3 (pm_up mi13 (h + 4) (Int32.toNatClampNeg x3) ((mi13 (h + 4) (Int32.toNatClampNeg x3)) ||| ((1 : Int32) <<< (x2 &&& 31)))) ml14 K)))))) :
    c_X1_listen_45 l (d + 1) kd mr h o1 x2 x3 mi ml K := by
  show wp l M_X1_listen (d + 1) 0 0 45 [some (.ref h), some (.ref o1), some (.int x2), some (.int x3)] [] 0 0 kd mi ml mr _
  refine wp_iload_n (pc := 45) dX1_listen_45 rfl ?_
  refine wp_bipush (v := 64) (pc := 46) dX1_listen_46 (by decide) ?_
  refine wp_icmp_ge (tgt := 82) (pc := 48) dX1_listen_48 (by decide) (fun c11 => ?_) (fun c11 => ?_)
  · have F := F.1 c11
    refine wp_iinc (v := (x2 + 1)) (pc := 82) dX1_listen_82 rfl rfl rfl ?_
    show wp l M_X1_listen (d + 1) 0 0 _ [some (.ref h), some (.ref o1), some (.int (x2 + 1)), some (.int x3)] _ 0 0 kd _ _ mr _
    refine wp_goto (tgt := 10) (pc := 85) dX1_listen_85 (by decide) ?_
    exact wp_less (L' := [some (.ref h), some (.ref o1), some (.int (x2 + 1)), none]) ⟨rfl, ⟨rfl, ⟨rfl, trivial⟩⟩⟩ F
  · have F := F.2 c11
    refine wp_aload_n (pc := 51) dX1_listen_51 rfl ?_
    refine wp_getR (pc := 52) dX1_listen_52 fl_X1_18 rfl (TX1s_k th) (TX1s_r1 th) ?_
    refine wp_iload_n (pc := 55) dX1_listen_55 rfl ?_
    refine wp_lald (pc := 56) dX1_listen_56 (TX1s_a1 th) F.1 ?_
    have F := F.2
    refine wp_iload_n (pc := 57) dX1_listen_57 rfl ?_
    refine csB [.long (ml (h + 3) (Int32.toNatClampNeg x2)), .int x3] [] (pc := 58) dX1_listen_58 ml_X1_52 st_X11_has rfl rfl (Nat.le_of_ble_eq_true rfl) (Nat.le_of_ble_eq_true rfl) (wB.mono (fun r12 mi13 ml14 F => ?_) F)
    refine b_eq (tgt := 76) (pc := 61) dX1_listen_61 (by decide) (fun c15 => ?_) (fun c15 => ?_)
    · have F := F.1 c15
      exact wp_less (L' := [some (.ref h), some (.ref o1), some (.int x2), some (.int x3)]) ⟨rfl, ⟨rfl, ⟨rfl, ⟨rfl, trivial⟩⟩⟩⟩ F
    · have F := F.2 c15
      refine wp_aload_n (pc := 64) dX1_listen_64 rfl ?_
      refine wp_getR (pc := 65) dX1_listen_65 fl_X1_22 rfl (TX1s_k th) (TX1s_r2 th) ?_
      refine wp_iload_n (pc := 68) dX1_listen_68 rfl ?_
      refine wp_dup2 (pc := 69) dX1_listen_69 rfl rfl ?_
      refine wp_iald (pc := 70) dX1_listen_70 (TX1s_a2 th) F.1 ?_
      have F := F.2
      refine wp_iconst (v := 1) (pc := 71) dX1_listen_71 (by decide) ?_
      refine wp_iload_n (pc := 72) dX1_listen_72 rfl ?_
      refine wp_ishl (pc := 73) dX1_listen_73 ?_
      refine wp_ior (pc := 74) dX1_listen_74 ?_
      refine wp_iast (pc := 75) dX1_listen_75 (TX1s_a2 th) F.1 ?_
      have F := F.2
      exact wp_less (L' := [some (.ref h), some (.ref o1), some (.int x2), some (.int x3)]) ⟨rfl, ⟨rfl, ⟨rfl, ⟨rfl, trivial⟩⟩⟩⟩ F
theorem w_X1_listen_76 {l : Launch} {d : Nat} {kd : pm_K} {mr : pm_R} {h : Nat} {o1 : Nat} {x2 : Int32} {x3 : Int32} {mi : pm_I} {ml : pm_L} {K : pm_I → pm_L → Prop} (th : TX1s kd mr h) (to1 : TX0s kd mr o1)
    (F : c_X1_listen_45 l (d + 1) kd mr h o1 x2 (x3 + 1) mi ml K) :
    c_X1_listen_76 l (d + 1) kd mr h o1 x2 x3 mi ml K := by
  show wp l M_X1_listen (d + 1) 0 0 76 [some (.ref h), some (.ref o1), some (.int x2), some (.int x3)] [] 0 0 kd mi ml mr _
  refine wp_iinc (v := (x3 + 1)) (pc := 76) dX1_listen_76 rfl rfl rfl ?_
  show wp l M_X1_listen (d + 1) 0 0 _ [some (.ref h), some (.ref o1), some (.int x2), some (.int (x3 + 1))] _ 0 0 kd _ _ mr _
  refine wp_goto (tgt := 45) (pc := 79) dX1_listen_79 (by decide) ?_
  exact wp_less (L' := [some (.ref h), some (.ref o1), some (.int x2), some (.int (x3 + 1))]) ⟨rfl, ⟨rfl, ⟨rfl, ⟨rfl, trivial⟩⟩⟩⟩ F
/-- listen(LCityChords$City;)V -/
theorem w_X1_listen {l : Launch} {d : Nat} {kd : pm_K} {mr : pm_R} {h : Nat} {o1 : Nat}  {mi : pm_I} {ml : pm_L} {K : pm_I → pm_L → Prop} (th : TX1s kd mr h) (to1 : TX0s kd mr o1)
    (F : wV l M_J7_fill_53178 d [.ref (h + 4), .int 0] kd mr mi ml (fun mi2 ml3 => c_X1_listen_10 l (d + 1) kd mr h o1 0 mi2 ml3 K)) :
    wV l M_X1_listen (d + 1) [.ref h, .ref o1] kd mr mi ml K := by
  show wp l M_X1_listen (d + 1) 0 0 0 [some (.ref h), some (.ref o1), none, none] [] 0 0 kd mi ml mr _
  refine wp_aload_n (pc := 0) dX1_listen_0 rfl ?_
  refine wp_getR (pc := 1) dX1_listen_1 fl_X1_22 rfl (TX1s_k th) (TX1s_r2 th) ?_
  refine wp_iconst (v := 0) (pc := 4) dX1_listen_4 (by decide) ?_
  refine csV [.ref (h + 4), .int 0] [] (pc := 5) dX1_listen_5 ml_X1_29 st_J7_fill_53178 rfl rfl (Nat.le_of_ble_eq_true rfl) (Nat.le_of_ble_eq_true rfl) (wV.mono (fun mi2 ml3 F => ?_) F)
  refine wp_iconst (v := 0) (pc := 8) dX1_listen_8 (by decide) ?_
  refine wp_istore_n (pc := 9) dX1_listen_9 (Nat.le_of_ble_eq_true rfl) rfl ?_
  show wp l M_X1_listen (d + 1) 0 0 _ [some (.ref h), some (.ref o1), some (.int 0), none] _ 0 0 kd _ _ mr _
  exact wp_less (L' := [some (.ref h), some (.ref o1), some (.int 0), none]) ⟨rfl, ⟨rfl, ⟨rfl, trivial⟩⟩⟩ F
def c_X1_fewestPlayers_79 (l : Launch) (d : Nat) (kd : pm_K) (mr : pm_R) (h : Nat) (o1 : Nat) (x3 : Int64) (x5 : Int64) (x7 : Int32) (x8 : Int32) (mi : pm_I) (ml : pm_L) (K : Int32 → pm_I → pm_L → Prop) : Prop := wp l M_X1_fewestPlayers d 0 0 79 [some (.ref h), some (.ref o1), none, some (.long x3), none, some (.long x5), none, some (.int x7), some (.int x8), none] [] 0 0 kd mi ml mr (qI kd mr K)
def c_X1_fewestPlayers_30 (l : Launch) (d : Nat) (kd : pm_K) (mr : pm_R) (h : Nat) (o1 : Nat) (x3 : Int64) (x5 : Int64) (x7 : Int32) (x8 : Int32) (mi : pm_I) (ml : pm_L) (K : Int32 → pm_I → pm_L → Prop) : Prop := wp l M_X1_fewestPlayers d 0 0 30 [some (.ref h), some (.ref o1), none, some (.long x3), none, some (.long x5), none, some (.int x7), some (.int x8), none] [] 0 0 kd mi ml mr (qI kd mr K)
theorem w_X1_fewestPlayers_30 {l : Launch} {d : Nat} {kd : pm_K} {mr : pm_R} {h : Nat} {o1 : Nat} {x3 : Int64} {x5 : Int64} {x7 : Int32} {x8 : Int32} {mi : pm_I} {ml : pm_L} {K : Int32 → pm_I → pm_L → Prop} (th : TX1s kd mr h) (to1 : TX0s kd mr o1)
    (F : ((x8 < 0 → K x7 mi ml) ∧ (¬ x8 < 0 → wI l M_J6_bitCount_0f7a4 d [.int x8] kd mr mi ml (fun r8 mi9 ml10 => wI l M_J6_bitCount_0f7a4 d [.int x7] kd mr mi9 ml10 (fun r11 mi12 ml13 => (((!decide (r11 < r8)) = false → c_X1_fewestPlayers_79 l (d + 1) kd mr h o1 x3 x5 x7 x8 mi12 ml13 K) ∧ ((!decide (r11 < r8)) = true → wL l M_X1_heardOfSet d [.ref h, .ref o1, .int x8] kd mr mi12 ml13 (fun r18 mi19 ml20 => c_X1_fewestPlayers_79 l (d + 1) kd mr h o1 x3 x5 (if (lg_cmp (r18 &&& x3) x5) = 0 then x8 else x7) x8 mi19 ml20 K)))))))) :
    c_X1_fewestPlayers_30 l (d + 1) kd mr h o1 x3 x5 x7 x8 mi ml K := by
  show wp l M_X1_fewestPlayers (d + 1) 0 0 30 [some (.ref h), some (.ref o1), none, some (.long x3), none, some (.long x5), none, some (.int x7), some (.int x8), none] [] 0 0 kd mi ml mr _
  refine wp_iload (pc := 30) dX1_fewestPlayers_30 rfl ?_
  refine wp_if_lt (tgt := 85) (pc := 32) dX1_fewestPlayers_32 (by decide) (fun c7 => ?_) (fun c7 => ?_)
  · have F := F.1 c7
    refine wp_iload (pc := 85) dX1_fewestPlayers_85 rfl ?_
    exact r_I (pc := 87) dX1_fewestPlayers_87 rfl F
  · have F := F.2 c7
    refine wp_iload (pc := 35) dX1_fewestPlayers_35 rfl ?_
    refine csI [.int x8] [] (pc := 37) dX1_fewestPlayers_37 ml_X1_64 st_J6_bitCount_0f7a4 rfl rfl (Nat.le_of_ble_eq_true rfl) (Nat.le_of_ble_eq_true rfl) (wI.mono (fun r8 mi9 ml10 F => ?_) F)
    refine wp_iload (pc := 40) dX1_fewestPlayers_40 rfl ?_
    refine csI [.int x7] [.int r8] (pc := 42) dX1_fewestPlayers_42 ml_X1_64 st_J6_bitCount_0f7a4 rfl rfl (Nat.le_of_ble_eq_true rfl) (Nat.le_of_ble_eq_true rfl) (wI.mono (fun r11 mi12 ml13 F => ?_) F)
    suffices J14 : ∀ v15 : Int32, v15 = (b2i (!decide (r11 < r8))) → wp l M_X1_fewestPlayers (d + 1) 0 0 53 [some (.ref h), some (.ref o1), none, some (.long x3), none, some (.long x5), none, some (.int x7), some (.int x8), none] [.int v15] 0 0 kd mi12 ml13 mr _ by
        refine wp_icmp_gt (tgt := 52) (pc := 45) dX1_fewestPlayers_45 (by decide) (fun c16 => ?_) (fun c16 => ?_)
        · refine wp_iconst (v := 0) (pc := 52) dX1_fewestPlayers_52 (by decide) ?_
          exact J14 _ (by simp only [eq_true c16, if_true, if_false, decide_true, decide_false, Bool.not_true, Bool.not_false, Bool.true_and, Bool.false_and, Bool.true_or, Bool.false_or, b2i_t, b2i_f, ite_true, ite_false, not_true_eq_false, not_false_eq_true, reduceCtorEq, decide_eq_true_eq])
        · refine wp_iconst (v := 1) (pc := 48) dX1_fewestPlayers_48 (by decide) ?_
          refine wp_goto (tgt := 53) (pc := 49) dX1_fewestPlayers_49 (by decide) ?_
          exact J14 _ (by simp only [c16, if_true, if_false, decide_true, decide_false, Bool.not_true, Bool.not_false, Bool.true_and, Bool.false_and, Bool.true_or, Bool.false_or, b2i_t, b2i_f, ite_true, ite_false, not_true_eq_false, not_false_eq_true, reduceCtorEq, decide_eq_true_eq])
    intro v15 ev15
    subst ev15
    refine wp_istore (pc := 53) dX1_fewestPlayers_53 (Nat.le_of_ble_eq_true rfl) rfl ?_
    show wp l M_X1_fewestPlayers (d + 1) 0 0 _ [some (.ref h), some (.ref o1), none, some (.long x3), none, some (.long x5), none, some (.int x7), some (.int x8), some (.int (b2i (!decide (r11 < r8))))] _ 0 0 kd _ _ mr _
    refine wp_iload (pc := 55) dX1_fewestPlayers_55 rfl ?_
    refine b_eq (tgt := 79) (pc := 57) dX1_fewestPlayers_57 (by decide) (fun c17 => ?_) (fun c17 => ?_)
    · have F := F.1 c17
      exact wp_less (L' := [some (.ref h), some (.ref o1), none, some (.long x3), none, some (.long x5), none, some (.int x7), some (.int x8), none]) ⟨rfl, ⟨rfl, ⟨rfl, ⟨rfl, ⟨rfl, ⟨rfl, trivial⟩⟩⟩⟩⟩⟩ F
    · have F := F.2 c17
      refine wp_aload_n (pc := 60) dX1_fewestPlayers_60 rfl ?_
      refine wp_aload_n (pc := 61) dX1_fewestPlayers_61 rfl ?_
      refine wp_iload (pc := 62) dX1_fewestPlayers_62 rfl ?_
      refine cvL [.ref o1, .int x8] [] (pc := 64) dX1_fewestPlayers_64 ml_X1_60 iv_X1_heardOfSet (TX1s_k th) (cl_X1 rfl) rfl rfl (Nat.le_of_ble_eq_true rfl) (Nat.le_of_ble_eq_true rfl) (wL.mono (fun r18 mi19 ml20 F => ?_) F)
      refine wp_lload_n (pc := 67) dX1_fewestPlayers_67 rfl ?_
      refine wp_land (pc := 68) dX1_fewestPlayers_68 ?_
      refine wp_lload (pc := 69) dX1_fewestPlayers_69 rfl ?_
      refine wp_lcmp (pc := 71) dX1_fewestPlayers_71 ?_
      suffices J21 : ∀ v22 : Int32, v22 = (if (lg_cmp (r18 &&& x3) x5) = 0 then x8 else x7) → wp l M_X1_fewestPlayers (d + 1) 0 0 79 [some (.ref h), some (.ref o1), none, some (.long x3), none, some (.long x5), none, some (.int v22), some (.int x8), some (.int (b2i (!decide (r11 < r8))))] [] 0 0 kd mi19 ml20 mr _ by
          refine wp_if_ne (tgt := 79) (pc := 72) dX1_fewestPlayers_72 (by decide) (fun c23 => ?_) (fun c23 => ?_)
          · exact J21 _ (by simp only [c23, if_true, if_false, decide_true, decide_false, Bool.not_true, Bool.not_false, Bool.true_and, Bool.false_and, Bool.true_or, Bool.false_or, b2i_t, b2i_f, ite_true, ite_false, not_true_eq_false, not_false_eq_true, reduceCtorEq, decide_eq_true_eq])
          · refine wp_iload (pc := 75) dX1_fewestPlayers_75 rfl ?_
            refine wp_istore (pc := 77) dX1_fewestPlayers_77 (Nat.le_of_ble_eq_true rfl) rfl ?_
            exact J21 _ (by simp only [eq_true c23, if_true, if_false, decide_true, decide_false, Bool.not_true, Bool.not_false, Bool.true_and, Bool.false_and, Bool.true_or, Bool.false_or, b2i_t, b2i_f, ite_true, ite_false, not_true_eq_false, not_false_eq_true, reduceCtorEq, decide_eq_true_eq])
      intro v22 ev22
      subst ev22
      exact wp_less (L' := [some (.ref h), some (.ref o1), none, some (.long x3), none, some (.long x5), none, some (.int (if (lg_cmp (r18 &&& x3) x5) = 0 then x8 else x7)), some (.int x8), none]) ⟨rfl, ⟨rfl, ⟨rfl, ⟨rfl, ⟨rfl, ⟨rfl, trivial⟩⟩⟩⟩⟩⟩ F
theorem w_X1_fewestPlayers_79 {l : Launch} {d : Nat} {kd : pm_K} {mr : pm_R} {h : Nat} {o1 : Nat} {x3 : Int64} {x5 : Int64} {x7 : Int32} {x8 : Int32} {mi : pm_I} {ml : pm_L} {K : Int32 → pm_I → pm_L → Prop} (th : TX1s kd mr h) (to1 : TX0s kd mr o1)
    (F : c_X1_fewestPlayers_30 l (d + 1) kd mr h o1 x3 x5 x7 (x8 + (-1)) mi ml K) :
    c_X1_fewestPlayers_79 l (d + 1) kd mr h o1 x3 x5 x7 x8 mi ml K := by
  show wp l M_X1_fewestPlayers (d + 1) 0 0 79 [some (.ref h), some (.ref o1), none, some (.long x3), none, some (.long x5), none, some (.int x7), some (.int x8), none] [] 0 0 kd mi ml mr _
  refine wp_iinc (v := (x8 + (-1))) (pc := 79) dX1_fewestPlayers_79 rfl rfl rfl ?_
  show wp l M_X1_fewestPlayers (d + 1) 0 0 _ [some (.ref h), some (.ref o1), none, some (.long x3), none, some (.long x5), none, some (.int x7), some (.int (x8 + (-1))), none] _ 0 0 kd _ _ mr _
  refine wp_goto (tgt := 30) (pc := 82) dX1_fewestPlayers_82 (by decide) ?_
  exact wp_less (L' := [some (.ref h), some (.ref o1), none, some (.long x3), none, some (.long x5), none, some (.int x7), some (.int (x8 + (-1))), none]) ⟨rfl, ⟨rfl, ⟨rfl, ⟨rfl, ⟨rfl, ⟨rfl, trivial⟩⟩⟩⟩⟩⟩ F
/-- fewestPlayers(LCityChords$City;)I -/
theorem w_X1_fewestPlayers {l : Launch} {d : Nat} {kd : pm_K} {mr : pm_R} {h : Nat} {o1 : Nat}  {mi : pm_I} {ml : pm_L} {K : Int32 → pm_I → pm_L → Prop} (th : TX1s kd mr h) (to1 : TX0s kd mr o1)
    (F : wL l M_X0_open d [.ref o1] kd mr mi ml (fun r1 mi2 ml3 => wL l M_X1_heardOfSet d [.ref h, .ref o1, .int (((1 : Int32) <<< ((mi o1 4) &&& 31)) - 1)] kd mr mi2 ml3 (fun r4 mi5 ml6 => c_X1_fewestPlayers_30 l (d + 1) kd mr h o1 r1 (r4 &&& r1) (((1 : Int32) <<< ((mi o1 4) &&& 31)) - 1) (((1 : Int32) <<< ((mi o1 4) &&& 31)) - 1) mi5 ml6 K))) :
    wI l M_X1_fewestPlayers (d + 1) [.ref h, .ref o1] kd mr mi ml K := by
  show wp l M_X1_fewestPlayers (d + 1) 0 0 0 [some (.ref h), some (.ref o1), none, none, none, none, none, none, none, none] [] 0 0 kd mi ml mr _
  refine wp_iconst (v := 1) (pc := 0) dX1_fewestPlayers_0 (by decide) ?_
  refine wp_aload_n (pc := 1) dX1_fewestPlayers_1 rfl ?_
  refine wp_getI (pc := 2) dX1_fewestPlayers_2 fl_X1_35 rfl (TX0s_k to1) ?_
  refine wp_ishl (pc := 5) dX1_fewestPlayers_5 ?_
  refine wp_iconst (v := 1) (pc := 6) dX1_fewestPlayers_6 (by decide) ?_
  refine wp_isub (pc := 7) dX1_fewestPlayers_7 ?_
  refine wp_istore_n (pc := 8) dX1_fewestPlayers_8 (Nat.le_of_ble_eq_true rfl) rfl ?_
  show wp l M_X1_fewestPlayers (d + 1) 0 0 _ [some (.ref h), some (.ref o1), some (.int (((1 : Int32) <<< ((mi o1 4) &&& 31)) - 1)), none, none, none, none, none, none, none] _ 0 0 kd _ _ mr _
  refine wp_aload_n (pc := 9) dX1_fewestPlayers_9 rfl ?_
  refine cvL [] [] (pc := 10) dX1_fewestPlayers_10 ml_X1_56 iv_X0_open (TX0s_k to1) (cl_X0 rfl) rfl rfl (Nat.le_of_ble_eq_true rfl) (Nat.le_of_ble_eq_true rfl) (wL.mono (fun r1 mi2 ml3 F => ?_) F)
  refine wp_lstore_n (pc := 13) dX1_fewestPlayers_13 (Nat.le_of_ble_eq_true rfl) rfl ?_
  show wp l M_X1_fewestPlayers (d + 1) 0 0 _ [some (.ref h), some (.ref o1), some (.int (((1 : Int32) <<< ((mi o1 4) &&& 31)) - 1)), some (.long r1), none, none, none, none, none, none] _ 0 0 kd _ _ mr _
  refine wp_aload_n (pc := 14) dX1_fewestPlayers_14 rfl ?_
  refine wp_aload_n (pc := 15) dX1_fewestPlayers_15 rfl ?_
  refine wp_iload_n (pc := 16) dX1_fewestPlayers_16 rfl ?_
  refine cvL [.ref o1, .int (((1 : Int32) <<< ((mi o1 4) &&& 31)) - 1)] [] (pc := 17) dX1_fewestPlayers_17 ml_X1_60 iv_X1_heardOfSet (TX1s_k th) (cl_X1 rfl) rfl rfl (Nat.le_of_ble_eq_true rfl) (Nat.le_of_ble_eq_true rfl) (wL.mono (fun r4 mi5 ml6 F => ?_) F)
  refine wp_lload_n (pc := 20) dX1_fewestPlayers_20 rfl ?_
  refine wp_land (pc := 21) dX1_fewestPlayers_21 ?_
  refine wp_lstore (pc := 22) dX1_fewestPlayers_22 (Nat.le_of_ble_eq_true rfl) rfl ?_
  show wp l M_X1_fewestPlayers (d + 1) 0 0 _ [some (.ref h), some (.ref o1), some (.int (((1 : Int32) <<< ((mi o1 4) &&& 31)) - 1)), some (.long r1), none, some (.long (r4 &&& r1)), none, none, none, none] _ 0 0 kd _ _ mr _
  refine wp_iload_n (pc := 24) dX1_fewestPlayers_24 rfl ?_
  refine wp_istore (pc := 25) dX1_fewestPlayers_25 (Nat.le_of_ble_eq_true rfl) rfl ?_
  show wp l M_X1_fewestPlayers (d + 1) 0 0 _ [some (.ref h), some (.ref o1), some (.int (((1 : Int32) <<< ((mi o1 4) &&& 31)) - 1)), some (.long r1), none, some (.long (r4 &&& r1)), none, some (.int (((1 : Int32) <<< ((mi o1 4) &&& 31)) - 1)), none, none] _ 0 0 kd _ _ mr _
  refine wp_iload_n (pc := 27) dX1_fewestPlayers_27 rfl ?_
  refine wp_istore (pc := 28) dX1_fewestPlayers_28 (Nat.le_of_ble_eq_true rfl) rfl ?_
  show wp l M_X1_fewestPlayers (d + 1) 0 0 _ [some (.ref h), some (.ref o1), some (.int (((1 : Int32) <<< ((mi o1 4) &&& 31)) - 1)), some (.long r1), none, some (.long (r4 &&& r1)), none, some (.int (((1 : Int32) <<< ((mi o1 4) &&& 31)) - 1)), some (.int (((1 : Int32) <<< ((mi o1 4) &&& 31)) - 1)), none] _ 0 0 kd _ _ mr _
  exact wp_less (L' := [some (.ref h), some (.ref o1), none, some (.long r1), none, some (.long (r4 &&& r1)), none, some (.int (((1 : Int32) <<< ((mi o1 4) &&& 31)) - 1)), some (.int (((1 : Int32) <<< ((mi o1 4) &&& 31)) - 1)), none]) ⟨rfl, ⟨rfl, ⟨rfl, ⟨rfl, ⟨rfl, ⟨rfl, trivial⟩⟩⟩⟩⟩⟩ F
def c_X1_heardOfSet_33 (l : Launch) (d : Nat) (kd : pm_K) (mr : pm_R) (h : Nat) (o1 : Nat) (x2 : Int32) (x3 : Int64) (x5 : Int32) (mi : pm_I) (ml : pm_L) (K : Int64 → pm_I → pm_L → Prop) : Prop := wp l M_X1_heardOfSet d 0 0 33 [some (.ref h), some (.ref o1), some (.int x2), some (.long x3), none, some (.int x5)] [] 0 0 kd mi ml mr (qL kd mr K)
def c_X1_heardOfSet_5 (l : Launch) (d : Nat) (kd : pm_K) (mr : pm_R) (h : Nat) (o1 : Nat) (x2 : Int32) (x3 : Int64) (x5 : Int32) (mi : pm_I) (ml : pm_L) (K : Int64 → pm_I → pm_L → Prop) : Prop := wp l M_X1_heardOfSet d 0 0 5 [some (.ref h), some (.ref o1), some (.int x2), some (.long x3), none, some (.int x5)] [] 0 0 kd mi ml mr (qL kd mr K)
theorem w_X1_heardOfSet_5 {l : Launch} {d : Nat} {kd : pm_K} {mr : pm_R} {h : Nat} {o1 : Nat} {x2 : Int32} {x3 : Int64} {x5 : Int32} {mi : pm_I} {ml : pm_L} {K : Int64 → pm_I → pm_L → Prop} (th : TX1s kd mr h) (to1 : TX0s kd mr o1)
    (F : (((mi o1 4) ≤ x5 → K x3 mi ml) ∧ (¬ (mi o1 4) ≤ x5 → ((((x2 >>> (x5 &&& 31)) &&& 1) = 0 → c_X1_heardOfSet_33 l d kd mr h o1 x2 x3 x5 mi ml K) ∧ (¬ ((x2 >>> (x5 &&& 31)) &&& 1) = 0 → vp_in x5 6 ∧ c_X1_heardOfSet_33 l d kd mr h o1 x2 (x3 ||| (ml (h + 3) (Int32.toNatClampNeg x5))) x5 mi ml K))))) :
    c_X1_heardOfSet_5 l d kd mr h o1 x2 x3 x5 mi ml K := by
  show wp l M_X1_heardOfSet d 0 0 5 [some (.ref h), some (.ref o1), some (.int x2), some (.long x3), none, some (.int x5)] [] 0 0 kd mi ml mr _
  refine wp_iload (pc := 5) dX1_heardOfSet_5 rfl ?_
  refine wp_aload_n (pc := 7) dX1_heardOfSet_7 rfl ?_
  refine wp_getI (pc := 8) dX1_heardOfSet_8 fl_X1_35 rfl (TX0s_k to1) ?_
  refine wp_icmp_ge (tgt := 39) (pc := 11) dX1_heardOfSet_11 (by decide) (fun c1 => ?_) (fun c1 => ?_)
  · have F := F.1 c1
    refine wp_lload_n (pc := 39) dX1_heardOfSet_39 rfl ?_
    exact r_L (pc := 40) dX1_heardOfSet_40 rfl F
  · have F := F.2 c1
    refine wp_iload_n (pc := 14) dX1_heardOfSet_14 rfl ?_
    refine wp_iload (pc := 15) dX1_heardOfSet_15 rfl ?_
    refine wp_ishr (pc := 17) dX1_heardOfSet_17 ?_
    refine wp_iconst (v := 1) (pc := 18) dX1_heardOfSet_18 (by decide) ?_
    refine wp_iand (pc := 19) dX1_heardOfSet_19 ?_
    refine wp_if_eq (tgt := 33) (pc := 20) dX1_heardOfSet_20 (by decide) (fun c2 => ?_) (fun c2 => ?_)
    · have F := F.1 c2
      exact wp_less (L' := [some (.ref h), some (.ref o1), some (.int x2), some (.long x3), none, some (.int x5)]) ⟨rfl, ⟨rfl, ⟨rfl, ⟨rfl, ⟨rfl, trivial⟩⟩⟩⟩⟩ F
    · have F := F.2 c2
      refine wp_lload_n (pc := 23) dX1_heardOfSet_23 rfl ?_
      refine wp_aload_n (pc := 24) dX1_heardOfSet_24 rfl ?_
      refine wp_getR (pc := 25) dX1_heardOfSet_25 fl_X1_18 rfl (TX1s_k th) (TX1s_r1 th) ?_
      refine wp_iload (pc := 28) dX1_heardOfSet_28 rfl ?_
      refine wp_lald (pc := 30) dX1_heardOfSet_30 (TX1s_a1 th) F.1 ?_
      have F := F.2
      refine wp_lor (pc := 31) dX1_heardOfSet_31 ?_
      refine wp_lstore_n (pc := 32) dX1_heardOfSet_32 (Nat.le_of_ble_eq_true rfl) rfl ?_
      show wp l M_X1_heardOfSet d 0 0 _ [some (.ref h), some (.ref o1), some (.int x2), some (.long (x3 ||| (ml (h + 3) (Int32.toNatClampNeg x5)))), none, some (.int x5)] _ 0 0 kd _ _ mr _
      exact wp_less (L' := [some (.ref h), some (.ref o1), some (.int x2), some (.long (x3 ||| (ml (h + 3) (Int32.toNatClampNeg x5)))), none, some (.int x5)]) ⟨rfl, ⟨rfl, ⟨rfl, ⟨rfl, ⟨rfl, trivial⟩⟩⟩⟩⟩ F
theorem w_X1_heardOfSet_33 {l : Launch} {d : Nat} {kd : pm_K} {mr : pm_R} {h : Nat} {o1 : Nat} {x2 : Int32} {x3 : Int64} {x5 : Int32} {mi : pm_I} {ml : pm_L} {K : Int64 → pm_I → pm_L → Prop} (th : TX1s kd mr h) (to1 : TX0s kd mr o1)
    (F : c_X1_heardOfSet_5 l d kd mr h o1 x2 x3 (x5 + 1) mi ml K) :
    c_X1_heardOfSet_33 l d kd mr h o1 x2 x3 x5 mi ml K := by
  show wp l M_X1_heardOfSet d 0 0 33 [some (.ref h), some (.ref o1), some (.int x2), some (.long x3), none, some (.int x5)] [] 0 0 kd mi ml mr _
  refine wp_iinc (v := (x5 + 1)) (pc := 33) dX1_heardOfSet_33 rfl rfl rfl ?_
  show wp l M_X1_heardOfSet d 0 0 _ [some (.ref h), some (.ref o1), some (.int x2), some (.long x3), none, some (.int (x5 + 1))] _ 0 0 kd _ _ mr _
  refine wp_goto (tgt := 5) (pc := 36) dX1_heardOfSet_36 (by decide) ?_
  exact wp_less (L' := [some (.ref h), some (.ref o1), some (.int x2), some (.long x3), none, some (.int (x5 + 1))]) ⟨rfl, ⟨rfl, ⟨rfl, ⟨rfl, ⟨rfl, trivial⟩⟩⟩⟩⟩ F
/-- heardOfSet(LCityChords$City;I)J -/
theorem w_X1_heardOfSet {l : Launch} {d : Nat} {kd : pm_K} {mr : pm_R} {h : Nat} {o1 : Nat} {x2 : Int32} {mi : pm_I} {ml : pm_L} {K : Int64 → pm_I → pm_L → Prop} (th : TX1s kd mr h) (to1 : TX0s kd mr o1)
    (F : c_X1_heardOfSet_5 l d kd mr h o1 x2 0 0 mi ml K) :
    wL l M_X1_heardOfSet d [.ref h, .ref o1, .int x2] kd mr mi ml K := by
  show wp l M_X1_heardOfSet d 0 0 0 [some (.ref h), some (.ref o1), some (.int x2), none, none, none] [] 0 0 kd mi ml mr _
  refine wp_lconst (v := 0) (pc := 0) dX1_heardOfSet_0 (by decide) ?_
  refine wp_lstore_n (pc := 1) dX1_heardOfSet_1 (Nat.le_of_ble_eq_true rfl) rfl ?_
  show wp l M_X1_heardOfSet d 0 0 _ [some (.ref h), some (.ref o1), some (.int x2), some (.long 0), none, none] _ 0 0 kd _ _ mr _
  refine wp_iconst (v := 0) (pc := 2) dX1_heardOfSet_2 (by decide) ?_
  refine wp_istore (pc := 3) dX1_heardOfSet_3 (Nat.le_of_ble_eq_true rfl) rfl ?_
  show wp l M_X1_heardOfSet d 0 0 _ [some (.ref h), some (.ref o1), some (.int x2), some (.long 0), none, some (.int 0)] _ 0 0 kd _ _ mr _
  exact wp_less (L' := [some (.ref h), some (.ref o1), some (.int x2), some (.long 0), none, some (.int 0)]) ⟨rfl, ⟨rfl, ⟨rfl, ⟨rfl, ⟨rfl, trivial⟩⟩⟩⟩⟩ F
def c_X1_bestPlaces_123 (l : Launch) (d : Nat) (kd : pm_K) (mr : pm_R) (h : Nat) (o1 : Nat) (x3 : Int32) (x4 : Int32) (x5 : Int64) (x9 : Int32) (mi : pm_I) (ml : pm_L) (K : Int32 → pm_I → pm_L → Prop) : Prop := wp l M_X1_bestPlaces d 0 0 123 [some (.ref h), some (.ref o1), none, some (.int x3), some (.int x4), some (.long x5), none, none, none, some (.int x9)] [] 0 0 kd mi ml mr (qI kd mr K)
def c_X1_bestPlaces_97 (l : Launch) (d : Nat) (kd : pm_K) (mr : pm_R) (h : Nat) (o1 : Nat) (x3 : Int32) (x4 : Int32) (x5 : Int64) (x9 : Int32) (mi : pm_I) (ml : pm_L) (K : Int32 → pm_I → pm_L → Prop) : Prop := wp l M_X1_bestPlaces d 0 0 97 [some (.ref h), some (.ref o1), none, some (.int x3), some (.int x4), some (.long x5), none, none, none, some (.int x9)] [] 0 0 kd mi ml mr (qI kd mr K)
def c_X1_bestPlaces_72 (l : Launch) (d : Nat) (kd : pm_K) (mr : pm_R) (h : Nat) (o1 : Nat) (x2 : Int32) (x3 : Int32) (x4 : Int32) (x5 : Int64) (x7 : Int64) (x9 : Int32) (s0 : Int64) (s1 : Int32) (mi : pm_I) (ml : pm_L) (K : Int32 → pm_I → pm_L → Prop) : Prop := wp l M_X1_bestPlaces d 0 0 72 [some (.ref h), some (.ref o1), some (.int x2), some (.int x3), some (.int x4), some (.long x5), none, some (.long x7), none, some (.int x9)] [.long s0, .int s1, .ref (h + 5)] 0 0 kd mi ml mr (qI kd mr K)
def c_X1_bestPlaces_31 (l : Launch) (d : Nat) (kd : pm_K) (mr : pm_R) (h : Nat) (o1 : Nat) (x2 : Int32) (x3 : Int32) (x4 : Int32) (x5 : Int64) (x7 : Int64) (x9 : Int32) (mi : pm_I) (ml : pm_L) (K : Int32 → pm_I → pm_L → Prop) : Prop := wp l M_X1_bestPlaces d 0 0 31 [some (.ref h), some (.ref o1), some (.int x2), some (.int x3), some (.int x4), some (.long x5), none, some (.long x7), none, some (.int x9)] [] 0 0 kd mi ml mr (qI kd mr K)
theorem w_X1_bestPlaces_31 {l : Launch} {d : Nat} {kd : pm_K} {mr : pm_R} {h : Nat} {o1 : Nat} {x2 : Int32} {x3 : Int32} {x4 : Int32} {x5 : Int64} {x7 : Int64} {x9 : Int32} {mi : pm_I} {ml : pm_L} {K : Int32 → pm_I → pm_L → Prop} (th : TX1s kd mr h) (to1 : TX0s kd mr o1)
    (F : ((64 ≤ x9 → c_X1_bestPlaces_97 l (d + 1) kd mr h o1 x3 x4 x5 0 (pm_up (pm_up (pm_up mi h 4 (-1)) h 5 (-1)) h 6 (-1)) ml K) ∧ (¬ 64 ≤ x9 → wB l M_X11_has d [.long x5, .int x9] kd mr mi ml (fun r8 mi9 ml10 => ((r8 = false → c_X1_bestPlaces_72 l (d + 1) kd mr h o1 x2 x3 x4 x5 x7 x9 0 x9 mi9 ml10 K) ∧ (r8 = true → wL l M_X7_heard d [.ref (h + 1), .ref o1, .int x9, .int x2] kd mr mi9 ml10 (fun r12 mi13 ml14 => c_X1_bestPlaces_72 l (d + 1) kd mr h o1 x2 x3 x4 x5 x7 x9 (r12 &&& x7) x9 mi13 ml14 K))))))) :
    c_X1_bestPlaces_31 l (d + 1) kd mr h o1 x2 x3 x4 x5 x7 x9 mi ml K := by
  show wp l M_X1_bestPlaces (d + 1) 0 0 31 [some (.ref h), some (.ref o1), some (.int x2), some (.int x3), some (.int x4), some (.long x5), none, some (.long x7), none, some (.int x9)] [] 0 0 kd mi ml mr _
  refine wp_iload (pc := 31) dX1_bestPlaces_31 rfl ?_
  refine wp_bipush (v := 64) (pc := 33) dX1_bestPlaces_33 (by decide) ?_
  refine wp_icmp_ge (tgt := 79) (pc := 35) dX1_bestPlaces_35 (by decide) (fun c7 => ?_) (fun c7 => ?_)
  · have F := F.1 c7
    refine wp_aload_n (pc := 79) dX1_bestPlaces_79 rfl ?_
    refine wp_iconst (v := -1) (pc := 80) dX1_bestPlaces_80 (by decide) ?_
    refine wp_putI (pc := 81) dX1_bestPlaces_81 fl_X1_71 rfl rfl (TX1s_k th) ?_
    refine wp_aload_n (pc := 84) dX1_bestPlaces_84 rfl ?_
    refine wp_iconst (v := -1) (pc := 85) dX1_bestPlaces_85 (by decide) ?_
    refine wp_putI (pc := 86) dX1_bestPlaces_86 fl_X1_74 rfl rfl (TX1s_k th) ?_
    refine wp_aload_n (pc := 89) dX1_bestPlaces_89 rfl ?_
    refine wp_iconst (v := -1) (pc := 90) dX1_bestPlaces_90 (by decide) ?_
    refine wp_putI (pc := 91) dX1_bestPlaces_91 fl_X1_77 rfl rfl (TX1s_k th) ?_
    refine wp_iconst (v := 0) (pc := 94) dX1_bestPlaces_94 (by decide) ?_
    refine wp_istore (pc := 95) dX1_bestPlaces_95 (Nat.le_of_ble_eq_true rfl) rfl ?_
    show wp l M_X1_bestPlaces (d + 1) 0 0 _ [some (.ref h), some (.ref o1), some (.int x2), some (.int x3), some (.int x4), some (.long x5), none, some (.long x7), none, some (.int 0)] _ 0 0 kd _ _ mr _
    exact wp_less (L' := [some (.ref h), some (.ref o1), none, some (.int x3), some (.int x4), some (.long x5), none, none, none, some (.int 0)]) ⟨rfl, ⟨rfl, ⟨rfl, ⟨rfl, ⟨rfl, ⟨rfl, trivial⟩⟩⟩⟩⟩⟩ F
  · have F := F.2 c7
    refine wp_aload_n (pc := 38) dX1_bestPlaces_38 rfl ?_
    refine wp_getR (pc := 39) dX1_bestPlaces_39 fl_X1_26 rfl (TX1s_k th) (TX1s_r3 th) ?_
    refine wp_iload (pc := 42) dX1_bestPlaces_42 rfl ?_
    refine wp_lload (pc := 44) dX1_bestPlaces_44 rfl ?_
    refine wp_iload (pc := 46) dX1_bestPlaces_46 rfl ?_
    refine csB [.long x5, .int x9] [.int x9, .ref (h + 5)] (pc := 48) dX1_bestPlaces_48 ml_X1_52 st_X11_has rfl rfl (Nat.le_of_ble_eq_true rfl) (Nat.le_of_ble_eq_true rfl) (wB.mono (fun r8 mi9 ml10 F => ?_) F)
    refine b_eq (tgt := 71) (pc := 51) dX1_bestPlaces_51 (by decide) (fun c11 => ?_) (fun c11 => ?_)
    · have F := F.1 c11
      refine wp_lconst (v := 0) (pc := 71) dX1_bestPlaces_71 (by decide) ?_
      exact wp_less (L' := [some (.ref h), some (.ref o1), some (.int x2), some (.int x3), some (.int x4), some (.long x5), none, some (.long x7), none, some (.int x9)]) ⟨rfl, ⟨rfl, ⟨rfl, ⟨rfl, ⟨rfl, ⟨rfl, ⟨rfl, ⟨rfl, trivial⟩⟩⟩⟩⟩⟩⟩⟩ F
    · have F := F.2 c11
      refine wp_aload_n (pc := 54) dX1_bestPlaces_54 rfl ?_
      refine wp_getR (pc := 55) dX1_bestPlaces_55 fl_X1_12 rfl (TX1s_k th) (TX1s_r0 th) ?_
      refine wp_aload_n (pc := 58) dX1_bestPlaces_58 rfl ?_
      refine wp_iload (pc := 59) dX1_bestPlaces_59 rfl ?_
      refine wp_iload_n (pc := 61) dX1_bestPlaces_61 rfl ?_
      refine cvL [.ref o1, .int x9, .int x2] [.int x9, .ref (h + 5)] (pc := 62) dX1_bestPlaces_62 ml_X1_48 iv_X7_heard (TX7s_k (TX1s_a0 th)) (cl_X7 rfl) rfl rfl (Nat.le_of_ble_eq_true rfl) (Nat.le_of_ble_eq_true rfl) (wL.mono (fun r12 mi13 ml14 F => ?_) F)
      refine wp_lload (pc := 65) dX1_bestPlaces_65 rfl ?_
      refine wp_land (pc := 67) dX1_bestPlaces_67 ?_
      refine wp_goto (tgt := 72) (pc := 68) dX1_bestPlaces_68 (by decide) ?_
      exact wp_less (L' := [some (.ref h), some (.ref o1), some (.int x2), some (.int x3), some (.int x4), some (.long x5), none, some (.long x7), none, some (.int x9)]) ⟨rfl, ⟨rfl, ⟨rfl, ⟨rfl, ⟨rfl, ⟨rfl, ⟨rfl, ⟨rfl, trivial⟩⟩⟩⟩⟩⟩⟩⟩ F
theorem w_X1_bestPlaces_72 {l : Launch} {d : Nat} {kd : pm_K} {mr : pm_R} {h : Nat} {o1 : Nat} {x2 : Int32} {x3 : Int32} {x4 : Int32} {x5 : Int64} {x7 : Int64} {x9 : Int32} {s0 : Int64} {s1 : Int32} {mi : pm_I} {ml : pm_L} {K : Int32 → pm_I → pm_L → Prop} (th : TX1s kd mr h) (to1 : TX0s kd mr o1)
    (F : vp_in s1 64 ∧ c_X1_bestPlaces_31 l (d + 1) kd mr h o1 x2 x3 x4 x5 x7 (x9 + 1) mi (pm_up ml (h + 5) (Int32.toNatClampNeg s1) s0) K) :
    c_X1_bestPlaces_72 l (d + 1) kd mr h o1 x2 x3 x4 x5 x7 x9 s0 s1 mi ml K := by
  show wp l M_X1_bestPlaces (d + 1) 0 0 72 [some (.ref h), some (.ref o1), some (.int x2), some (.int x3), some (.int x4), some (.long x5), none, some (.long x7), none, some (.int x9)] [.long s0, .int s1, .ref (h + 5)] 0 0 kd mi ml mr _
  refine wp_last (pc := 72) dX1_bestPlaces_72 (TX1s_a3 th) F.1 ?_
  have F := F.2
  refine wp_iinc (v := (x9 + 1)) (pc := 73) dX1_bestPlaces_73 rfl rfl rfl ?_
  show wp l M_X1_bestPlaces (d + 1) 0 0 _ [some (.ref h), some (.ref o1), some (.int x2), some (.int x3), some (.int x4), some (.long x5), none, some (.long x7), none, some (.int (x9 + 1))] _ 0 0 kd _ _ mr _
  refine wp_goto (tgt := 31) (pc := 76) dX1_bestPlaces_76 (by decide) ?_
  exact wp_less (L' := [some (.ref h), some (.ref o1), some (.int x2), some (.int x3), some (.int x4), some (.long x5), none, some (.long x7), none, some (.int (x9 + 1))]) ⟨rfl, ⟨rfl, ⟨rfl, ⟨rfl, ⟨rfl, ⟨rfl, ⟨rfl, ⟨rfl, trivial⟩⟩⟩⟩⟩⟩⟩⟩ F
theorem w_X1_bestPlaces_97 {l : Launch} {d : Nat} {kd : pm_K} {mr : pm_R} {h : Nat} {o1 : Nat} {x3 : Int32} {x4 : Int32} {x5 : Int64} {x9 : Int32} {mi : pm_I} {ml : pm_L} {K : Int32 → pm_I → pm_L → Prop} (th : TX1s kd mr h) (to1 : TX0s kd mr o1)
    (F : ((64 ≤ x9 → (((x4).toInt = 0 → K (mi h 6) mi ml) ∧ (¬ (x4).toInt = 0 → (((x4).toInt = 1 → wI l M_X0_cellOf d [.ref o1, .int (mi h 4)] kd mr mi ml (fun r18 mi19 ml20 => K r18 mi19 ml20)) ∧ (¬ (x4).toInt = 1 → wI l M_X0_cellOf d [.ref o1, .int (mi h 5)] kd mr mi ml (fun r21 mi22 ml23 => K r21 mi22 ml23)))))) ∧ (¬ 64 ≤ x9 → wB l M_X11_has d [.long x5, .int x9] kd mr mi ml (fun r24 mi25 ml26 => ((r24 = false → c_X1_bestPlaces_123 l (d + 1) kd mr h o1 x3 x4 x5 x9 mi25 ml26 K) ∧ (r24 = true → wV l M_X1_tryPlaces d [.ref h, .long x5, .int x9, .int x3] kd mr mi25 ml26 (fun mi29 ml30 => c_X1_bestPlaces_123 l (d + 1) kd mr h o1 x3 x4 x5 x9 mi29 ml30 K))))))) :
    c_X1_bestPlaces_97 l (d + 1) kd mr h o1 x3 x4 x5 x9 mi ml K := by
  show wp l M_X1_bestPlaces (d + 1) 0 0 97 [some (.ref h), some (.ref o1), none, some (.int x3), some (.int x4), some (.long x5), none, none, none, some (.int x9)] [] 0 0 kd mi ml mr _
  refine wp_iload (pc := 97) dX1_bestPlaces_97 rfl ?_
  refine wp_bipush (v := 64) (pc := 99) dX1_bestPlaces_99 (by decide) ?_
  refine wp_icmp_ge (tgt := 129) (pc := 101) dX1_bestPlaces_101 (by decide) (fun c15 => ?_) (fun c15 => ?_)
  · have F := F.1 c15
    refine wp_iload (pc := 129) dX1_bestPlaces_129 rfl ?_
    by_cases c16 : (x4).toInt = 0
    · have F := F.1 c16
      refine wp_lookup (tgt := 156) (off := 25) (pc := 131) dX1_bestPlaces_131 (by decide) (by rw [c16]; decide) (by decide) ?_
      refine wp_aload_n (pc := 156) dX1_bestPlaces_156 rfl ?_
      refine wp_getI (pc := 157) dX1_bestPlaces_157 fl_X1_77 rfl (TX1s_k th) ?_
      exact r_I (pc := 160) dX1_bestPlaces_160 rfl F
    have F := F.2 c16
    by_cases c17 : (x4).toInt = 1
    · have F := F.1 c17
      refine wp_lookup (tgt := 161) (off := 30) (pc := 131) dX1_bestPlaces_131 (by decide) (by rw [c17]; decide) (by decide) ?_
      refine wp_aload_n (pc := 161) dX1_bestPlaces_161 rfl ?_
      refine wp_aload_n (pc := 162) dX1_bestPlaces_162 rfl ?_
      refine wp_getI (pc := 163) dX1_bestPlaces_163 fl_X1_71 rfl (TX1s_k th) ?_
      refine cvI [.int (mi h 4)] [] (pc := 166) dX1_bestPlaces_166 ml_X1_84 iv_X0_cellOf (TX0s_k to1) (cl_X0 rfl) rfl rfl (Nat.le_of_ble_eq_true rfl) (Nat.le_of_ble_eq_true rfl) (wI.mono (fun r18 mi19 ml20 F => ?_) F)
      exact r_I (pc := 169) dX1_bestPlaces_169 rfl F
    have F := F.2 c17
    refine wp_lookup (tgt := 170) (off := 39) (pc := 131) dX1_bestPlaces_131 (by decide) (by have nc16 : ¬ (0 : Int) = (x4).toInt := fun z => c16 z.symm; have nc17 : ¬ (1 : Int) = (x4).toInt := fun z => c17 z.symm; simp only [Op.lookupswitch.offset, nc16, nc17, if_false]) (by decide) ?_
    refine wp_aload_n (pc := 170) dX1_bestPlaces_170 rfl ?_
    refine wp_aload_n (pc := 171) dX1_bestPlaces_171 rfl ?_
    refine wp_getI (pc := 172) dX1_bestPlaces_172 fl_X1_74 rfl (TX1s_k th) ?_
    refine cvI [.int (mi h 5)] [] (pc := 175) dX1_bestPlaces_175 ml_X1_84 iv_X0_cellOf (TX0s_k to1) (cl_X0 rfl) rfl rfl (Nat.le_of_ble_eq_true rfl) (Nat.le_of_ble_eq_true rfl) (wI.mono (fun r21 mi22 ml23 F => ?_) F)
    exact r_I (pc := 178) dX1_bestPlaces_178 rfl F
  · have F := F.2 c15
    refine wp_lload (pc := 104) dX1_bestPlaces_104 rfl ?_
    refine wp_iload (pc := 106) dX1_bestPlaces_106 rfl ?_
    refine csB [.long x5, .int x9] [] (pc := 108) dX1_bestPlaces_108 ml_X1_52 st_X11_has rfl rfl (Nat.le_of_ble_eq_true rfl) (Nat.le_of_ble_eq_true rfl) (wB.mono (fun r24 mi25 ml26 F => ?_) F)
    refine b_eq (tgt := 123) (pc := 111) dX1_bestPlaces_111 (by decide) (fun c27 => ?_) (fun c27 => ?_)
    · have F := F.1 c27
      exact wp_less (L' := [some (.ref h), some (.ref o1), none, some (.int x3), some (.int x4), some (.long x5), none, none, none, some (.int x9)]) ⟨rfl, ⟨rfl, ⟨rfl, ⟨rfl, ⟨rfl, ⟨rfl, trivial⟩⟩⟩⟩⟩⟩ F
    · have F := F.2 c27
      refine wp_aload_n (pc := 114) dX1_bestPlaces_114 rfl ?_
      refine wp_lload (pc := 115) dX1_bestPlaces_115 rfl ?_
      refine wp_iload (pc := 117) dX1_bestPlaces_117 rfl ?_
      refine wp_iload_n (pc := 119) dX1_bestPlaces_119 rfl ?_
      refine cvV [.long x5, .int x9, .int x3] [] (pc := 120) dX1_bestPlaces_120 ml_X1_80 iv_X1_tryPlaces (TX1s_k th) (cl_X1 rfl) rfl rfl (Nat.le_of_ble_eq_true rfl) (Nat.le_of_ble_eq_true rfl) (wV.mono (fun mi29 ml30 F => ?_) F)
      exact wp_less (L' := [some (.ref h), some (.ref o1), none, some (.int x3), some (.int x4), some (.long x5), none, none, none, some (.int x9)]) ⟨rfl, ⟨rfl, ⟨rfl, ⟨rfl, ⟨rfl, ⟨rfl, trivial⟩⟩⟩⟩⟩⟩ F
theorem w_X1_bestPlaces_123 {l : Launch} {d : Nat} {kd : pm_K} {mr : pm_R} {h : Nat} {o1 : Nat} {x3 : Int32} {x4 : Int32} {x5 : Int64} {x9 : Int32} {mi : pm_I} {ml : pm_L} {K : Int32 → pm_I → pm_L → Prop} (th : TX1s kd mr h) (to1 : TX0s kd mr o1)
    (F : c_X1_bestPlaces_97 l (d + 1) kd mr h o1 x3 x4 x5 (x9 + 1) mi ml K) :
    c_X1_bestPlaces_123 l (d + 1) kd mr h o1 x3 x4 x5 x9 mi ml K := by
  show wp l M_X1_bestPlaces (d + 1) 0 0 123 [some (.ref h), some (.ref o1), none, some (.int x3), some (.int x4), some (.long x5), none, none, none, some (.int x9)] [] 0 0 kd mi ml mr _
  refine wp_iinc (v := (x9 + 1)) (pc := 123) dX1_bestPlaces_123 rfl rfl rfl ?_
  show wp l M_X1_bestPlaces (d + 1) 0 0 _ [some (.ref h), some (.ref o1), none, some (.int x3), some (.int x4), some (.long x5), none, none, none, some (.int (x9 + 1))] _ 0 0 kd _ _ mr _
  refine wp_goto (tgt := 97) (pc := 126) dX1_bestPlaces_126 (by decide) ?_
  exact wp_less (L' := [some (.ref h), some (.ref o1), none, some (.int x3), some (.int x4), some (.long x5), none, none, none, some (.int (x9 + 1))]) ⟨rfl, ⟨rfl, ⟨rfl, ⟨rfl, ⟨rfl, ⟨rfl, trivial⟩⟩⟩⟩⟩⟩ F
/-- bestPlaces(LCityChords$City;III)I -/
theorem w_X1_bestPlaces {l : Launch} {d : Nat} {kd : pm_K} {mr : pm_R} {h : Nat} {o1 : Nat} {x2 : Int32} {x3 : Int32} {x4 : Int32} {mi : pm_I} {ml : pm_L} {K : Int32 → pm_I → pm_L → Prop} (th : TX1s kd mr h) (to1 : TX0s kd mr o1)
    (F : wL l M_X0_open d [.ref o1] kd mr mi ml (fun r1 mi2 ml3 => wL l M_X1_heardOfSet d [.ref h, .ref o1, .int (((1 : Int32) <<< ((mi2 o1 4) &&& 31)) - 1)] kd mr mi2 ml3 (fun r4 mi5 ml6 => c_X1_bestPlaces_31 l (d + 1) kd mr h o1 x2 x3 x4 r1 (r1 &&& (r4 ^^^ (-1))) 0 mi5 ml6 K))) :
    wI l M_X1_bestPlaces (d + 1) [.ref h, .ref o1, .int x2, .int x3, .int x4] kd mr mi ml K := by
  show wp l M_X1_bestPlaces (d + 1) 0 0 0 [some (.ref h), some (.ref o1), some (.int x2), some (.int x3), some (.int x4), none, none, none, none, none] [] 0 0 kd mi ml mr _
  refine wp_aload_n (pc := 0) dX1_bestPlaces_0 rfl ?_
  refine cvL [] [] (pc := 1) dX1_bestPlaces_1 ml_X1_56 iv_X0_open (TX0s_k to1) (cl_X0 rfl) rfl rfl (Nat.le_of_ble_eq_true rfl) (Nat.le_of_ble_eq_true rfl) (wL.mono (fun r1 mi2 ml3 F => ?_) F)
  refine wp_lstore (pc := 4) dX1_bestPlaces_4 (Nat.le_of_ble_eq_true rfl) rfl ?_
  show wp l M_X1_bestPlaces (d + 1) 0 0 _ [some (.ref h), some (.ref o1), some (.int x2), some (.int x3), some (.int x4), some (.long r1), none, none, none, none] _ 0 0 kd _ _ mr _
  refine wp_lload (pc := 6) dX1_bestPlaces_6 rfl ?_
  refine wp_aload_n (pc := 8) dX1_bestPlaces_8 rfl ?_
  refine wp_aload_n (pc := 9) dX1_bestPlaces_9 rfl ?_
  refine wp_iconst (v := 1) (pc := 10) dX1_bestPlaces_10 (by decide) ?_
  refine wp_aload_n (pc := 11) dX1_bestPlaces_11 rfl ?_
  refine wp_getI (pc := 12) dX1_bestPlaces_12 fl_X1_35 rfl (TX0s_k to1) ?_
  refine wp_ishl (pc := 15) dX1_bestPlaces_15 ?_
  refine wp_iconst (v := 1) (pc := 16) dX1_bestPlaces_16 (by decide) ?_
  refine wp_isub (pc := 17) dX1_bestPlaces_17 ?_
  refine cvL [.ref o1, .int (((1 : Int32) <<< ((mi2 o1 4) &&& 31)) - 1)] [.long r1] (pc := 18) dX1_bestPlaces_18 ml_X1_60 iv_X1_heardOfSet (TX1s_k th) (cl_X1 rfl) rfl rfl (Nat.le_of_ble_eq_true rfl) (Nat.le_of_ble_eq_true rfl) (wL.mono (fun r4 mi5 ml6 F => ?_) F)
  refine wp_ldc2 (v := -1) (pc := 21) dX1_bestPlaces_21 (tb_4 143 rfl rfl) ?_
  refine wp_lxor (pc := 24) dX1_bestPlaces_24 ?_
  refine wp_land (pc := 25) dX1_bestPlaces_25 ?_
  refine wp_lstore (pc := 26) dX1_bestPlaces_26 (Nat.le_of_ble_eq_true rfl) rfl ?_
  show wp l M_X1_bestPlaces (d + 1) 0 0 _ [some (.ref h), some (.ref o1), some (.int x2), some (.int x3), some (.int x4), some (.long r1), none, some (.long (r1 &&& (r4 ^^^ (-1)))), none, none] _ 0 0 kd _ _ mr _
  refine wp_iconst (v := 0) (pc := 28) dX1_bestPlaces_28 (by decide) ?_
  refine wp_istore (pc := 29) dX1_bestPlaces_29 (Nat.le_of_ble_eq_true rfl) rfl ?_
  show wp l M_X1_bestPlaces (d + 1) 0 0 _ [some (.ref h), some (.ref o1), some (.int x2), some (.int x3), some (.int x4), some (.long r1), none, some (.long (r1 &&& (r4 ^^^ (-1)))), none, some (.int 0)] _ 0 0 kd _ _ mr _
  exact wp_less (L' := [some (.ref h), some (.ref o1), some (.int x2), some (.int x3), some (.int x4), some (.long r1), none, some (.long (r1 &&& (r4 ^^^ (-1)))), none, some (.int 0)]) ⟨rfl, ⟨rfl, ⟨rfl, ⟨rfl, ⟨rfl, ⟨rfl, ⟨rfl, ⟨rfl, trivial⟩⟩⟩⟩⟩⟩⟩⟩ F
def c_X1_tryPlaces_67 (l : Launch) (d : Nat) (kd : pm_K) (mr : pm_R) (h : Nat) (x1 : Int64) (x3 : Int32) (x5 : Int32) (mi : pm_I) (ml : pm_L) (K : pm_I → pm_L → Prop) : Prop := wp l M_X1_tryPlaces d 0 0 67 [some (.ref h), some (.long x1), none, some (.int x3), none, some (.int x5)] [] 0 0 kd mi ml mr (qV kd mr K)
def c_X1_tryPlaces_27 (l : Launch) (d : Nat) (kd : pm_K) (mr : pm_R) (h : Nat) (x1 : Int64) (x3 : Int32) (x5 : Int32) (mi : pm_I) (ml : pm_L) (K : pm_I → pm_L → Prop) : Prop := wp l M_X1_tryPlaces d 0 0 27 [some (.ref h), some (.long x1), none, some (.int x3), none, some (.int x5)] [] 0 0 kd mi ml mr (qV kd mr K)
theorem w_X1_tryPlaces_27 {l : Launch} {d : Nat} {kd : pm_K} {mr : pm_R} {h : Nat} {x1 : Int64} {x3 : Int32} {x5 : Int32} {mi : pm_I} {ml : pm_L} {K : pm_I → pm_L → Prop} (th : TX1s kd mr h)
    (F : ((64 ≤ x5 → K mi ml) ∧ (¬ 64 ≤ x5 → wB l M_X11_has d [.long x1, .int x5] kd mr mi ml (fun r9 mi10 ml11 => ((r9 = false → c_X1_tryPlaces_67 l (d + 1) kd mr h x1 x3 x5 mi10 ml11 K) ∧ (r9 = true → vp_in x3 64 ∧ vp_in x5 64 ∧ wI l M_J13_bitCount_95d88 d [.long ((ml11 (h + 5) (Int32.toNatClampNeg x3)) ||| (ml11 (h + 5) (Int32.toNatClampNeg x5)))] kd mr mi10 ml11 (fun r13 mi14 ml15 => wV l M_X1_keepIfMore d [.ref h, .int r13, .int x3, .int x5] kd mr mi14 ml15 (fun mi17 ml18 => c_X1_tryPlaces_67 l (d + 1) kd mr h x1 x3 x5 mi17 ml18 K)))))))) :
    c_X1_tryPlaces_27 l (d + 1) kd mr h x1 x3 x5 mi ml K := by
  show wp l M_X1_tryPlaces (d + 1) 0 0 27 [some (.ref h), some (.long x1), none, some (.int x3), none, some (.int x5)] [] 0 0 kd mi ml mr _
  refine wp_iload (pc := 27) dX1_tryPlaces_27 rfl ?_
  refine wp_bipush (v := 64) (pc := 29) dX1_tryPlaces_29 (by decide) ?_
  refine wp_icmp_ge (tgt := 73) (pc := 31) dX1_tryPlaces_31 (by decide) (fun c8 => ?_) (fun c8 => ?_)
  · have F := F.1 c8
    exact r_V (pc := 73) dX1_tryPlaces_73 rfl F
  · have F := F.2 c8
    refine wp_lload_n (pc := 34) dX1_tryPlaces_34 rfl ?_
    refine wp_iload (pc := 35) dX1_tryPlaces_35 rfl ?_
    refine csB [.long x1, .int x5] [] (pc := 37) dX1_tryPlaces_37 ml_X1_52 st_X11_has rfl rfl (Nat.le_of_ble_eq_true rfl) (Nat.le_of_ble_eq_true rfl) (wB.mono (fun r9 mi10 ml11 F => ?_) F)
    refine b_eq (tgt := 67) (pc := 40) dX1_tryPlaces_40 (by decide) (fun c12 => ?_) (fun c12 => ?_)
    · have F := F.1 c12
      exact wp_less (L' := [some (.ref h), some (.long x1), none, some (.int x3), none, some (.int x5)]) ⟨rfl, ⟨rfl, ⟨rfl, ⟨rfl, trivial⟩⟩⟩⟩ F
    · have F := F.2 c12
      refine wp_aload_n (pc := 43) dX1_tryPlaces_43 rfl ?_
      refine wp_aload_n (pc := 44) dX1_tryPlaces_44 rfl ?_
      refine wp_getR (pc := 45) dX1_tryPlaces_45 fl_X1_26 rfl (TX1s_k th) (TX1s_r3 th) ?_
      refine wp_iload_n (pc := 48) dX1_tryPlaces_48 rfl ?_
      refine wp_lald (pc := 49) dX1_tryPlaces_49 (TX1s_a3 th) F.1 ?_
      have F := F.2
      refine wp_aload_n (pc := 50) dX1_tryPlaces_50 rfl ?_
      refine wp_getR (pc := 51) dX1_tryPlaces_51 fl_X1_26 rfl (TX1s_k th) (TX1s_r3 th) ?_
      refine wp_iload (pc := 54) dX1_tryPlaces_54 rfl ?_
      refine wp_lald (pc := 56) dX1_tryPlaces_56 (TX1s_a3 th) F.1 ?_
      have F := F.2
      refine wp_lor (pc := 57) dX1_tryPlaces_57 ?_
      refine csI [.long ((ml11 (h + 5) (Int32.toNatClampNeg x3)) ||| (ml11 (h + 5) (Int32.toNatClampNeg x5)))] [.ref h] (pc := 58) dX1_tryPlaces_58 ml_X1_87 st_J13_bitCount_95d88 rfl rfl (Nat.le_of_ble_eq_true rfl) (Nat.le_of_ble_eq_true rfl) (wI.mono (fun r13 mi14 ml15 F => ?_) F)
      refine wp_iload_n (pc := 61) dX1_tryPlaces_61 rfl ?_
      refine wp_iload (pc := 62) dX1_tryPlaces_62 rfl ?_
      refine cvV [.int r13, .int x3, .int x5] [] (pc := 64) dX1_tryPlaces_64 ml_X1_92 iv_X1_keepIfMore (TX1s_k th) (cl_X1 rfl) rfl rfl (Nat.le_of_ble_eq_true rfl) (Nat.le_of_ble_eq_true rfl) (wV.mono (fun mi17 ml18 F => ?_) F)
      exact wp_less (L' := [some (.ref h), some (.long x1), none, some (.int x3), none, some (.int x5)]) ⟨rfl, ⟨rfl, ⟨rfl, ⟨rfl, trivial⟩⟩⟩⟩ F
theorem w_X1_tryPlaces_67 {l : Launch} {d : Nat} {kd : pm_K} {mr : pm_R} {h : Nat} {x1 : Int64} {x3 : Int32} {x5 : Int32} {mi : pm_I} {ml : pm_L} {K : pm_I → pm_L → Prop} (th : TX1s kd mr h)
    (F : c_X1_tryPlaces_27 l (d + 1) kd mr h x1 x3 (x5 + 1) mi ml K) :
    c_X1_tryPlaces_67 l (d + 1) kd mr h x1 x3 x5 mi ml K := by
  show wp l M_X1_tryPlaces (d + 1) 0 0 67 [some (.ref h), some (.long x1), none, some (.int x3), none, some (.int x5)] [] 0 0 kd mi ml mr _
  refine wp_iinc (v := (x5 + 1)) (pc := 67) dX1_tryPlaces_67 rfl rfl rfl ?_
  show wp l M_X1_tryPlaces (d + 1) 0 0 _ [some (.ref h), some (.long x1), none, some (.int x3), none, some (.int (x5 + 1))] _ 0 0 kd _ _ mr _
  refine wp_goto (tgt := 27) (pc := 70) dX1_tryPlaces_70 (by decide) ?_
  exact wp_less (L' := [some (.ref h), some (.long x1), none, some (.int x3), none, some (.int (x5 + 1))]) ⟨rfl, ⟨rfl, ⟨rfl, ⟨rfl, trivial⟩⟩⟩⟩ F
/-- tryPlaces(JII)V -/
theorem w_X1_tryPlaces {l : Launch} {d : Nat} {kd : pm_K} {mr : pm_R} {h : Nat} {x1 : Int64} {x3 : Int32} {x4 : Int32} {mi : pm_I} {ml : pm_L} {K : pm_I → pm_L → Prop} (th : TX1s kd mr h)
    (F : ((¬ x4 = 1 → c_X1_tryPlaces_27 l (d + 1) kd mr h x1 x3 (x3 + 1) mi ml K) ∧ (x4 = 1 → vp_in x3 64 ∧ wI l M_J13_bitCount_95d88 d [.long (ml (h + 5) (Int32.toNatClampNeg x3))] kd mr mi ml (fun r2 mi3 ml4 => wV l M_X1_keepIfMore d [.ref h, .int r2, .int x3, .int (-1)] kd mr mi3 ml4 (fun mi6 ml7 => K mi6 ml7))))) :
    wV l M_X1_tryPlaces (d + 1) [.ref h, .long x1, .int x3, .int x4] kd mr mi ml K := by
  show wp l M_X1_tryPlaces (d + 1) 0 0 0 [some (.ref h), some (.long x1), none, some (.int x3), some (.int x4), none] [] 0 0 kd mi ml mr _
  refine wp_iload (pc := 0) dX1_tryPlaces_0 rfl ?_
  refine wp_iconst (v := 1) (pc := 2) dX1_tryPlaces_2 (by decide) ?_
  refine wp_icmp_ne (tgt := 22) (pc := 3) dX1_tryPlaces_3 (by decide) (fun c1 => ?_) (fun c1 => ?_)
  · have F := F.1 c1
    refine wp_iload_n (pc := 22) dX1_tryPlaces_22 rfl ?_
    refine wp_iconst (v := 1) (pc := 23) dX1_tryPlaces_23 (by decide) ?_
    refine wp_iadd (pc := 24) dX1_tryPlaces_24 ?_
    refine wp_istore (pc := 25) dX1_tryPlaces_25 (Nat.le_of_ble_eq_true rfl) rfl ?_
    show wp l M_X1_tryPlaces (d + 1) 0 0 _ [some (.ref h), some (.long x1), none, some (.int x3), some (.int x4), some (.int (x3 + 1))] _ 0 0 kd _ _ mr _
    exact wp_less (L' := [some (.ref h), some (.long x1), none, some (.int x3), none, some (.int (x3 + 1))]) ⟨rfl, ⟨rfl, ⟨rfl, ⟨rfl, trivial⟩⟩⟩⟩ F
  · have F := F.2 c1
    refine wp_aload_n (pc := 6) dX1_tryPlaces_6 rfl ?_
    refine wp_aload_n (pc := 7) dX1_tryPlaces_7 rfl ?_
    refine wp_getR (pc := 8) dX1_tryPlaces_8 fl_X1_26 rfl (TX1s_k th) (TX1s_r3 th) ?_
    refine wp_iload_n (pc := 11) dX1_tryPlaces_11 rfl ?_
    refine wp_lald (pc := 12) dX1_tryPlaces_12 (TX1s_a3 th) F.1 ?_
    have F := F.2
    refine csI [.long (ml (h + 5) (Int32.toNatClampNeg x3))] [.ref h] (pc := 13) dX1_tryPlaces_13 ml_X1_87 st_J13_bitCount_95d88 rfl rfl (Nat.le_of_ble_eq_true rfl) (Nat.le_of_ble_eq_true rfl) (wI.mono (fun r2 mi3 ml4 F => ?_) F)
    refine wp_iload_n (pc := 16) dX1_tryPlaces_16 rfl ?_
    refine wp_iconst (v := -1) (pc := 17) dX1_tryPlaces_17 (by decide) ?_
    refine cvV [.int r2, .int x3, .int (-1)] [] (pc := 18) dX1_tryPlaces_18 ml_X1_92 iv_X1_keepIfMore (TX1s_k th) (cl_X1 rfl) rfl rfl (Nat.le_of_ble_eq_true rfl) (Nat.le_of_ble_eq_true rfl) (wV.mono (fun mi6 ml7 F => ?_) F)
    exact r_V (pc := 21) dX1_tryPlaces_21 rfl F
/-- keepIfMore(III)V -/
theorem w_X1_keepIfMore {l : Launch} {d : Nat} {kd : pm_K} {mr : pm_R} {h : Nat} {x1 : Int32} {x2 : Int32} {x3 : Int32} {mi : pm_I} {ml : pm_L} {K : pm_I → pm_L → Prop} (th : TX1s kd mr h)
    (F : ((x1 ≤ (mi h 6) → K mi ml) ∧ (¬ x1 ≤ (mi h 6) → K (pm_up (pm_up (pm_up mi h 6 x1) h 4 x2) h 5 x3) ml))) :
    wV l M_X1_keepIfMore d [.ref h, .int x1, .int x2, .int x3] kd mr mi ml K := by
  show wp l M_X1_keepIfMore d 0 0 0 [some (.ref h), some (.int x1), some (.int x2), some (.int x3)] [] 0 0 kd mi ml mr _
  refine wp_iload_n (pc := 0) dX1_keepIfMore_0 rfl ?_
  refine wp_aload_n (pc := 1) dX1_keepIfMore_1 rfl ?_
  refine wp_getI (pc := 2) dX1_keepIfMore_2 fl_X1_77 rfl (TX1s_k th) ?_
  refine wp_icmp_le (tgt := 23) (pc := 5) dX1_keepIfMore_5 (by decide) (fun c1 => ?_) (fun c1 => ?_)
  · have F := F.1 c1
    exact r_V (pc := 23) dX1_keepIfMore_23 rfl F
  · have F := F.2 c1
    refine wp_aload_n (pc := 8) dX1_keepIfMore_8 rfl ?_
    refine wp_iload_n (pc := 9) dX1_keepIfMore_9 rfl ?_
    refine wp_putI (pc := 10) dX1_keepIfMore_10 fl_X1_77 rfl rfl (TX1s_k th) ?_
    refine wp_aload_n (pc := 13) dX1_keepIfMore_13 rfl ?_
    refine wp_iload_n (pc := 14) dX1_keepIfMore_14 rfl ?_
    refine wp_putI (pc := 15) dX1_keepIfMore_15 fl_X1_71 rfl rfl (TX1s_k th) ?_
    refine wp_aload_n (pc := 18) dX1_keepIfMore_18 rfl ?_
    refine wp_iload_n (pc := 19) dX1_keepIfMore_19 rfl ?_
    refine wp_putI (pc := 20) dX1_keepIfMore_20 fl_X1_74 rfl rfl (TX1s_k th) ?_
    exact r_V (pc := 23) dX1_keepIfMore_23 rfl F
/-- whoPlayed(LCityChords$City;LCityChords$Rows;I)I -/
theorem w_X1_whoPlayed {l : Launch} {d : Nat} {kd : pm_K} {mr : pm_R} {h : Nat} {o1 : Nat} {o2 : Nat} {x3 : Int32} {mi : pm_I} {ml : pm_L} {K : Int32 → pm_I → pm_L → Prop} (th : TX1s kd mr h) (to1 : TX0s kd mr o1) (to2 : TX6s kd mr o2)
    (F : wL l M_X1_setsSeen d [.ref h, .ref o1, .ref o2] kd mr mi ml (fun r1 mi2 ml3 => wI l M_J13_bitCount_95d88 d [.long r1] kd mr mi2 ml3 (fun r4 mi5 ml6 => (((x3).toInt < 0 ∨ 2 < (x3).toInt → ((x3 < 10 → K (-2) mi5 ml6) ∧ (¬ x3 < 10 → ((r4 ≤ (x3 - 10) → K (-2) mi5 ml6) ∧ (¬ r4 ≤ (x3 - 10) → wI l M_X1_kthOf d [.ref h, .long r1, .int (x3 - 10)] kd mr mi5 ml6 (fun r10 mi11 ml12 => K r10 mi11 ml12)))))) ∧ ((x3).toInt = 0 → K r4 mi5 ml6) ∧ ((x3).toInt = 1 → ((¬ r4 = 0 → wI l M_X1_inAll d [.ref h, .ref o1, .long r1] kd mr mi5 ml6 (fun r14 mi15 ml16 => K r14 mi15 ml16)) ∧ (r4 = 0 → K (-1) mi5 ml6))) ∧ ((x3).toInt = 2 → ((¬ r4 = 0 → wI l M_X1_bestToListen d [.ref h, .ref o1, .long r1, .int r4] kd mr mi5 ml6 (fun r18 mi19 ml20 => wI l M_X0_cellOf d [.ref o1, .int r18] kd mr mi19 ml20 (fun r21 mi22 ml23 => K r21 mi22 ml23))) ∧ (r4 = 0 → K (-1) mi5 ml6))))))) :
    wI l M_X1_whoPlayed (d + 1) [.ref h, .ref o1, .ref o2, .int x3] kd mr mi ml K := by
  show wp l M_X1_whoPlayed (d + 1) 0 0 0 [some (.ref h), some (.ref o1), some (.ref o2), some (.int x3), none, none, none] [] 0 0 kd mi ml mr _
  refine wp_aload_n (pc := 0) dX1_whoPlayed_0 rfl ?_
  refine wp_aload_n (pc := 1) dX1_whoPlayed_1 rfl ?_
  refine wp_aload_n (pc := 2) dX1_whoPlayed_2 rfl ?_
  refine cvL [.ref o1, .ref o2] [] (pc := 3) dX1_whoPlayed_3 ml_X1_105 iv_X1_setsSeen (TX1s_k th) (cl_X1 rfl) rfl rfl (Nat.le_of_ble_eq_true rfl) (Nat.le_of_ble_eq_true rfl) (wL.mono (fun r1 mi2 ml3 F => ?_) F)
  refine wp_lstore (pc := 6) dX1_whoPlayed_6 (Nat.le_of_ble_eq_true rfl) rfl ?_
  show wp l M_X1_whoPlayed (d + 1) 0 0 _ [some (.ref h), some (.ref o1), some (.ref o2), some (.int x3), some (.long r1), none, none] _ 0 0 kd _ _ mr _
  refine wp_lload (pc := 8) dX1_whoPlayed_8 rfl ?_
  refine csI [.long r1] [] (pc := 10) dX1_whoPlayed_10 ml_X1_87 st_J13_bitCount_95d88 rfl rfl (Nat.le_of_ble_eq_true rfl) (Nat.le_of_ble_eq_true rfl) (wI.mono (fun r4 mi5 ml6 F => ?_) F)
  refine wp_istore (pc := 13) dX1_whoPlayed_13 (Nat.le_of_ble_eq_true rfl) rfl ?_
  show wp l M_X1_whoPlayed (d + 1) 0 0 _ [some (.ref h), some (.ref o1), some (.ref o2), some (.int x3), some (.long r1), none, some (.int r4)] _ 0 0 kd _ _ mr _
  refine wp_iload_n (pc := 15) dX1_whoPlayed_15 rfl ?_
  by_cases c7 : (x3).toInt < 0 ∨ 2 < (x3).toInt
  · have F := F.1 c7
    refine wp_tableOut (tgt := 87) (pc := 16) dX1_whoPlayed_16 c7 (by decide) ?_
    refine wp_iload_n (pc := 87) dX1_whoPlayed_87 rfl ?_
    refine wp_bipush (v := 10) (pc := 88) dX1_whoPlayed_88 (by decide) ?_
    refine wp_icmp_lt (tgt := 115) (pc := 90) dX1_whoPlayed_90 (by decide) (fun c8 => ?_) (fun c8 => ?_)
    · have F := F.1 c8
      refine wp_bipush (v := -2) (pc := 115) dX1_whoPlayed_115 (by decide) ?_
      exact r_I (pc := 117) dX1_whoPlayed_117 rfl F
    · have F := F.2 c8
      refine wp_iload_n (pc := 93) dX1_whoPlayed_93 rfl ?_
      refine wp_bipush (v := 10) (pc := 94) dX1_whoPlayed_94 (by decide) ?_
      refine wp_isub (pc := 96) dX1_whoPlayed_96 ?_
      refine wp_iload (pc := 97) dX1_whoPlayed_97 rfl ?_
      refine wp_icmp_ge (tgt := 115) (pc := 99) dX1_whoPlayed_99 (by decide) (fun c9 => ?_) (fun c9 => ?_)
      · have F := F.1 c9
        refine wp_bipush (v := -2) (pc := 115) dX1_whoPlayed_115 (by decide) ?_
        exact r_I (pc := 117) dX1_whoPlayed_117 rfl F
      · have F := F.2 c9
        refine wp_aload_n (pc := 102) dX1_whoPlayed_102 rfl ?_
        refine wp_lload (pc := 103) dX1_whoPlayed_103 rfl ?_
        refine wp_iload_n (pc := 105) dX1_whoPlayed_105 rfl ?_
        refine wp_bipush (v := 10) (pc := 106) dX1_whoPlayed_106 (by decide) ?_
        refine wp_isub (pc := 108) dX1_whoPlayed_108 ?_
        refine cvI [.long r1, .int (x3 - 10)] [] (pc := 109) dX1_whoPlayed_109 ml_X1_117 iv_X1_kthOf (TX1s_k th) (cl_X1 rfl) rfl rfl (Nat.le_of_ble_eq_true rfl) (Nat.le_of_ble_eq_true rfl) (wI.mono (fun r10 mi11 ml12 F => ?_) F)
        refine wp_goto (tgt := 117) (pc := 112) dX1_whoPlayed_112 (by decide) ?_
        exact r_I (pc := 117) dX1_whoPlayed_117 rfl F
  have c7 : (x3).toInt = 0 ∨ (x3).toInt = 1 ∨ (x3).toInt = 2 := by omega
  have F := F.2
  rcases c7 with c7 | c7 | c7
  · have F := F.1 c7
    refine wp_tableIn (tgt := 44) (pc := 16) dX1_whoPlayed_16 c7 (by decide) (by decide) rfl (by decide) ?_
    refine wp_iload (pc := 44) dX1_whoPlayed_44 rfl ?_
    exact r_I (pc := 46) dX1_whoPlayed_46 rfl F
  · have F := F.2.1 c7
    refine wp_tableIn (tgt := 47) (pc := 16) dX1_whoPlayed_16 c7 (by decide) (by decide) rfl (by decide) ?_
    refine wp_iload (pc := 47) dX1_whoPlayed_47 rfl ?_
    refine wp_if_ne (tgt := 56) (pc := 49) dX1_whoPlayed_49 (by decide) (fun c13 => ?_) (fun c13 => ?_)
    · have F := F.1 c13
      refine wp_aload_n (pc := 56) dX1_whoPlayed_56 rfl ?_
      refine wp_aload_n (pc := 57) dX1_whoPlayed_57 rfl ?_
      refine wp_lload (pc := 58) dX1_whoPlayed_58 rfl ?_
      refine cvI [.ref o1, .long r1] [] (pc := 60) dX1_whoPlayed_60 ml_X1_109 iv_X1_inAll (TX1s_k th) (cl_X1 rfl) rfl rfl (Nat.le_of_ble_eq_true rfl) (Nat.le_of_ble_eq_true rfl) (wI.mono (fun r14 mi15 ml16 F => ?_) F)
      exact r_I (pc := 63) dX1_whoPlayed_63 rfl F
    · have F := F.2 c13
      refine wp_iconst (v := -1) (pc := 52) dX1_whoPlayed_52 (by decide) ?_
      refine wp_goto (tgt := 63) (pc := 53) dX1_whoPlayed_53 (by decide) ?_
      exact r_I (pc := 63) dX1_whoPlayed_63 rfl F
  · have F := F.2.2 c7
    refine wp_tableIn (tgt := 64) (pc := 16) dX1_whoPlayed_16 c7 (by decide) (by decide) rfl (by decide) ?_
    refine wp_iload (pc := 64) dX1_whoPlayed_64 rfl ?_
    refine wp_if_ne (tgt := 73) (pc := 66) dX1_whoPlayed_66 (by decide) (fun c17 => ?_) (fun c17 => ?_)
    · have F := F.1 c17
      refine wp_aload_n (pc := 73) dX1_whoPlayed_73 rfl ?_
      refine wp_aload_n (pc := 74) dX1_whoPlayed_74 rfl ?_
      refine wp_aload_n (pc := 75) dX1_whoPlayed_75 rfl ?_
      refine wp_lload (pc := 76) dX1_whoPlayed_76 rfl ?_
      refine wp_iload (pc := 78) dX1_whoPlayed_78 rfl ?_
      refine cvI [.ref o1, .long r1, .int r4] [.ref o1] (pc := 80) dX1_whoPlayed_80 ml_X1_113 iv_X1_bestToListen (TX1s_k th) (cl_X1 rfl) rfl rfl (Nat.le_of_ble_eq_true rfl) (Nat.le_of_ble_eq_true rfl) (wI.mono (fun r18 mi19 ml20 F => ?_) F)
      refine cvI [.int r18] [] (pc := 83) dX1_whoPlayed_83 ml_X1_84 iv_X0_cellOf (TX0s_k to1) (cl_X0 rfl) rfl rfl (Nat.le_of_ble_eq_true rfl) (Nat.le_of_ble_eq_true rfl) (wI.mono (fun r21 mi22 ml23 F => ?_) F)
      exact r_I (pc := 86) dX1_whoPlayed_86 rfl F
    · have F := F.2 c17
      refine wp_iconst (v := -1) (pc := 69) dX1_whoPlayed_69 (by decide) ?_
      refine wp_goto (tgt := 86) (pc := 70) dX1_whoPlayed_70 (by decide) ?_
      exact r_I (pc := 86) dX1_whoPlayed_86 rfl F
def c_X1_setsSeen_33 (l : Launch) (d : Nat) (kd : pm_K) (mr : pm_R) (h : Nat) (o1 : Nat) (o2 : Nat) (x3 : Int64) (x5 : Int32) (mi : pm_I) (ml : pm_L) (K : Int64 → pm_I → pm_L → Prop) : Prop := wp l M_X1_setsSeen d 0 0 33 [some (.ref h), some (.ref o1), some (.ref o2), some (.long x3), none, some (.int x5)] [] 0 0 kd mi ml mr (qL kd mr K)
def c_X1_setsSeen_5 (l : Launch) (d : Nat) (kd : pm_K) (mr : pm_R) (h : Nat) (o1 : Nat) (o2 : Nat) (x3 : Int64) (x5 : Int32) (mi : pm_I) (ml : pm_L) (K : Int64 → pm_I → pm_L → Prop) : Prop := wp l M_X1_setsSeen d 0 0 5 [some (.ref h), some (.ref o1), some (.ref o2), some (.long x3), none, some (.int x5)] [] 0 0 kd mi ml mr (qL kd mr K)
theorem w_X1_setsSeen_5 {l : Launch} {d : Nat} {kd : pm_K} {mr : pm_R} {h : Nat} {o1 : Nat} {o2 : Nat} {x3 : Int64} {x5 : Int32} {mi : pm_I} {ml : pm_L} {K : Int64 → pm_I → pm_L → Prop} (th : TX1s kd mr h) (to1 : TX0s kd mr o1) (to2 : TX6s kd mr o2)
    (F : ((((1 : Int32) <<< ((mi o1 4) &&& 31)) ≤ x5 → K x3 mi ml) ∧ (¬ ((1 : Int32) <<< ((mi o1 4) &&& 31)) ≤ x5 → wB l M_X1_agrees d [.ref h, .int x5, .ref o2] kd mr mi ml (fun r2 mi3 ml4 => ((r2 = false → c_X1_setsSeen_33 l (d + 1) kd mr h o1 o2 x3 x5 mi3 ml4 K) ∧ (r2 = true → c_X1_setsSeen_33 l (d + 1) kd mr h o1 o2 (x3 ||| ((1 : Int64) <<< ((Int32.toInt64 x5) &&& 63))) x5 mi3 ml4 K)))))) :
    c_X1_setsSeen_5 l (d + 1) kd mr h o1 o2 x3 x5 mi ml K := by
  show wp l M_X1_setsSeen (d + 1) 0 0 5 [some (.ref h), some (.ref o1), some (.ref o2), some (.long x3), none, some (.int x5)] [] 0 0 kd mi ml mr _
  refine wp_iload (pc := 5) dX1_setsSeen_5 rfl ?_
  refine wp_iconst (v := 1) (pc := 7) dX1_setsSeen_7 (by decide) ?_
  refine wp_aload_n (pc := 8) dX1_setsSeen_8 rfl ?_
  refine wp_getI (pc := 9) dX1_setsSeen_9 fl_X1_35 rfl (TX0s_k to1) ?_
  refine wp_ishl (pc := 12) dX1_setsSeen_12 ?_
  refine wp_icmp_ge (tgt := 39) (pc := 13) dX1_setsSeen_13 (by decide) (fun c1 => ?_) (fun c1 => ?_)
  · have F := F.1 c1
    refine wp_lload_n (pc := 39) dX1_setsSeen_39 rfl ?_
    exact r_L (pc := 40) dX1_setsSeen_40 rfl F
  · have F := F.2 c1
    refine wp_aload_n (pc := 16) dX1_setsSeen_16 rfl ?_
    refine wp_iload (pc := 17) dX1_setsSeen_17 rfl ?_
    refine wp_aload_n (pc := 19) dX1_setsSeen_19 rfl ?_
    refine cvB [.int x5, .ref o2] [] (pc := 20) dX1_setsSeen_20 ml_X1_121 iv_X1_agrees (TX1s_k th) (cl_X1 rfl) rfl rfl (Nat.le_of_ble_eq_true rfl) (Nat.le_of_ble_eq_true rfl) (wB.mono (fun r2 mi3 ml4 F => ?_) F)
    refine b_eq (tgt := 33) (pc := 23) dX1_setsSeen_23 (by decide) (fun c5 => ?_) (fun c5 => ?_)
    · have F := F.1 c5
      exact wp_less (L' := [some (.ref h), some (.ref o1), some (.ref o2), some (.long x3), none, some (.int x5)]) ⟨rfl, ⟨rfl, ⟨rfl, ⟨rfl, ⟨rfl, trivial⟩⟩⟩⟩⟩ F
    · have F := F.2 c5
      refine wp_lload_n (pc := 26) dX1_setsSeen_26 rfl ?_
      refine wp_lconst (v := 1) (pc := 27) dX1_setsSeen_27 (by decide) ?_
      refine wp_iload (pc := 28) dX1_setsSeen_28 rfl ?_
      refine wp_lshl (pc := 30) dX1_setsSeen_30 ?_
      refine wp_lor (pc := 31) dX1_setsSeen_31 ?_
      refine wp_lstore_n (pc := 32) dX1_setsSeen_32 (Nat.le_of_ble_eq_true rfl) rfl ?_
      show wp l M_X1_setsSeen (d + 1) 0 0 _ [some (.ref h), some (.ref o1), some (.ref o2), some (.long (x3 ||| ((1 : Int64) <<< ((Int32.toInt64 x5) &&& 63)))), none, some (.int x5)] _ 0 0 kd _ _ mr _
      exact wp_less (L' := [some (.ref h), some (.ref o1), some (.ref o2), some (.long (x3 ||| ((1 : Int64) <<< ((Int32.toInt64 x5) &&& 63)))), none, some (.int x5)]) ⟨rfl, ⟨rfl, ⟨rfl, ⟨rfl, ⟨rfl, trivial⟩⟩⟩⟩⟩ F
theorem w_X1_setsSeen_33 {l : Launch} {d : Nat} {kd : pm_K} {mr : pm_R} {h : Nat} {o1 : Nat} {o2 : Nat} {x3 : Int64} {x5 : Int32} {mi : pm_I} {ml : pm_L} {K : Int64 → pm_I → pm_L → Prop} (th : TX1s kd mr h) (to1 : TX0s kd mr o1) (to2 : TX6s kd mr o2)
    (F : c_X1_setsSeen_5 l (d + 1) kd mr h o1 o2 x3 (x5 + 1) mi ml K) :
    c_X1_setsSeen_33 l (d + 1) kd mr h o1 o2 x3 x5 mi ml K := by
  show wp l M_X1_setsSeen (d + 1) 0 0 33 [some (.ref h), some (.ref o1), some (.ref o2), some (.long x3), none, some (.int x5)] [] 0 0 kd mi ml mr _
  refine wp_iinc (v := (x5 + 1)) (pc := 33) dX1_setsSeen_33 rfl rfl rfl ?_
  show wp l M_X1_setsSeen (d + 1) 0 0 _ [some (.ref h), some (.ref o1), some (.ref o2), some (.long x3), none, some (.int (x5 + 1))] _ 0 0 kd _ _ mr _
  refine wp_goto (tgt := 5) (pc := 36) dX1_setsSeen_36 (by decide) ?_
  exact wp_less (L' := [some (.ref h), some (.ref o1), some (.ref o2), some (.long x3), none, some (.int (x5 + 1))]) ⟨rfl, ⟨rfl, ⟨rfl, ⟨rfl, ⟨rfl, trivial⟩⟩⟩⟩⟩ F
/-- setsSeen(LCityChords$City;LCityChords$Rows;)J -/
theorem w_X1_setsSeen {l : Launch} {d : Nat} {kd : pm_K} {mr : pm_R} {h : Nat} {o1 : Nat} {o2 : Nat}  {mi : pm_I} {ml : pm_L} {K : Int64 → pm_I → pm_L → Prop} (th : TX1s kd mr h) (to1 : TX0s kd mr o1) (to2 : TX6s kd mr o2)
    (F : c_X1_setsSeen_5 l (d + 1) kd mr h o1 o2 0 0 mi ml K) :
    wL l M_X1_setsSeen (d + 1) [.ref h, .ref o1, .ref o2] kd mr mi ml K := by
  show wp l M_X1_setsSeen (d + 1) 0 0 0 [some (.ref h), some (.ref o1), some (.ref o2), none, none, none] [] 0 0 kd mi ml mr _
  refine wp_lconst (v := 0) (pc := 0) dX1_setsSeen_0 (by decide) ?_
  refine wp_lstore_n (pc := 1) dX1_setsSeen_1 (Nat.le_of_ble_eq_true rfl) rfl ?_
  show wp l M_X1_setsSeen (d + 1) 0 0 _ [some (.ref h), some (.ref o1), some (.ref o2), some (.long 0), none, none] _ 0 0 kd _ _ mr _
  refine wp_iconst (v := 0) (pc := 2) dX1_setsSeen_2 (by decide) ?_
  refine wp_istore (pc := 3) dX1_setsSeen_3 (Nat.le_of_ble_eq_true rfl) rfl ?_
  show wp l M_X1_setsSeen (d + 1) 0 0 _ [some (.ref h), some (.ref o1), some (.ref o2), some (.long 0), none, some (.int 0)] _ 0 0 kd _ _ mr _
  exact wp_less (L' := [some (.ref h), some (.ref o1), some (.ref o2), some (.long 0), none, some (.int 0)]) ⟨rfl, ⟨rfl, ⟨rfl, ⟨rfl, ⟨rfl, trivial⟩⟩⟩⟩⟩ F
def c_X1_agrees_2 (l : Launch) (d : Nat) (kd : pm_K) (mr : pm_R) (h : Nat) (o2 : Nat) (x1 : Int32) (x3 : Int32) (mi : pm_I) (ml : pm_L) (K : Bool → pm_I → pm_L → Prop) : Prop := wp l M_X1_agrees d 0 0 2 [some (.ref h), some (.int x1), some (.ref o2), some (.int x3), none] [] 0 0 kd mi ml mr (qB kd mr K)
theorem w_X1_agrees_2 {l : Launch} {d : Nat} {kd : pm_K} {mr : pm_R} {h : Nat} {o2 : Nat} {x1 : Int32} {x3 : Int32} {mi : pm_I} {ml : pm_L} {K : Bool → pm_I → pm_L → Prop} (th : TX1s kd mr h) (to2 : TX6s kd mr o2)
    (F : (((mi o2 3) ≤ x3 → K true mi ml) ∧ (¬ (mi o2 3) ≤ x3 → wI l M_X6_spotAtRow d [.ref o2, .int x3] kd mr mi ml (fun r2 mi3 ml4 => wB l M_X1_isLoud d [.ref h, .int x1, .int r2] kd mr mi3 ml4 (fun r5 mi6 ml7 => vp_in x3 40 ∧ (((b2i (decide (r5 = true))) = (mi6 (o2 + 1) (Int32.toNatClampNeg x3)) → c_X1_agrees_2 l (d + 1) kd mr h o2 x1 (x3 + 1) mi6 ml7 K) ∧ (¬ (b2i (decide (r5 = true))) = (mi6 (o2 + 1) (Int32.toNatClampNeg x3)) → K false mi6 ml7))))))) :
    c_X1_agrees_2 l (d + 1) kd mr h o2 x1 x3 mi ml K := by
  show wp l M_X1_agrees (d + 1) 0 0 2 [some (.ref h), some (.int x1), some (.ref o2), some (.int x3), none] [] 0 0 kd mi ml mr _
  refine wp_iload_n (pc := 2) dX1_agrees_2 rfl ?_
  refine wp_aload_n (pc := 3) dX1_agrees_3 rfl ?_
  refine wp_getI (pc := 4) dX1_agrees_4 fl_X1_125 rfl (TX6s_k to2) ?_
  refine wp_icmp_ge (tgt := 49) (pc := 7) dX1_agrees_7 (by decide) (fun c1 => ?_) (fun c1 => ?_)
  · have F := F.1 c1
    refine wp_iconst (v := 1) (pc := 49) dX1_agrees_49 (by decide) ?_
    exact r_Bx (pc := 50) dX1_agrees_50 rfl rfl F
  · have F := F.2 c1
    refine wp_aload_n (pc := 10) dX1_agrees_10 rfl ?_
    refine wp_iload_n (pc := 11) dX1_agrees_11 rfl ?_
    refine wp_aload_n (pc := 12) dX1_agrees_12 rfl ?_
    refine wp_iload_n (pc := 13) dX1_agrees_13 rfl ?_
    refine cvI [.int x3] [.int x1, .ref h] (pc := 14) dX1_agrees_14 ml_X1_130 iv_X6_spotAtRow (TX6s_k to2) (cl_X6 rfl) rfl rfl (Nat.le_of_ble_eq_true rfl) (Nat.le_of_ble_eq_true rfl) (wI.mono (fun r2 mi3 ml4 F => ?_) F)
    refine cvB [.int x1, .int r2] [] (pc := 17) dX1_agrees_17 ml_X1_133 iv_X1_isLoud (TX1s_k th) (cl_X1 rfl) rfl rfl (Nat.le_of_ble_eq_true rfl) (Nat.le_of_ble_eq_true rfl) (wB.mono (fun r5 mi6 ml7 F => ?_) F)
    suffices J8 : ∀ v9 : Int32, v9 = (b2i (decide (r5 = true))) → wp l M_X1_agrees (d + 1) 0 0 28 [some (.ref h), some (.int x1), some (.ref o2), some (.int x3), none] [.int v9] 0 0 kd mi6 ml7 mr _ by
        refine b_eq (tgt := 27) (pc := 20) dX1_agrees_20 (by decide) (fun c10 => ?_) (fun c10 => ?_)
        · refine wp_iconst (v := 0) (pc := 27) dX1_agrees_27 (by decide) ?_
          exact J8 _ (by simp only [c10, if_true, if_false, decide_true, decide_false, Bool.not_true, Bool.not_false, Bool.true_and, Bool.false_and, Bool.true_or, Bool.false_or, b2i_t, b2i_f, ite_true, ite_false, not_true_eq_false, not_false_eq_true, reduceCtorEq, decide_eq_true_eq])
        · refine wp_iconst (v := 1) (pc := 23) dX1_agrees_23 (by decide) ?_
          refine wp_goto (tgt := 28) (pc := 24) dX1_agrees_24 (by decide) ?_
          exact J8 _ (by simp only [c10, if_true, if_false, decide_true, decide_false, Bool.not_true, Bool.not_false, Bool.true_and, Bool.false_and, Bool.true_or, Bool.false_or, b2i_t, b2i_f, ite_true, ite_false, not_true_eq_false, not_false_eq_true, reduceCtorEq, decide_eq_true_eq])
    intro v9 ev9
    subst ev9
    refine wp_istore (pc := 28) dX1_agrees_28 (Nat.le_of_ble_eq_true rfl) rfl ?_
    show wp l M_X1_agrees (d + 1) 0 0 _ [some (.ref h), some (.int x1), some (.ref o2), some (.int x3), some (.int (b2i (decide (r5 = true))))] _ 0 0 kd _ _ mr _
    refine wp_iload (pc := 30) dX1_agrees_30 rfl ?_
    refine wp_aload_n (pc := 32) dX1_agrees_32 rfl ?_
    refine wp_getR (pc := 33) dX1_agrees_33 fl_X1_137 rfl (TX6s_k to2) (TX6s_r0 to2) ?_
    refine wp_iload_n (pc := 36) dX1_agrees_36 rfl ?_
    refine wp_iald (pc := 37) dX1_agrees_37 (TX6s_a0 to2) F.1 ?_
    have F := F.2
    refine wp_icmp_eq (tgt := 43) (pc := 38) dX1_agrees_38 (by decide) (fun c11 => ?_) (fun c11 => ?_)
    · have F := F.1 c11
      refine wp_iinc (v := (x3 + 1)) (pc := 43) dX1_agrees_43 rfl rfl rfl ?_
      show wp l M_X1_agrees (d + 1) 0 0 _ [some (.ref h), some (.int x1), some (.ref o2), some (.int (x3 + 1)), some (.int (b2i (decide (r5 = true))))] _ 0 0 kd _ _ mr _
      refine wp_goto (tgt := 2) (pc := 46) dX1_agrees_46 (by decide) ?_
      exact wp_less (L' := [some (.ref h), some (.int x1), some (.ref o2), some (.int (x3 + 1)), none]) ⟨rfl, ⟨rfl, ⟨rfl, ⟨rfl, trivial⟩⟩⟩⟩ F
    · have F := F.2 c11
      refine wp_iconst (v := 0) (pc := 41) dX1_agrees_41 (by decide) ?_
      exact r_Bx (pc := 42) dX1_agrees_42 rfl rfl F
/-- agrees(ILCityChords$Rows;)Z -/
theorem w_X1_agrees {l : Launch} {d : Nat} {kd : pm_K} {mr : pm_R} {h : Nat} {o2 : Nat} {x1 : Int32} {mi : pm_I} {ml : pm_L} {K : Bool → pm_I → pm_L → Prop} (th : TX1s kd mr h) (to2 : TX6s kd mr o2)
    (F : c_X1_agrees_2 l (d + 1) kd mr h o2 x1 0 mi ml K) :
    wB l M_X1_agrees (d + 1) [.ref h, .int x1, .ref o2] kd mr mi ml K := by
  show wp l M_X1_agrees (d + 1) 0 0 0 [some (.ref h), some (.int x1), some (.ref o2), none, none] [] 0 0 kd mi ml mr _
  refine wp_iconst (v := 0) (pc := 0) dX1_agrees_0 (by decide) ?_
  refine wp_istore_n (pc := 1) dX1_agrees_1 (Nat.le_of_ble_eq_true rfl) rfl ?_
  show wp l M_X1_agrees (d + 1) 0 0 _ [some (.ref h), some (.int x1), some (.ref o2), some (.int 0), none] _ 0 0 kd _ _ mr _
  exact wp_less (L' := [some (.ref h), some (.int x1), some (.ref o2), some (.int 0), none]) ⟨rfl, ⟨rfl, ⟨rfl, ⟨rfl, trivial⟩⟩⟩⟩ F
/-- isLoud(II)Z -/
theorem w_X1_isLoud {l : Launch} {d : Nat} {kd : pm_K} {mr : pm_R} {h : Nat} {x1 : Int32} {x2 : Int32} {mi : pm_I} {ml : pm_L} {K : Bool → pm_I → pm_L → Prop} (th : TX1s kd mr h)
    (F : vp_in x2 64 ∧ K (!decide (((mi (h + 4) (Int32.toNatClampNeg x2)) &&& x1) = 0)) mi ml) :
    wB l M_X1_isLoud d [.ref h, .int x1, .int x2] kd mr mi ml K := by
  show wp l M_X1_isLoud d 0 0 0 [some (.ref h), some (.int x1), some (.int x2)] [] 0 0 kd mi ml mr _
  refine wp_aload_n (pc := 0) dX1_isLoud_0 rfl ?_
  refine wp_getR (pc := 1) dX1_isLoud_1 fl_X1_22 rfl (TX1s_k th) (TX1s_r2 th) ?_
  refine wp_iload_n (pc := 4) dX1_isLoud_4 rfl ?_
  refine wp_iald (pc := 5) dX1_isLoud_5 (TX1s_a2 th) F.1 ?_
  have F := F.2
  refine wp_iload_n (pc := 6) dX1_isLoud_6 rfl ?_
  refine wp_iand (pc := 7) dX1_isLoud_7 ?_
  suffices J1 : ∀ v2 : Int32, v2 = (b2i (!decide (((mi (h + 4) (Int32.toNatClampNeg x2)) &&& x1) = 0))) → wp l M_X1_isLoud d 0 0 16 [some (.ref h), some (.int x1), some (.int x2)] [.int v2] 0 0 kd mi ml mr _ by
      refine wp_if_eq (tgt := 15) (pc := 8) dX1_isLoud_8 (by decide) (fun c3 => ?_) (fun c3 => ?_)
      · refine wp_iconst (v := 0) (pc := 15) dX1_isLoud_15 (by decide) ?_
        exact J1 _ (by simp only [eq_true c3, if_true, if_false, decide_true, decide_false, Bool.not_true, Bool.not_false, Bool.true_and, Bool.false_and, Bool.true_or, Bool.false_or, b2i_t, b2i_f, ite_true, ite_false, not_true_eq_false, not_false_eq_true, reduceCtorEq, decide_eq_true_eq])
      · refine wp_iconst (v := 1) (pc := 11) dX1_isLoud_11 (by decide) ?_
        refine wp_goto (tgt := 16) (pc := 12) dX1_isLoud_12 (by decide) ?_
        exact J1 _ (by simp only [c3, if_true, if_false, decide_true, decide_false, Bool.not_true, Bool.not_false, Bool.true_and, Bool.false_and, Bool.true_or, Bool.false_or, b2i_t, b2i_f, ite_true, ite_false, not_true_eq_false, not_false_eq_true, reduceCtorEq, decide_eq_true_eq])
  intro v2 ev2
  subst ev2
  exact r_B (pc := 16) dX1_isLoud_16 rfl F
def c_X1_inAll_13 (l : Launch) (d : Nat) (kd : pm_K) (mr : pm_R) (h : Nat) (o1 : Nat) (x2 : Int64) (x4 : Int32) (x5 : Int32) (mi : pm_I) (ml : pm_L) (K : Int32 → pm_I → pm_L → Prop) : Prop := wp l M_X1_inAll d 0 0 13 [none, some (.ref o1), some (.long x2), none, some (.int x4), some (.int x5)] [] 0 0 kd mi ml mr (qI kd mr K)
theorem w_X1_inAll_13 {l : Launch} {d : Nat} {kd : pm_K} {mr : pm_R} {h : Nat} {o1 : Nat} {x2 : Int64} {x4 : Int32} {x5 : Int32} {mi : pm_I} {ml : pm_L} {K : Int32 → pm_I → pm_L → Prop} (th : TX1s kd mr h) (to1 : TX0s kd mr o1)
    (F : ((((1 : Int32) <<< ((mi o1 4) &&& 31)) ≤ x5 → K x4 mi ml) ∧ (¬ ((1 : Int32) <<< ((mi o1 4) &&& 31)) ≤ x5 → wB l M_X11_has d [.long x2, .int x5] kd mr mi ml (fun r2 mi3 ml4 => c_X1_inAll_13 l (d + 1) kd mr h o1 x2 (if r2 = true then (x4 &&& x5) else x4) (x5 + 1) mi3 ml4 K)))) :
    c_X1_inAll_13 l (d + 1) kd mr h o1 x2 x4 x5 mi ml K := by
  show wp l M_X1_inAll (d + 1) 0 0 13 [none, some (.ref o1), some (.long x2), none, some (.int x4), some (.int x5)] [] 0 0 kd mi ml mr _
  refine wp_iload (pc := 13) dX1_inAll_13 rfl ?_
  refine wp_iconst (v := 1) (pc := 15) dX1_inAll_15 (by decide) ?_
  refine wp_aload_n (pc := 16) dX1_inAll_16 rfl ?_
  refine wp_getI (pc := 17) dX1_inAll_17 fl_X1_35 rfl (TX0s_k to1) ?_
  refine wp_ishl (pc := 20) dX1_inAll_20 ?_
  refine wp_icmp_ge (tgt := 46) (pc := 21) dX1_inAll_21 (by decide) (fun c1 => ?_) (fun c1 => ?_)
  · have F := F.1 c1
    refine wp_iload (pc := 46) dX1_inAll_46 rfl ?_
    exact r_I (pc := 48) dX1_inAll_48 rfl F
  · have F := F.2 c1
    refine wp_lload_n (pc := 24) dX1_inAll_24 rfl ?_
    refine wp_iload (pc := 25) dX1_inAll_25 rfl ?_
    refine csB [.long x2, .int x5] [] (pc := 27) dX1_inAll_27 ml_X1_52 st_X11_has rfl rfl (Nat.le_of_ble_eq_true rfl) (Nat.le_of_ble_eq_true rfl) (wB.mono (fun r2 mi3 ml4 F => ?_) F)
    suffices J5 : ∀ v6 : Int32, v6 = (if r2 = true then (x4 &&& x5) else x4) → wp l M_X1_inAll (d + 1) 0 0 40 [none, some (.ref o1), some (.long x2), none, some (.int v6), some (.int x5)] [] 0 0 kd mi3 ml4 mr _ by
        refine b_eq (tgt := 40) (pc := 30) dX1_inAll_30 (by decide) (fun c7 => ?_) (fun c7 => ?_)
        · exact J5 _ (by simp only [c7, if_true, if_false, decide_true, decide_false, Bool.not_true, Bool.not_false, Bool.true_and, Bool.false_and, Bool.true_or, Bool.false_or, b2i_t, b2i_f, ite_true, ite_false, not_true_eq_false, not_false_eq_true, reduceCtorEq, decide_eq_true_eq])
        · refine wp_iload (pc := 33) dX1_inAll_33 rfl ?_
          refine wp_iload (pc := 35) dX1_inAll_35 rfl ?_
          refine wp_iand (pc := 37) dX1_inAll_37 ?_
          refine wp_istore (pc := 38) dX1_inAll_38 (Nat.le_of_ble_eq_true rfl) rfl ?_
          exact J5 _ (by simp only [c7, if_true, if_false, decide_true, decide_false, Bool.not_true, Bool.not_false, Bool.true_and, Bool.false_and, Bool.true_or, Bool.false_or, b2i_t, b2i_f, ite_true, ite_false, not_true_eq_false, not_false_eq_true, reduceCtorEq, decide_eq_true_eq])
    intro v6 ev6
    subst ev6
    refine wp_iinc (v := (x5 + 1)) (pc := 40) dX1_inAll_40 rfl rfl rfl ?_
    show wp l M_X1_inAll (d + 1) 0 0 _ [none, some (.ref o1), some (.long x2), none, some (.int (if r2 = true then (x4 &&& x5) else x4)), some (.int (x5 + 1))] _ 0 0 kd _ _ mr _
    refine wp_goto (tgt := 13) (pc := 43) dX1_inAll_43 (by decide) ?_
    exact wp_less (L' := [none, some (.ref o1), some (.long x2), none, some (.int (if r2 = true then (x4 &&& x5) else x4)), some (.int (x5 + 1))]) ⟨rfl, ⟨rfl, ⟨rfl, ⟨rfl, trivial⟩⟩⟩⟩ F
/-- inAll(LCityChords$City;J)I -/
theorem w_X1_inAll {l : Launch} {d : Nat} {kd : pm_K} {mr : pm_R} {h : Nat} {o1 : Nat} {x2 : Int64} {mi : pm_I} {ml : pm_L} {K : Int32 → pm_I → pm_L → Prop} (th : TX1s kd mr h) (to1 : TX0s kd mr o1)
    (F : c_X1_inAll_13 l (d + 1) kd mr h o1 x2 (((1 : Int32) <<< ((mi o1 4) &&& 31)) - 1) 0 mi ml K) :
    wI l M_X1_inAll (d + 1) [.ref h, .ref o1, .long x2] kd mr mi ml K := by
  show wp l M_X1_inAll (d + 1) 0 0 0 [some (.ref h), some (.ref o1), some (.long x2), none, none, none] [] 0 0 kd mi ml mr _
  refine wp_iconst (v := 1) (pc := 0) dX1_inAll_0 (by decide) ?_
  refine wp_aload_n (pc := 1) dX1_inAll_1 rfl ?_
  refine wp_getI (pc := 2) dX1_inAll_2 fl_X1_35 rfl (TX0s_k to1) ?_
  refine wp_ishl (pc := 5) dX1_inAll_5 ?_
  refine wp_iconst (v := 1) (pc := 6) dX1_inAll_6 (by decide) ?_
  refine wp_isub (pc := 7) dX1_inAll_7 ?_
  refine wp_istore (pc := 8) dX1_inAll_8 (Nat.le_of_ble_eq_true rfl) rfl ?_
  show wp l M_X1_inAll (d + 1) 0 0 _ [some (.ref h), some (.ref o1), some (.long x2), none, some (.int (((1 : Int32) <<< ((mi o1 4) &&& 31)) - 1)), none] _ 0 0 kd _ _ mr _
  refine wp_iconst (v := 0) (pc := 10) dX1_inAll_10 (by decide) ?_
  refine wp_istore (pc := 11) dX1_inAll_11 (Nat.le_of_ble_eq_true rfl) rfl ?_
  show wp l M_X1_inAll (d + 1) 0 0 _ [some (.ref h), some (.ref o1), some (.long x2), none, some (.int (((1 : Int32) <<< ((mi o1 4) &&& 31)) - 1)), some (.int 0)] _ 0 0 kd _ _ mr _
  exact wp_less (L' := [none, some (.ref o1), some (.long x2), none, some (.int (((1 : Int32) <<< ((mi o1 4) &&& 31)) - 1)), some (.int 0)]) ⟨rfl, ⟨rfl, ⟨rfl, ⟨rfl, trivial⟩⟩⟩⟩ F
def c_X1_bestToListen_71 (l : Launch) (d : Nat) (kd : pm_K) (mr : pm_R) (h : Nat) (o1 : Nat) (x2 : Int64) (x4 : Int32) (x5 : Int64) (x7 : Int32) (x8 : Int32) (x9 : Int32) (mi : pm_I) (ml : pm_L) (K : Int32 → pm_I → pm_L → Prop) : Prop := wp l M_X1_bestToListen d 0 0 71 [some (.ref h), none, some (.long x2), none, some (.int x4), some (.long x5), none, some (.int x7), some (.int x8), some (.int x9), none, none] [] 0 0 kd mi ml mr (qI kd mr K)
def c_X1_bestToListen_18 (l : Launch) (d : Nat) (kd : pm_K) (mr : pm_R) (h : Nat) (o1 : Nat) (x2 : Int64) (x4 : Int32) (x5 : Int64) (x7 : Int32) (x8 : Int32) (x9 : Int32) (mi : pm_I) (ml : pm_L) (K : Int32 → pm_I → pm_L → Prop) : Prop := wp l M_X1_bestToListen d 0 0 18 [some (.ref h), none, some (.long x2), none, some (.int x4), some (.long x5), none, some (.int x7), some (.int x8), some (.int x9), none, none] [] 0 0 kd mi ml mr (qI kd mr K)
theorem w_X1_bestToListen_18 {l : Launch} {d : Nat} {kd : pm_K} {mr : pm_R} {h : Nat} {o1 : Nat} {x2 : Int64} {x4 : Int32} {x5 : Int64} {x7 : Int32} {x8 : Int32} {x9 : Int32} {mi : pm_I} {ml : pm_L} {K : Int32 → pm_I → pm_L → Prop} (th : TX1s kd mr h) (to1 : TX0s kd mr o1)
    (F : ((64 ≤ x9 → K x7 mi ml) ∧ (¬ 64 ≤ x9 → wB l M_X11_has d [.long x5, .int x9] kd mr mi ml (fun r5 mi6 ml7 => ((r5 = false → c_X1_bestToListen_71 l (d + 1) kd mr h o1 x2 x4 x5 x7 x8 x9 mi6 ml7 K) ∧ (r5 = true → wI l M_X1_howManyLoud d [.ref h, .long x2, .int x9] kd mr mi6 ml7 (fun r9 mi10 ml11 => ((x8 ≤ (if r9 < (x4 - r9) then (x4 - r9) else r9) → c_X1_bestToListen_71 l (d + 1) kd mr h o1 x2 x4 x5 x7 x8 x9 mi10 ml11 K) ∧ (¬ x8 ≤ (if r9 < (x4 - r9) then (x4 - r9) else r9) → c_X1_bestToListen_71 l (d + 1) kd mr h o1 x2 x4 x5 x9 (if r9 < (x4 - r9) then (x4 - r9) else r9) x9 mi10 ml11 K))))))))) :
    c_X1_bestToListen_18 l (d + 1) kd mr h o1 x2 x4 x5 x7 x8 x9 mi ml K := by
  show wp l M_X1_bestToListen (d + 1) 0 0 18 [some (.ref h), none, some (.long x2), none, some (.int x4), some (.long x5), none, some (.int x7), some (.int x8), some (.int x9), none, none] [] 0 0 kd mi ml mr _
  refine wp_iload (pc := 18) dX1_bestToListen_18 rfl ?_
  refine wp_bipush (v := 64) (pc := 20) dX1_bestToListen_20 (by decide) ?_
  refine wp_icmp_ge (tgt := 77) (pc := 22) dX1_bestToListen_22 (by decide) (fun c4 => ?_) (fun c4 => ?_)
  · have F := F.1 c4
    refine wp_iload (pc := 77) dX1_bestToListen_77 rfl ?_
    exact r_I (pc := 79) dX1_bestToListen_79 rfl F
  · have F := F.2 c4
    refine wp_lload (pc := 25) dX1_bestToListen_25 rfl ?_
    refine wp_iload (pc := 27) dX1_bestToListen_27 rfl ?_
    refine csB [.long x5, .int x9] [] (pc := 29) dX1_bestToListen_29 ml_X1_52 st_X11_has rfl rfl (Nat.le_of_ble_eq_true rfl) (Nat.le_of_ble_eq_true rfl) (wB.mono (fun r5 mi6 ml7 F => ?_) F)
    refine b_eq (tgt := 71) (pc := 32) dX1_bestToListen_32 (by decide) (fun c8 => ?_) (fun c8 => ?_)
    · have F := F.1 c8
      exact wp_less (L' := [some (.ref h), none, some (.long x2), none, some (.int x4), some (.long x5), none, some (.int x7), some (.int x8), some (.int x9), none, none]) ⟨rfl, ⟨rfl, ⟨rfl, ⟨rfl, ⟨rfl, ⟨rfl, ⟨rfl, trivial⟩⟩⟩⟩⟩⟩⟩ F
    · have F := F.2 c8
      refine wp_aload_n (pc := 35) dX1_bestToListen_35 rfl ?_
      refine wp_lload_n (pc := 36) dX1_bestToListen_36 rfl ?_
      refine wp_iload (pc := 37) dX1_bestToListen_37 rfl ?_
      refine cvI [.long x2, .int x9] [] (pc := 39) dX1_bestToListen_39 ml_X1_143 iv_X1_howManyLoud (TX1s_k th) (cl_X1 rfl) rfl rfl (Nat.le_of_ble_eq_true rfl) (Nat.le_of_ble_eq_true rfl) (wI.mono (fun r9 mi10 ml11 F => ?_) F)
      refine wp_istore (pc := 42) dX1_bestToListen_42 (Nat.le_of_ble_eq_true rfl) rfl ?_
      show wp l M_X1_bestToListen (d + 1) 0 0 _ [some (.ref h), none, some (.long x2), none, some (.int x4), some (.long x5), none, some (.int x7), some (.int x8), some (.int x9), some (.int r9), none] _ 0 0 kd _ _ mr _
      refine wp_iload (pc := 44) dX1_bestToListen_44 rfl ?_
      refine wp_iload (pc := 46) dX1_bestToListen_46 rfl ?_
      refine wp_iload (pc := 48) dX1_bestToListen_48 rfl ?_
      refine wp_isub (pc := 50) dX1_bestToListen_50 ?_
      refine wp_max (pc := 51) dX1_bestToListen_51 ⟨tb_5 114 rfl rfl, tb_2 152 rfl rfl, tb_1 14 rfl rfl, tb_2 153 rfl rfl⟩ (Nat.succ_pos d) (Nat.le_of_ble_eq_true rfl) ⟨Nat.le_refl 0, Nat.le_refl 0⟩ ?_
      refine wp_istore (pc := 54) dX1_bestToListen_54 (Nat.le_of_ble_eq_true rfl) rfl ?_
      show wp l M_X1_bestToListen (d + 1) 0 0 _ [some (.ref h), none, some (.long x2), none, some (.int x4), some (.long x5), none, some (.int x7), some (.int x8), some (.int x9), some (.int r9), some (.int (if r9 < (x4 - r9) then (x4 - r9) else r9))] _ 0 0 kd _ _ mr _
      refine wp_iload (pc := 56) dX1_bestToListen_56 rfl ?_
      refine wp_iload (pc := 58) dX1_bestToListen_58 rfl ?_
      refine wp_icmp_ge (tgt := 71) (pc := 60) dX1_bestToListen_60 (by decide) (fun c12 => ?_) (fun c12 => ?_)
      · have F := F.1 c12
        exact wp_less (L' := [some (.ref h), none, some (.long x2), none, some (.int x4), some (.long x5), none, some (.int x7), some (.int x8), some (.int x9), none, none]) ⟨rfl, ⟨rfl, ⟨rfl, ⟨rfl, ⟨rfl, ⟨rfl, ⟨rfl, trivial⟩⟩⟩⟩⟩⟩⟩ F
      · have F := F.2 c12
        refine wp_iload (pc := 63) dX1_bestToListen_63 rfl ?_
        refine wp_istore (pc := 65) dX1_bestToListen_65 (Nat.le_of_ble_eq_true rfl) rfl ?_
        show wp l M_X1_bestToListen (d + 1) 0 0 _ [some (.ref h), none, some (.long x2), none, some (.int x4), some (.long x5), none, some (.int x7), some (.int (if r9 < (x4 - r9) then (x4 - r9) else r9)), some (.int x9), some (.int r9), some (.int (if r9 < (x4 - r9) then (x4 - r9) else r9))] _ 0 0 kd _ _ mr _
        refine wp_iload (pc := 67) dX1_bestToListen_67 rfl ?_
        refine wp_istore (pc := 69) dX1_bestToListen_69 (Nat.le_of_ble_eq_true rfl) rfl ?_
        show wp l M_X1_bestToListen (d + 1) 0 0 _ [some (.ref h), none, some (.long x2), none, some (.int x4), some (.long x5), none, some (.int x9), some (.int (if r9 < (x4 - r9) then (x4 - r9) else r9)), some (.int x9), some (.int r9), some (.int (if r9 < (x4 - r9) then (x4 - r9) else r9))] _ 0 0 kd _ _ mr _
        exact wp_less (L' := [some (.ref h), none, some (.long x2), none, some (.int x4), some (.long x5), none, some (.int x9), some (.int (if r9 < (x4 - r9) then (x4 - r9) else r9)), some (.int x9), none, none]) ⟨rfl, ⟨rfl, ⟨rfl, ⟨rfl, ⟨rfl, ⟨rfl, ⟨rfl, trivial⟩⟩⟩⟩⟩⟩⟩ F
theorem w_X1_bestToListen_71 {l : Launch} {d : Nat} {kd : pm_K} {mr : pm_R} {h : Nat} {o1 : Nat} {x2 : Int64} {x4 : Int32} {x5 : Int64} {x7 : Int32} {x8 : Int32} {x9 : Int32} {mi : pm_I} {ml : pm_L} {K : Int32 → pm_I → pm_L → Prop} (th : TX1s kd mr h) (to1 : TX0s kd mr o1)
    (F : c_X1_bestToListen_18 l (d + 1) kd mr h o1 x2 x4 x5 x7 x8 (x9 + 1) mi ml K) :
    c_X1_bestToListen_71 l (d + 1) kd mr h o1 x2 x4 x5 x7 x8 x9 mi ml K := by
  show wp l M_X1_bestToListen (d + 1) 0 0 71 [some (.ref h), none, some (.long x2), none, some (.int x4), some (.long x5), none, some (.int x7), some (.int x8), some (.int x9), none, none] [] 0 0 kd mi ml mr _
  refine wp_iinc (v := (x9 + 1)) (pc := 71) dX1_bestToListen_71 rfl rfl rfl ?_
  show wp l M_X1_bestToListen (d + 1) 0 0 _ [some (.ref h), none, some (.long x2), none, some (.int x4), some (.long x5), none, some (.int x7), some (.int x8), some (.int (x9 + 1)), none, none] _ 0 0 kd _ _ mr _
  refine wp_goto (tgt := 18) (pc := 74) dX1_bestToListen_74 (by decide) ?_
  exact wp_less (L' := [some (.ref h), none, some (.long x2), none, some (.int x4), some (.long x5), none, some (.int x7), some (.int x8), some (.int (x9 + 1)), none, none]) ⟨rfl, ⟨rfl, ⟨rfl, ⟨rfl, ⟨rfl, ⟨rfl, ⟨rfl, trivial⟩⟩⟩⟩⟩⟩⟩ F
/-- bestToListen(LCityChords$City;JI)I -/
theorem w_X1_bestToListen {l : Launch} {d : Nat} {kd : pm_K} {mr : pm_R} {h : Nat} {o1 : Nat} {x2 : Int64} {x4 : Int32} {mi : pm_I} {ml : pm_L} {K : Int32 → pm_I → pm_L → Prop} (th : TX1s kd mr h) (to1 : TX0s kd mr o1)
    (F : wL l M_X0_inside d [.ref o1] kd mr mi ml (fun r1 mi2 ml3 => c_X1_bestToListen_18 l (d + 1) kd mr h o1 x2 x4 r1 0 (x4 + 1) 0 mi2 ml3 K)) :
    wI l M_X1_bestToListen (d + 1) [.ref h, .ref o1, .long x2, .int x4] kd mr mi ml K := by
  show wp l M_X1_bestToListen (d + 1) 0 0 0 [some (.ref h), some (.ref o1), some (.long x2), none, some (.int x4), none, none, none, none, none, none, none] [] 0 0 kd mi ml mr _
  refine wp_aload_n (pc := 0) dX1_bestToListen_0 rfl ?_
  refine cvL [] [] (pc := 1) dX1_bestToListen_1 ml_X1_96 iv_X0_inside (TX0s_k to1) (cl_X0 rfl) rfl rfl (Nat.le_of_ble_eq_true rfl) (Nat.le_of_ble_eq_true rfl) (wL.mono (fun r1 mi2 ml3 F => ?_) F)
  refine wp_lstore (pc := 4) dX1_bestToListen_4 (Nat.le_of_ble_eq_true rfl) rfl ?_
  show wp l M_X1_bestToListen (d + 1) 0 0 _ [some (.ref h), some (.ref o1), some (.long x2), none, some (.int x4), some (.long r1), none, none, none, none, none, none] _ 0 0 kd _ _ mr _
  refine wp_iconst (v := 0) (pc := 6) dX1_bestToListen_6 (by decide) ?_
  refine wp_istore (pc := 7) dX1_bestToListen_7 (Nat.le_of_ble_eq_true rfl) rfl ?_
  show wp l M_X1_bestToListen (d + 1) 0 0 _ [some (.ref h), some (.ref o1), some (.long x2), none, some (.int x4), some (.long r1), none, some (.int 0), none, none, none, none] _ 0 0 kd _ _ mr _
  refine wp_iload (pc := 9) dX1_bestToListen_9 rfl ?_
  refine wp_iconst (v := 1) (pc := 11) dX1_bestToListen_11 (by decide) ?_
  refine wp_iadd (pc := 12) dX1_bestToListen_12 ?_
  refine wp_istore (pc := 13) dX1_bestToListen_13 (Nat.le_of_ble_eq_true rfl) rfl ?_
  show wp l M_X1_bestToListen (d + 1) 0 0 _ [some (.ref h), some (.ref o1), some (.long x2), none, some (.int x4), some (.long r1), none, some (.int 0), some (.int (x4 + 1)), none, none, none] _ 0 0 kd _ _ mr _
  refine wp_iconst (v := 0) (pc := 15) dX1_bestToListen_15 (by decide) ?_
  refine wp_istore (pc := 16) dX1_bestToListen_16 (Nat.le_of_ble_eq_true rfl) rfl ?_
  show wp l M_X1_bestToListen (d + 1) 0 0 _ [some (.ref h), some (.ref o1), some (.long x2), none, some (.int x4), some (.long r1), none, some (.int 0), some (.int (x4 + 1)), some (.int 0), none, none] _ 0 0 kd _ _ mr _
  exact wp_less (L' := [some (.ref h), none, some (.long x2), none, some (.int x4), some (.long r1), none, some (.int 0), some (.int (x4 + 1)), some (.int 0), none, none]) ⟨rfl, ⟨rfl, ⟨rfl, ⟨rfl, ⟨rfl, ⟨rfl, ⟨rfl, trivial⟩⟩⟩⟩⟩⟩⟩ F
def c_X1_howManyLoud_35 (l : Launch) (d : Nat) (kd : pm_K) (mr : pm_R) (h : Nat) (x1 : Int64) (x3 : Int32) (x4 : Int32) (x5 : Int32) (mi : pm_I) (ml : pm_L) (K : Int32 → pm_I → pm_L → Prop) : Prop := wp l M_X1_howManyLoud d 0 0 35 [some (.ref h), some (.long x1), none, some (.int x3), some (.int x4), some (.int x5)] [] 0 0 kd mi ml mr (qI kd mr K)
def c_X1_howManyLoud_6 (l : Launch) (d : Nat) (kd : pm_K) (mr : pm_R) (h : Nat) (x1 : Int64) (x3 : Int32) (x4 : Int32) (x5 : Int32) (mi : pm_I) (ml : pm_L) (K : Int32 → pm_I → pm_L → Prop) : Prop := wp l M_X1_howManyLoud d 0 0 6 [some (.ref h), some (.long x1), none, some (.int x3), some (.int x4), some (.int x5)] [] 0 0 kd mi ml mr (qI kd mr K)
theorem w_X1_howManyLoud_6 {l : Launch} {d : Nat} {kd : pm_K} {mr : pm_R} {h : Nat} {x1 : Int64} {x3 : Int32} {x4 : Int32} {x5 : Int32} {mi : pm_I} {ml : pm_L} {K : Int32 → pm_I → pm_L → Prop} (th : TX1s kd mr h)
    (F : ((64 ≤ x5 → K x4 mi ml) ∧ (¬ 64 ≤ x5 → wB l M_X11_has d [.long x1, .int x5] kd mr mi ml (fun r2 mi3 ml4 => ((r2 = false → c_X1_howManyLoud_35 l (d + 1) kd mr h x1 x3 x4 x5 mi3 ml4 K) ∧ (r2 = true → wB l M_X1_isLoud d [.ref h, .int x5, .int x3] kd mr mi3 ml4 (fun r6 mi7 ml8 => ((r6 = false → c_X1_howManyLoud_35 l (d + 1) kd mr h x1 x3 x4 x5 mi7 ml8 K) ∧ (r6 = true → c_X1_howManyLoud_35 l (d + 1) kd mr h x1 x3 (x4 + 1) x5 mi7 ml8 K))))))))) :
    c_X1_howManyLoud_6 l (d + 1) kd mr h x1 x3 x4 x5 mi ml K := by
  show wp l M_X1_howManyLoud (d + 1) 0 0 6 [some (.ref h), some (.long x1), none, some (.int x3), some (.int x4), some (.int x5)] [] 0 0 kd mi ml mr _
  refine wp_iload (pc := 6) dX1_howManyLoud_6 rfl ?_
  refine wp_bipush (v := 64) (pc := 8) dX1_howManyLoud_8 (by decide) ?_
  refine wp_icmp_ge (tgt := 41) (pc := 10) dX1_howManyLoud_10 (by decide) (fun c1 => ?_) (fun c1 => ?_)
  · have F := F.1 c1
    refine wp_iload (pc := 41) dX1_howManyLoud_41 rfl ?_
    exact r_I (pc := 43) dX1_howManyLoud_43 rfl F
  · have F := F.2 c1
    refine wp_lload_n (pc := 13) dX1_howManyLoud_13 rfl ?_
    refine wp_iload (pc := 14) dX1_howManyLoud_14 rfl ?_
    refine csB [.long x1, .int x5] [] (pc := 16) dX1_howManyLoud_16 ml_X1_52 st_X11_has rfl rfl (Nat.le_of_ble_eq_true rfl) (Nat.le_of_ble_eq_true rfl) (wB.mono (fun r2 mi3 ml4 F => ?_) F)
    refine b_eq (tgt := 35) (pc := 19) dX1_howManyLoud_19 (by decide) (fun c5 => ?_) (fun c5 => ?_)
    · have F := F.1 c5
      exact wp_less (L' := [some (.ref h), some (.long x1), none, some (.int x3), some (.int x4), some (.int x5)]) ⟨rfl, ⟨rfl, ⟨rfl, ⟨rfl, ⟨rfl, trivial⟩⟩⟩⟩⟩ F
    · have F := F.2 c5
      refine wp_aload_n (pc := 22) dX1_howManyLoud_22 rfl ?_
      refine wp_iload (pc := 23) dX1_howManyLoud_23 rfl ?_
      refine wp_iload_n (pc := 25) dX1_howManyLoud_25 rfl ?_
      refine cvB [.int x5, .int x3] [] (pc := 26) dX1_howManyLoud_26 ml_X1_133 iv_X1_isLoud (TX1s_k th) (cl_X1 rfl) rfl rfl (Nat.le_of_ble_eq_true rfl) (Nat.le_of_ble_eq_true rfl) (wB.mono (fun r6 mi7 ml8 F => ?_) F)
      refine b_eq (tgt := 35) (pc := 29) dX1_howManyLoud_29 (by decide) (fun c9 => ?_) (fun c9 => ?_)
      · have F := F.1 c9
        exact wp_less (L' := [some (.ref h), some (.long x1), none, some (.int x3), some (.int x4), some (.int x5)]) ⟨rfl, ⟨rfl, ⟨rfl, ⟨rfl, ⟨rfl, trivial⟩⟩⟩⟩⟩ F
      · have F := F.2 c9
        refine wp_iinc (v := (x4 + 1)) (pc := 32) dX1_howManyLoud_32 rfl rfl rfl ?_
        show wp l M_X1_howManyLoud (d + 1) 0 0 _ [some (.ref h), some (.long x1), none, some (.int x3), some (.int (x4 + 1)), some (.int x5)] _ 0 0 kd _ _ mr _
        exact wp_less (L' := [some (.ref h), some (.long x1), none, some (.int x3), some (.int (x4 + 1)), some (.int x5)]) ⟨rfl, ⟨rfl, ⟨rfl, ⟨rfl, ⟨rfl, trivial⟩⟩⟩⟩⟩ F
theorem w_X1_howManyLoud_35 {l : Launch} {d : Nat} {kd : pm_K} {mr : pm_R} {h : Nat} {x1 : Int64} {x3 : Int32} {x4 : Int32} {x5 : Int32} {mi : pm_I} {ml : pm_L} {K : Int32 → pm_I → pm_L → Prop} (th : TX1s kd mr h)
    (F : c_X1_howManyLoud_6 l (d + 1) kd mr h x1 x3 x4 (x5 + 1) mi ml K) :
    c_X1_howManyLoud_35 l (d + 1) kd mr h x1 x3 x4 x5 mi ml K := by
  show wp l M_X1_howManyLoud (d + 1) 0 0 35 [some (.ref h), some (.long x1), none, some (.int x3), some (.int x4), some (.int x5)] [] 0 0 kd mi ml mr _
  refine wp_iinc (v := (x5 + 1)) (pc := 35) dX1_howManyLoud_35 rfl rfl rfl ?_
  show wp l M_X1_howManyLoud (d + 1) 0 0 _ [some (.ref h), some (.long x1), none, some (.int x3), some (.int x4), some (.int (x5 + 1))] _ 0 0 kd _ _ mr _
  refine wp_goto (tgt := 6) (pc := 38) dX1_howManyLoud_38 (by decide) ?_
  exact wp_less (L' := [some (.ref h), some (.long x1), none, some (.int x3), some (.int x4), some (.int (x5 + 1))]) ⟨rfl, ⟨rfl, ⟨rfl, ⟨rfl, ⟨rfl, trivial⟩⟩⟩⟩⟩ F
/-- howManyLoud(JI)I -/
theorem w_X1_howManyLoud {l : Launch} {d : Nat} {kd : pm_K} {mr : pm_R} {h : Nat} {x1 : Int64} {x3 : Int32} {mi : pm_I} {ml : pm_L} {K : Int32 → pm_I → pm_L → Prop} (th : TX1s kd mr h)
    (F : c_X1_howManyLoud_6 l (d + 1) kd mr h x1 x3 0 0 mi ml K) :
    wI l M_X1_howManyLoud (d + 1) [.ref h, .long x1, .int x3] kd mr mi ml K := by
  show wp l M_X1_howManyLoud (d + 1) 0 0 0 [some (.ref h), some (.long x1), none, some (.int x3), none, none] [] 0 0 kd mi ml mr _
  refine wp_iconst (v := 0) (pc := 0) dX1_howManyLoud_0 (by decide) ?_
  refine wp_istore (pc := 1) dX1_howManyLoud_1 (Nat.le_of_ble_eq_true rfl) rfl ?_
  show wp l M_X1_howManyLoud (d + 1) 0 0 _ [some (.ref h), some (.long x1), none, some (.int x3), some (.int 0), none] _ 0 0 kd _ _ mr _
  refine wp_iconst (v := 0) (pc := 3) dX1_howManyLoud_3 (by decide) ?_
  refine wp_istore (pc := 4) dX1_howManyLoud_4 (Nat.le_of_ble_eq_true rfl) rfl ?_
  show wp l M_X1_howManyLoud (d + 1) 0 0 _ [some (.ref h), some (.long x1), none, some (.int x3), some (.int 0), some (.int 0)] _ 0 0 kd _ _ mr _
  exact wp_less (L' := [some (.ref h), some (.long x1), none, some (.int x3), some (.int 0), some (.int 0)]) ⟨rfl, ⟨rfl, ⟨rfl, ⟨rfl, ⟨rfl, trivial⟩⟩⟩⟩⟩ F
def c_X1_kthOf_6 (l : Launch) (d : Nat) (kd : pm_K) (mr : pm_R) (h : Nat) (x3 : Int32) (x4 : Int64) (x6 : Int32) (mi : pm_I) (ml : pm_L) (K : Int32 → pm_I → pm_L → Prop) : Prop := wp l M_X1_kthOf d 0 0 6 [none, none, none, some (.int x3), some (.long x4), none, some (.int x6)] [] 0 0 kd mi ml mr (qI kd mr K)
theorem w_X1_kthOf_6 {l : Launch} {d : Nat} {kd : pm_K} {mr : pm_R} {h : Nat} {x3 : Int32} {x4 : Int64} {x6 : Int32} {mi : pm_I} {ml : pm_L} {K : Int32 → pm_I → pm_L → Prop} (th : TX1s kd mr h)
    (F : ((x3 ≤ x6 → wI l M_X11_leastOf d [.long x4] kd mr mi ml (fun r2 mi3 ml4 => K r2 mi3 ml4)) ∧ (¬ x3 ≤ x6 → c_X1_kthOf_6 l (d + 1) kd mr h x3 (x4 &&& (x4 - 1)) (x6 + 1) mi ml K))) :
    c_X1_kthOf_6 l (d + 1) kd mr h x3 x4 x6 mi ml K := by
  show wp l M_X1_kthOf (d + 1) 0 0 6 [none, none, none, some (.int x3), some (.long x4), none, some (.int x6)] [] 0 0 kd mi ml mr _
  refine wp_iload (pc := 6) dX1_kthOf_6 rfl ?_
  refine wp_iload_n (pc := 8) dX1_kthOf_8 rfl ?_
  refine wp_icmp_ge (tgt := 27) (pc := 9) dX1_kthOf_9 (by decide) (fun c1 => ?_) (fun c1 => ?_)
  · have F := F.1 c1
    refine wp_lload (pc := 27) dX1_kthOf_27 rfl ?_
    refine csI [.long x4] [] (pc := 29) dX1_kthOf_29 ml_X1_140 st_X11_leastOf rfl rfl (Nat.le_of_ble_eq_true rfl) (Nat.le_of_ble_eq_true rfl) (wI.mono (fun r2 mi3 ml4 F => ?_) F)
    exact r_I (pc := 32) dX1_kthOf_32 rfl F
  · have F := F.2 c1
    refine wp_lload (pc := 12) dX1_kthOf_12 rfl ?_
    refine wp_lload (pc := 14) dX1_kthOf_14 rfl ?_
    refine wp_lconst (v := 1) (pc := 16) dX1_kthOf_16 (by decide) ?_
    refine wp_lsub (pc := 17) dX1_kthOf_17 ?_
    refine wp_land (pc := 18) dX1_kthOf_18 ?_
    refine wp_lstore (pc := 19) dX1_kthOf_19 (Nat.le_of_ble_eq_true rfl) rfl ?_
    show wp l M_X1_kthOf (d + 1) 0 0 _ [none, none, none, some (.int x3), some (.long (x4 &&& (x4 - 1))), none, some (.int x6)] _ 0 0 kd _ _ mr _
    refine wp_iinc (v := (x6 + 1)) (pc := 21) dX1_kthOf_21 rfl rfl rfl ?_
    show wp l M_X1_kthOf (d + 1) 0 0 _ [none, none, none, some (.int x3), some (.long (x4 &&& (x4 - 1))), none, some (.int (x6 + 1))] _ 0 0 kd _ _ mr _
    refine wp_goto (tgt := 6) (pc := 24) dX1_kthOf_24 (by decide) ?_
    exact wp_less (L' := [none, none, none, some (.int x3), some (.long (x4 &&& (x4 - 1))), none, some (.int (x6 + 1))]) ⟨rfl, ⟨rfl, ⟨rfl, trivial⟩⟩⟩ F
/-- kthOf(JI)I -/
theorem w_X1_kthOf {l : Launch} {d : Nat} {kd : pm_K} {mr : pm_R} {h : Nat} {x1 : Int64} {x3 : Int32} {mi : pm_I} {ml : pm_L} {K : Int32 → pm_I → pm_L → Prop} (th : TX1s kd mr h)
    (F : c_X1_kthOf_6 l (d + 1) kd mr h x3 x1 0 mi ml K) :
    wI l M_X1_kthOf (d + 1) [.ref h, .long x1, .int x3] kd mr mi ml K := by
  show wp l M_X1_kthOf (d + 1) 0 0 0 [some (.ref h), some (.long x1), none, some (.int x3), none, none, none] [] 0 0 kd mi ml mr _
  refine wp_lload_n (pc := 0) dX1_kthOf_0 rfl ?_
  refine wp_lstore (pc := 1) dX1_kthOf_1 (Nat.le_of_ble_eq_true rfl) rfl ?_
  show wp l M_X1_kthOf (d + 1) 0 0 _ [some (.ref h), some (.long x1), none, some (.int x3), some (.long x1), none, none] _ 0 0 kd _ _ mr _
  refine wp_iconst (v := 0) (pc := 3) dX1_kthOf_3 (by decide) ?_
  refine wp_istore (pc := 4) dX1_kthOf_4 (Nat.le_of_ble_eq_true rfl) rfl ?_
  show wp l M_X1_kthOf (d + 1) 0 0 _ [some (.ref h), some (.long x1), none, some (.int x3), some (.long x1), none, some (.int 0)] _ 0 0 kd _ _ mr _
  exact wp_less (L' := [none, none, none, some (.int x3), some (.long x1), none, some (.int 0)]) ⟨rfl, ⟨rfl, ⟨rfl, trivial⟩⟩⟩ F
def c_X3_playOneDrawn_109 (l : Launch) (d : Nat) (kd : pm_K) (mr : pm_R) (h : Nat) (o1 : Nat) (x3 : Int32) (x5 : Int32) (x7 : Int32) (x8 : Int32) (mi : pm_I) (ml : pm_L) (K : Int32 → pm_I → pm_L → Prop) : Prop := wp l M_X3_playOneDrawn d 0 0 109 [some (.ref h), some (.ref o1), none, some (.int x3), none, some (.int x5), none, some (.int x7), some (.int x8)] [] 0 0 kd mi ml mr (qI kd mr K)
theorem w_X3_playOneDrawn_109 {l : Launch} {d : Nat} {kd : pm_K} {mr : pm_R} {h : Nat} {o1 : Nat} {x3 : Int32} {x5 : Int32} {x7 : Int32} {x8 : Int32} {mi : pm_I} {ml : pm_L} {K : Int32 → pm_I → pm_L → Prop} (th : TX3s kd mr h) (to1 : TX0s kd mr o1)
    (F : wB l M_X3_act d [.ref h, .ref o1, .int x5, .int x7, .int x8] kd mr mi ml (fun r31 mi32 ml33 => K x3 mi32 ml33)) :
    c_X3_playOneDrawn_109 l (d + 1) kd mr h o1 x3 x5 x7 x8 mi ml K := by
  show wp l M_X3_playOneDrawn (d + 1) 0 0 109 [some (.ref h), some (.ref o1), none, some (.int x3), none, some (.int x5), none, some (.int x7), some (.int x8)] [] 0 0 kd mi ml mr _
  refine wp_aload_n (pc := 109) dX3_playOneDrawn_109 rfl ?_
  refine wp_aload_n (pc := 110) dX3_playOneDrawn_110 rfl ?_
  refine wp_iload (pc := 111) dX3_playOneDrawn_111 rfl ?_
  refine wp_iload (pc := 113) dX3_playOneDrawn_113 rfl ?_
  refine wp_iload (pc := 115) dX3_playOneDrawn_115 rfl ?_
  refine cvB [.ref o1, .int x5, .int x7, .int x8] [] (pc := 117) dX3_playOneDrawn_117 ml_X3_75 iv_X3_act (TX3s_k th) (cl_X3 rfl) rfl rfl (Nat.le_of_ble_eq_true rfl) (Nat.le_of_ble_eq_true rfl) (wB.mono (fun r31 mi32 ml33 F => ?_) F)
  refine wp_pop (pc := 120) dX3_playOneDrawn_120 rfl ?_
  refine wp_iload_n (pc := 121) dX3_playOneDrawn_121 rfl ?_
  exact r_I (pc := 122) dX3_playOneDrawn_122 rfl F
/-- playOneDrawn(LCityChords$City;I)I -/
theorem w_X3_playOneDrawn {l : Launch} {d : Nat} {kd : pm_K} {mr : pm_R} {h : Nat} {o1 : Nat} {x2 : Int32} {mi : pm_I} {ml : pm_L} {K : Int32 → pm_I → pm_L → Prop} (th : TX3s kd mr h) (to1 : TX0s kd mr o1)
    (F : wI l M_X3_nextSeed d [.int x2] kd mr mi ml (fun r1 mi2 ml3 => wI l M_X3_drawnBelow d [.int r1, .int 8] kd mr mi2 ml3 (fun r4 mi5 ml6 => ((¬ (if r4 ≤ 3 then r4 else (r4 - 1)) = 6 → ((¬ (if (if r4 ≤ 3 then r4 else (r4 - 1)) = 4 then (mi5 o1 5) else (mi5 o1 4)) = 0 → wI l M_X3_nextSeed d [.int r1] kd mr mi5 ml6 (fun r15 mi16 ml17 => wI l M_X3_drawnBelow d [.int r15, .int (if (if r4 ≤ 3 then r4 else (r4 - 1)) = 4 then (mi5 o1 5) else (mi5 o1 4))] kd mr mi16 ml17 (fun r18 mi19 ml20 => (((if r4 ≤ 3 then r4 else (r4 - 1)) < 3 → c_X3_playOneDrawn_109 l (d + 1) kd mr h o1 r15 (if r4 ≤ 3 then r4 else (r4 - 1)) r18 (-1) mi19 ml20 K) ∧ (¬ (if r4 ≤ 3 then r4 else (r4 - 1)) < 3 → wI l M_X3_nextSeed d [.int r15] kd mr mi19 ml20 (fun r22 mi23 ml24 => wI l M_X3_drawnBelow d [.int r22, .int 4] kd mr mi23 ml24 (fun r25 mi26 ml27 => c_X3_playOneDrawn_109 l (d + 1) kd mr h o1 r22 (if r4 ≤ 3 then r4 else (r4 - 1)) r18 r25 mi26 ml27 K))))))) ∧ ((if (if r4 ≤ 3 then r4 else (r4 - 1)) = 4 then (mi5 o1 5) else (mi5 o1 4)) = 0 → K r1 mi5 ml6))) ∧ ((if r4 ≤ 3 then r4 else (r4 - 1)) = 6 → wB l M_X3_act d [.ref h, .ref o1, .int (if r4 ≤ 3 then r4 else (r4 - 1)), .int (-1), .int (-1)] kd mr mi5 ml6 (fun r28 mi29 ml30 => K r1 mi29 ml30)))))) :
    wI l M_X3_playOneDrawn (d + 1) [.ref h, .ref o1, .int x2] kd mr mi ml K := by
  show wp l M_X3_playOneDrawn (d + 1) 0 0 0 [some (.ref h), some (.ref o1), some (.int x2), none, none, none, none, none, none] [] 0 0 kd mi ml mr _
  refine wp_iload_n (pc := 0) dX3_playOneDrawn_0 rfl ?_
  refine csI [.int x2] [] (pc := 1) dX3_playOneDrawn_1 ml_X3_79 st_X3_nextSeed rfl rfl (Nat.le_of_ble_eq_true rfl) (Nat.le_of_ble_eq_true rfl) (wI.mono (fun r1 mi2 ml3 F => ?_) F)
  refine wp_istore_n (pc := 4) dX3_playOneDrawn_4 (Nat.le_of_ble_eq_true rfl) rfl ?_
  show wp l M_X3_playOneDrawn (d + 1) 0 0 _ [some (.ref h), some (.ref o1), some (.int x2), some (.int r1), none, none, none, none, none] _ 0 0 kd _ _ mr _
  refine wp_iload_n (pc := 5) dX3_playOneDrawn_5 rfl ?_
  refine wp_bipush (v := 8) (pc := 6) dX3_playOneDrawn_6 (by decide) ?_
  refine csI [.int r1, .int 8] [] (pc := 8) dX3_playOneDrawn_8 ml_X3_83 st_X3_drawnBelow rfl rfl (Nat.le_of_ble_eq_true rfl) (Nat.le_of_ble_eq_true rfl) (wI.mono (fun r4 mi5 ml6 F => ?_) F)
  refine wp_istore (pc := 11) dX3_playOneDrawn_11 (Nat.le_of_ble_eq_true rfl) rfl ?_
  show wp l M_X3_playOneDrawn (d + 1) 0 0 _ [some (.ref h), some (.ref o1), some (.int x2), some (.int r1), some (.int r4), none, none, none, none] _ 0 0 kd _ _ mr _
  refine wp_iload (pc := 13) dX3_playOneDrawn_13 rfl ?_
  refine wp_iconst (v := 3) (pc := 15) dX3_playOneDrawn_15 (by decide) ?_
  suffices J7 : ∀ v8 : Int32, v8 = (if r4 ≤ 3 then r4 else (r4 - 1)) → wp l M_X3_playOneDrawn (d + 1) 0 0 28 [some (.ref h), some (.ref o1), some (.int x2), some (.int r1), some (.int r4), none, none, none, none] [.int v8] 0 0 kd mi5 ml6 mr _ by
      refine wp_icmp_le (tgt := 26) (pc := 16) dX3_playOneDrawn_16 (by decide) (fun c9 => ?_) (fun c9 => ?_)
      · refine wp_iload (pc := 26) dX3_playOneDrawn_26 rfl ?_
        exact J7 _ (by simp only [eq_true c9, if_true, if_false, decide_true, decide_false, Bool.not_true, Bool.not_false, Bool.true_and, Bool.false_and, Bool.true_or, Bool.false_or, b2i_t, b2i_f, ite_true, ite_false, not_true_eq_false, not_false_eq_true, reduceCtorEq, decide_eq_true_eq])
      · refine wp_iload (pc := 19) dX3_playOneDrawn_19 rfl ?_
        refine wp_iconst (v := 1) (pc := 21) dX3_playOneDrawn_21 (by decide) ?_
        refine wp_isub (pc := 22) dX3_playOneDrawn_22 ?_
        refine wp_goto (tgt := 28) (pc := 23) dX3_playOneDrawn_23 (by decide) ?_
        exact J7 _ (by simp only [c9, if_true, if_false, decide_true, decide_false, Bool.not_true, Bool.not_false, Bool.true_and, Bool.false_and, Bool.true_or, Bool.false_or, b2i_t, b2i_f, ite_true, ite_false, not_true_eq_false, not_false_eq_true, reduceCtorEq, decide_eq_true_eq])
  intro v8 ev8
  subst ev8
  refine wp_istore (pc := 28) dX3_playOneDrawn_28 (Nat.le_of_ble_eq_true rfl) rfl ?_
  show wp l M_X3_playOneDrawn (d + 1) 0 0 _ [some (.ref h), some (.ref o1), some (.int x2), some (.int r1), some (.int r4), some (.int (if r4 ≤ 3 then r4 else (r4 - 1))), none, none, none] _ 0 0 kd _ _ mr _
  refine wp_iload (pc := 30) dX3_playOneDrawn_30 rfl ?_
  refine wp_bipush (v := 6) (pc := 32) dX3_playOneDrawn_32 (by decide) ?_
  refine wp_icmp_ne (tgt := 49) (pc := 34) dX3_playOneDrawn_34 (by decide) (fun c10 => ?_) (fun c10 => ?_)
  · have F := F.1 c10
    refine wp_iload (pc := 49) dX3_playOneDrawn_49 rfl ?_
    refine wp_iconst (v := 4) (pc := 51) dX3_playOneDrawn_51 (by decide) ?_
    suffices J11 : ∀ v12 : Int32, v12 = (if (if r4 ≤ 3 then r4 else (r4 - 1)) = 4 then (mi5 o1 5) else (mi5 o1 4)) → wp l M_X3_playOneDrawn (d + 1) 0 0 66 [some (.ref h), some (.ref o1), some (.int x2), some (.int r1), some (.int r4), some (.int (if r4 ≤ 3 then r4 else (r4 - 1))), none, none, none] [.int v12] 0 0 kd mi5 ml6 mr _ by
        refine wp_icmp_ne (tgt := 62) (pc := 52) dX3_playOneDrawn_52 (by decide) (fun c13 => ?_) (fun c13 => ?_)
        · refine wp_aload_n (pc := 62) dX3_playOneDrawn_62 rfl ?_
          refine wp_getI (pc := 63) dX3_playOneDrawn_63 fl_X3_90 rfl (TX0s_k to1) ?_
          exact J11 _ (by simp only [c13, if_true, if_false, decide_true, decide_false, Bool.not_true, Bool.not_false, Bool.true_and, Bool.false_and, Bool.true_or, Bool.false_or, b2i_t, b2i_f, ite_true, ite_false, not_true_eq_false, not_false_eq_true, reduceCtorEq, decide_eq_true_eq])
        · refine wp_aload_n (pc := 55) dX3_playOneDrawn_55 rfl ?_
          refine wp_getI (pc := 56) dX3_playOneDrawn_56 fl_X3_87 rfl (TX0s_k to1) ?_
          refine wp_goto (tgt := 66) (pc := 59) dX3_playOneDrawn_59 (by decide) ?_
          exact J11 _ (by simp only [eq_true c13, if_true, if_false, decide_true, decide_false, Bool.not_true, Bool.not_false, Bool.true_and, Bool.false_and, Bool.true_or, Bool.false_or, b2i_t, b2i_f, ite_true, ite_false, not_true_eq_false, not_false_eq_true, reduceCtorEq, decide_eq_true_eq])
    intro v12 ev12
    subst ev12
    refine wp_istore (pc := 66) dX3_playOneDrawn_66 (Nat.le_of_ble_eq_true rfl) rfl ?_
    show wp l M_X3_playOneDrawn (d + 1) 0 0 _ [some (.ref h), some (.ref o1), some (.int x2), some (.int r1), some (.int r4), some (.int (if r4 ≤ 3 then r4 else (r4 - 1))), some (.int (if (if r4 ≤ 3 then r4 else (r4 - 1)) = 4 then (mi5 o1 5) else (mi5 o1 4))), none, none] _ 0 0 kd _ _ mr _
    refine wp_iload (pc := 68) dX3_playOneDrawn_68 rfl ?_
    refine wp_if_ne (tgt := 75) (pc := 70) dX3_playOneDrawn_70 (by decide) (fun c14 => ?_) (fun c14 => ?_)
    · have F := F.1 c14
      refine wp_iload_n (pc := 75) dX3_playOneDrawn_75 rfl ?_
      refine csI [.int r1] [] (pc := 76) dX3_playOneDrawn_76 ml_X3_79 st_X3_nextSeed rfl rfl (Nat.le_of_ble_eq_true rfl) (Nat.le_of_ble_eq_true rfl) (wI.mono (fun r15 mi16 ml17 F => ?_) F)
      refine wp_istore_n (pc := 79) dX3_playOneDrawn_79 (Nat.le_of_ble_eq_true rfl) rfl ?_
      show wp l M_X3_playOneDrawn (d + 1) 0 0 _ [some (.ref h), some (.ref o1), some (.int x2), some (.int r15), some (.int r4), some (.int (if r4 ≤ 3 then r4 else (r4 - 1))), some (.int (if (if r4 ≤ 3 then r4 else (r4 - 1)) = 4 then (mi5 o1 5) else (mi5 o1 4))), none, none] _ 0 0 kd _ _ mr _
      refine wp_iload_n (pc := 80) dX3_playOneDrawn_80 rfl ?_
      refine wp_iload (pc := 81) dX3_playOneDrawn_81 rfl ?_
      refine csI [.int r15, .int (if (if r4 ≤ 3 then r4 else (r4 - 1)) = 4 then (mi5 o1 5) else (mi5 o1 4))] [] (pc := 83) dX3_playOneDrawn_83 ml_X3_83 st_X3_drawnBelow rfl rfl (Nat.le_of_ble_eq_true rfl) (Nat.le_of_ble_eq_true rfl) (wI.mono (fun r18 mi19 ml20 F => ?_) F)
      refine wp_istore (pc := 86) dX3_playOneDrawn_86 (Nat.le_of_ble_eq_true rfl) rfl ?_
      show wp l M_X3_playOneDrawn (d + 1) 0 0 _ [some (.ref h), some (.ref o1), some (.int x2), some (.int r15), some (.int r4), some (.int (if r4 ≤ 3 then r4 else (r4 - 1))), some (.int (if (if r4 ≤ 3 then r4 else (r4 - 1)) = 4 then (mi5 o1 5) else (mi5 o1 4))), some (.int r18), none] _ 0 0 kd _ _ mr _
      refine wp_iconst (v := -1) (pc := 88) dX3_playOneDrawn_88 (by decide) ?_
      refine wp_istore (pc := 89) dX3_playOneDrawn_89 (Nat.le_of_ble_eq_true rfl) rfl ?_
      show wp l M_X3_playOneDrawn (d + 1) 0 0 _ [some (.ref h), some (.ref o1), some (.int x2), some (.int r15), some (.int r4), some (.int (if r4 ≤ 3 then r4 else (r4 - 1))), some (.int (if (if r4 ≤ 3 then r4 else (r4 - 1)) = 4 then (mi5 o1 5) else (mi5 o1 4))), some (.int r18), some (.int (-1))] _ 0 0 kd _ _ mr _
      refine wp_iload (pc := 91) dX3_playOneDrawn_91 rfl ?_
      refine wp_iconst (v := 3) (pc := 93) dX3_playOneDrawn_93 (by decide) ?_
      refine wp_icmp_lt (tgt := 109) (pc := 94) dX3_playOneDrawn_94 (by decide) (fun c21 => ?_) (fun c21 => ?_)
      · have F := F.1 c21
        exact wp_less (L' := [some (.ref h), some (.ref o1), none, some (.int r15), none, some (.int (if r4 ≤ 3 then r4 else (r4 - 1))), none, some (.int r18), some (.int (-1))]) ⟨rfl, ⟨rfl, ⟨rfl, ⟨rfl, ⟨rfl, ⟨rfl, trivial⟩⟩⟩⟩⟩⟩ F
      · have F := F.2 c21
        refine wp_iload_n (pc := 97) dX3_playOneDrawn_97 rfl ?_
        refine csI [.int r15] [] (pc := 98) dX3_playOneDrawn_98 ml_X3_79 st_X3_nextSeed rfl rfl (Nat.le_of_ble_eq_true rfl) (Nat.le_of_ble_eq_true rfl) (wI.mono (fun r22 mi23 ml24 F => ?_) F)
        refine wp_istore_n (pc := 101) dX3_playOneDrawn_101 (Nat.le_of_ble_eq_true rfl) rfl ?_
        show wp l M_X3_playOneDrawn (d + 1) 0 0 _ [some (.ref h), some (.ref o1), some (.int x2), some (.int r22), some (.int r4), some (.int (if r4 ≤ 3 then r4 else (r4 - 1))), some (.int (if (if r4 ≤ 3 then r4 else (r4 - 1)) = 4 then (mi5 o1 5) else (mi5 o1 4))), some (.int r18), some (.int (-1))] _ 0 0 kd _ _ mr _
        refine wp_iload_n (pc := 102) dX3_playOneDrawn_102 rfl ?_
        refine wp_iconst (v := 4) (pc := 103) dX3_playOneDrawn_103 (by decide) ?_
        refine csI [.int r22, .int 4] [] (pc := 104) dX3_playOneDrawn_104 ml_X3_83 st_X3_drawnBelow rfl rfl (Nat.le_of_ble_eq_true rfl) (Nat.le_of_ble_eq_true rfl) (wI.mono (fun r25 mi26 ml27 F => ?_) F)
        refine wp_istore (pc := 107) dX3_playOneDrawn_107 (Nat.le_of_ble_eq_true rfl) rfl ?_
        show wp l M_X3_playOneDrawn (d + 1) 0 0 _ [some (.ref h), some (.ref o1), some (.int x2), some (.int r22), some (.int r4), some (.int (if r4 ≤ 3 then r4 else (r4 - 1))), some (.int (if (if r4 ≤ 3 then r4 else (r4 - 1)) = 4 then (mi5 o1 5) else (mi5 o1 4))), some (.int r18), some (.int r25)] _ 0 0 kd _ _ mr _
        exact wp_less (L' := [some (.ref h), some (.ref o1), none, some (.int r22), none, some (.int (if r4 ≤ 3 then r4 else (r4 - 1))), none, some (.int r18), some (.int r25)]) ⟨rfl, ⟨rfl, ⟨rfl, ⟨rfl, ⟨rfl, ⟨rfl, trivial⟩⟩⟩⟩⟩⟩ F
    · have F := F.2 c14
      refine wp_iload_n (pc := 73) dX3_playOneDrawn_73 rfl ?_
      exact r_I (pc := 74) dX3_playOneDrawn_74 rfl F
  · have F := F.2 c10
    refine wp_aload_n (pc := 37) dX3_playOneDrawn_37 rfl ?_
    refine wp_aload_n (pc := 38) dX3_playOneDrawn_38 rfl ?_
    refine wp_iload (pc := 39) dX3_playOneDrawn_39 rfl ?_
    refine wp_iconst (v := -1) (pc := 41) dX3_playOneDrawn_41 (by decide) ?_
    refine wp_iconst (v := -1) (pc := 42) dX3_playOneDrawn_42 (by decide) ?_
    refine cvB [.ref o1, .int (if r4 ≤ 3 then r4 else (r4 - 1)), .int (-1), .int (-1)] [] (pc := 43) dX3_playOneDrawn_43 ml_X3_75 iv_X3_act (TX3s_k th) (cl_X3 rfl) rfl rfl (Nat.le_of_ble_eq_true rfl) (Nat.le_of_ble_eq_true rfl) (wB.mono (fun r28 mi29 ml30 F => ?_) F)
    refine wp_pop (pc := 46) dX3_playOneDrawn_46 rfl ?_
    refine wp_iload_n (pc := 47) dX3_playOneDrawn_47 rfl ?_
    exact r_I (pc := 48) dX3_playOneDrawn_48 rfl F
/-- nextSeed(I)I -/
theorem w_X3_nextSeed {l : Launch} {d : Nat} {kd : pm_K} {mr : pm_R}  {x0 : Int32} {mi : pm_I} {ml : pm_L} {K : Int32 → pm_I → pm_L → Prop} 
    (F : K ((x0 * 1103515245) + 12345) mi ml) :
    wI l M_X3_nextSeed d [.int x0] kd mr mi ml K := by
  show wp l M_X3_nextSeed d 0 0 0 [some (.int x0)] [] 0 0 kd mi ml mr _
  refine wp_iload_n (pc := 0) dX3_nextSeed_0 rfl ?_
  refine wp_ldc (v := 1103515245) (pc := 1) dX3_nextSeed_1 (tb_5 132 rfl rfl) ?_
  refine wp_imul (pc := 3) dX3_nextSeed_3 ?_
  refine wp_sipush (v := 12345) (pc := 4) dX3_nextSeed_4 (by decide) ?_
  refine wp_iadd (pc := 7) dX3_nextSeed_7 ?_
  exact r_I (pc := 8) dX3_nextSeed_8 rfl F
/-- drawnBelow(II)I -/
theorem w_X3_drawnBelow {l : Launch} {d : Nat} {kd : pm_K} {mr : pm_R}  {x0 : Int32} {x1 : Int32} {mi : pm_I} {ml : pm_L} {K : Int32 → pm_I → pm_L → Prop} 
    (F : ((1 ≤ x1 → ¬ x1 = 0 ∧ K ((((x0).toUInt32 >>> (Int32.toUInt32 16 &&& Int32.toUInt32 31)).toInt32) - (((x0).toUInt32 >>> (Int32.toUInt32 16 &&& Int32.toUInt32 31)).toInt32) / x1 * x1) mi ml) ∧ (¬ 1 ≤ x1 → K 0 mi ml))) :
    wI l M_X3_drawnBelow d [.int x0, .int x1] kd mr mi ml K := by
  show wp l M_X3_drawnBelow d 0 0 0 [some (.int x0), some (.int x1)] [] 0 0 kd mi ml mr _
  refine wp_iload_n (pc := 0) dX3_drawnBelow_0 rfl ?_
  refine wp_iconst (v := 1) (pc := 1) dX3_drawnBelow_1 (by decide) ?_
  refine wp_icmp_ge (tgt := 9) (pc := 2) dX3_drawnBelow_2 (by decide) (fun c1 => ?_) (fun c1 => ?_)
  · have F := F.1 c1
    refine wp_iload_n (pc := 9) dX3_drawnBelow_9 rfl ?_
    refine wp_bipush (v := 16) (pc := 10) dX3_drawnBelow_10 (by decide) ?_
    refine wp_iushr (pc := 12) dX3_drawnBelow_12 ?_
    refine wp_iload_n (pc := 13) dX3_drawnBelow_13 rfl ?_
    refine wp_irem (pc := 14) dX3_drawnBelow_14 F.1 ?_
    have F := F.2
    exact r_I (pc := 15) dX3_drawnBelow_15 rfl F
  · have F := F.2 c1
    refine wp_iconst (v := 0) (pc := 5) dX3_drawnBelow_5 (by decide) ?_
    refine wp_goto (tgt := 15) (pc := 6) dX3_drawnBelow_6 (by decide) ?_
    exact r_I (pc := 15) dX3_drawnBelow_15 rfl F
def c_X1_loudest_57 (l : Launch) (d : Nat) (kd : pm_K) (mr : pm_R) (h : Nat) (o1 : Nat) (x2 : Int32) (x3 : Int64) (x5 : Int32) (x6 : Int32) (x7 : Int32) (mi : pm_I) (ml : pm_L) (K : Int32 → pm_I → pm_L → Prop) : Prop := wp l M_X1_loudest d 0 0 57 [some (.ref h), some (.ref o1), some (.int x2), some (.long x3), none, some (.int x5), some (.int x6), some (.int x7), none] [] 0 0 kd mi ml mr (qI kd mr K)
def c_X1_loudest_14 (l : Launch) (d : Nat) (kd : pm_K) (mr : pm_R) (h : Nat) (o1 : Nat) (x2 : Int32) (x3 : Int64) (x5 : Int32) (x6 : Int32) (x7 : Int32) (mi : pm_I) (ml : pm_L) (K : Int32 → pm_I → pm_L → Prop) : Prop := wp l M_X1_loudest d 0 0 14 [some (.ref h), some (.ref o1), some (.int x2), some (.long x3), none, some (.int x5), some (.int x6), some (.int x7), none] [] 0 0 kd mi ml mr (qI kd mr K)
theorem w_X1_loudest_14 {l : Launch} {d : Nat} {kd : pm_K} {mr : pm_R} {h : Nat} {o1 : Nat} {x2 : Int32} {x3 : Int64} {x5 : Int32} {x6 : Int32} {x7 : Int32} {mi : pm_I} {ml : pm_L} {K : Int32 → pm_I → pm_L → Prop} (th : TX1s kd mr h) (to1 : TX0s kd mr o1)
    (F : ((64 ≤ x7 → ((x2 = 0 → wI l M_X0_cellOf d [.ref o1, .int x5] kd mr mi ml (fun r6 mi7 ml8 => K r6 mi7 ml8)) ∧ (¬ x2 = 0 → K x6 mi ml))) ∧ (¬ 64 ≤ x7 → vp_in x7 64 ∧ wI l M_J6_bitCount_0f7a4 d [.int (mi (h + 4) (Int32.toNatClampNeg x7))] kd mr mi ml (fun r9 mi10 ml11 => wB l M_X11_has d [.long x3, .int x7] kd mr mi10 ml11 (fun r12 mi13 ml14 => ((r12 = false → c_X1_loudest_57 l (d + 1) kd mr h o1 x2 x3 x5 x6 x7 mi13 ml14 K) ∧ (r12 = true → ((r9 ≤ x6 → c_X1_loudest_57 l (d + 1) kd mr h o1 x2 x3 x5 x6 x7 mi13 ml14 K) ∧ (¬ r9 ≤ x6 → c_X1_loudest_57 l (d + 1) kd mr h o1 x2 x3 x7 r9 x7 mi13 ml14 K))))))))) :
    c_X1_loudest_14 l (d + 1) kd mr h o1 x2 x3 x5 x6 x7 mi ml K := by
  show wp l M_X1_loudest (d + 1) 0 0 14 [some (.ref h), some (.ref o1), some (.int x2), some (.long x3), none, some (.int x5), some (.int x6), some (.int x7), none] [] 0 0 kd mi ml mr _
  refine wp_iload (pc := 14) dX1_loudest_14 rfl ?_
  refine wp_bipush (v := 64) (pc := 16) dX1_loudest_16 (by decide) ?_
  refine wp_icmp_ge (tgt := 63) (pc := 18) dX1_loudest_18 (by decide) (fun c4 => ?_) (fun c4 => ?_)
  · have F := F.1 c4
    refine wp_iload_n (pc := 63) dX1_loudest_63 rfl ?_
    refine wp_if_eq (tgt := 72) (pc := 64) dX1_loudest_64 (by decide) (fun c5 => ?_) (fun c5 => ?_)
    · have F := F.1 c5
      refine wp_aload_n (pc := 72) dX1_loudest_72 rfl ?_
      refine wp_iload (pc := 73) dX1_loudest_73 rfl ?_
      refine cvI [.int x5] [] (pc := 75) dX1_loudest_75 ml_X1_84 iv_X0_cellOf (TX0s_k to1) (cl_X0 rfl) rfl rfl (Nat.le_of_ble_eq_true rfl) (Nat.le_of_ble_eq_true rfl) (wI.mono (fun r6 mi7 ml8 F => ?_) F)
      exact r_I (pc := 78) dX1_loudest_78 rfl F
    · have F := F.2 c5
      refine wp_iload (pc := 67) dX1_loudest_67 rfl ?_
      refine wp_goto (tgt := 78) (pc := 69) dX1_loudest_69 (by decide) ?_
      exact r_I (pc := 78) dX1_loudest_78 rfl F
  · have F := F.2 c4
    refine wp_aload_n (pc := 21) dX1_loudest_21 rfl ?_
    refine wp_getR (pc := 22) dX1_loudest_22 fl_X1_22 rfl (TX1s_k th) (TX1s_r2 th) ?_
    refine wp_iload (pc := 25) dX1_loudest_25 rfl ?_
    refine wp_iald (pc := 27) dX1_loudest_27 (TX1s_a2 th) F.1 ?_
    have F := F.2
    refine csI [.int (mi (h + 4) (Int32.toNatClampNeg x7))] [] (pc := 28) dX1_loudest_28 ml_X1_64 st_J6_bitCount_0f7a4 rfl rfl (Nat.le_of_ble_eq_true rfl) (Nat.le_of_ble_eq_true rfl) (wI.mono (fun r9 mi10 ml11 F => ?_) F)
    refine wp_istore (pc := 31) dX1_loudest_31 (Nat.le_of_ble_eq_true rfl) rfl ?_
    show wp l M_X1_loudest (d + 1) 0 0 _ [some (.ref h), some (.ref o1), some (.int x2), some (.long x3), none, some (.int x5), some (.int x6), some (.int x7), some (.int r9)] _ 0 0 kd _ _ mr _
    refine wp_lload_n (pc := 33) dX1_loudest_33 rfl ?_
    refine wp_iload (pc := 34) dX1_loudest_34 rfl ?_
    refine csB [.long x3, .int x7] [] (pc := 36) dX1_loudest_36 ml_X1_52 st_X11_has rfl rfl (Nat.le_of_ble_eq_true rfl) (Nat.le_of_ble_eq_true rfl) (wB.mono (fun r12 mi13 ml14 F => ?_) F)
    refine b_eq (tgt := 57) (pc := 39) dX1_loudest_39 (by decide) (fun c15 => ?_) (fun c15 => ?_)
    · have F := F.1 c15
      exact wp_less (L' := [some (.ref h), some (.ref o1), some (.int x2), some (.long x3), none, some (.int x5), some (.int x6), some (.int x7), none]) ⟨rfl, ⟨rfl, ⟨rfl, ⟨rfl, ⟨rfl, ⟨rfl, ⟨rfl, trivial⟩⟩⟩⟩⟩⟩⟩ F
    · have F := F.2 c15
      refine wp_iload (pc := 42) dX1_loudest_42 rfl ?_
      refine wp_iload (pc := 44) dX1_loudest_44 rfl ?_
      refine wp_icmp_le (tgt := 57) (pc := 46) dX1_loudest_46 (by decide) (fun c16 => ?_) (fun c16 => ?_)
      · have F := F.1 c16
        exact wp_less (L' := [some (.ref h), some (.ref o1), some (.int x2), some (.long x3), none, some (.int x5), some (.int x6), some (.int x7), none]) ⟨rfl, ⟨rfl, ⟨rfl, ⟨rfl, ⟨rfl, ⟨rfl, ⟨rfl, trivial⟩⟩⟩⟩⟩⟩⟩ F
      · have F := F.2 c16
        refine wp_iload (pc := 49) dX1_loudest_49 rfl ?_
        refine wp_istore (pc := 51) dX1_loudest_51 (Nat.le_of_ble_eq_true rfl) rfl ?_
        show wp l M_X1_loudest (d + 1) 0 0 _ [some (.ref h), some (.ref o1), some (.int x2), some (.long x3), none, some (.int x5), some (.int r9), some (.int x7), some (.int r9)] _ 0 0 kd _ _ mr _
        refine wp_iload (pc := 53) dX1_loudest_53 rfl ?_
        refine wp_istore (pc := 55) dX1_loudest_55 (Nat.le_of_ble_eq_true rfl) rfl ?_
        show wp l M_X1_loudest (d + 1) 0 0 _ [some (.ref h), some (.ref o1), some (.int x2), some (.long x3), none, some (.int x7), some (.int r9), some (.int x7), some (.int r9)] _ 0 0 kd _ _ mr _
        exact wp_less (L' := [some (.ref h), some (.ref o1), some (.int x2), some (.long x3), none, some (.int x7), some (.int r9), some (.int x7), none]) ⟨rfl, ⟨rfl, ⟨rfl, ⟨rfl, ⟨rfl, ⟨rfl, ⟨rfl, trivial⟩⟩⟩⟩⟩⟩⟩ F
theorem w_X1_loudest_57 {l : Launch} {d : Nat} {kd : pm_K} {mr : pm_R} {h : Nat} {o1 : Nat} {x2 : Int32} {x3 : Int64} {x5 : Int32} {x6 : Int32} {x7 : Int32} {mi : pm_I} {ml : pm_L} {K : Int32 → pm_I → pm_L → Prop} (th : TX1s kd mr h) (to1 : TX0s kd mr o1)
    (F : c_X1_loudest_14 l (d + 1) kd mr h o1 x2 x3 x5 x6 (x7 + 1) mi ml K) :
    c_X1_loudest_57 l (d + 1) kd mr h o1 x2 x3 x5 x6 x7 mi ml K := by
  show wp l M_X1_loudest (d + 1) 0 0 57 [some (.ref h), some (.ref o1), some (.int x2), some (.long x3), none, some (.int x5), some (.int x6), some (.int x7), none] [] 0 0 kd mi ml mr _
  refine wp_iinc (v := (x7 + 1)) (pc := 57) dX1_loudest_57 rfl rfl rfl ?_
  show wp l M_X1_loudest (d + 1) 0 0 _ [some (.ref h), some (.ref o1), some (.int x2), some (.long x3), none, some (.int x5), some (.int x6), some (.int (x7 + 1)), none] _ 0 0 kd _ _ mr _
  refine wp_goto (tgt := 14) (pc := 60) dX1_loudest_60 (by decide) ?_
  exact wp_less (L' := [some (.ref h), some (.ref o1), some (.int x2), some (.long x3), none, some (.int x5), some (.int x6), some (.int (x7 + 1)), none]) ⟨rfl, ⟨rfl, ⟨rfl, ⟨rfl, ⟨rfl, ⟨rfl, ⟨rfl, trivial⟩⟩⟩⟩⟩⟩⟩ F
/-- loudest(LCityChords$City;Z)I -/
theorem w_X1_loudest {l : Launch} {d : Nat} {kd : pm_K} {mr : pm_R} {h : Nat} {o1 : Nat} {x2 : Bool} {mi : pm_I} {ml : pm_L} {K : Int32 → pm_I → pm_L → Prop} (th : TX1s kd mr h) (to1 : TX0s kd mr o1)
    (F : wL l M_X0_inside d [.ref o1] kd mr mi ml (fun r1 mi2 ml3 => c_X1_loudest_14 l (d + 1) kd mr h o1 (b2i x2) r1 0 (-1) 0 mi2 ml3 K)) :
    wI l M_X1_loudest (d + 1) [.ref h, .ref o1, .int (b2i x2)] kd mr mi ml K := by
  show wp l M_X1_loudest (d + 1) 0 0 0 [some (.ref h), some (.ref o1), some (.int (b2i x2)), none, none, none, none, none, none] [] 0 0 kd mi ml mr _
  refine wp_aload_n (pc := 0) dX1_loudest_0 rfl ?_
  refine cvL [] [] (pc := 1) dX1_loudest_1 ml_X1_96 iv_X0_inside (TX0s_k to1) (cl_X0 rfl) rfl rfl (Nat.le_of_ble_eq_true rfl) (Nat.le_of_ble_eq_true rfl) (wL.mono (fun r1 mi2 ml3 F => ?_) F)
  refine wp_lstore_n (pc := 4) dX1_loudest_4 (Nat.le_of_ble_eq_true rfl) rfl ?_
  show wp l M_X1_loudest (d + 1) 0 0 _ [some (.ref h), some (.ref o1), some (.int (b2i x2)), some (.long r1), none, none, none, none, none] _ 0 0 kd _ _ mr _
  refine wp_iconst (v := 0) (pc := 5) dX1_loudest_5 (by decide) ?_
  refine wp_istore (pc := 6) dX1_loudest_6 (Nat.le_of_ble_eq_true rfl) rfl ?_
  show wp l M_X1_loudest (d + 1) 0 0 _ [some (.ref h), some (.ref o1), some (.int (b2i x2)), some (.long r1), none, some (.int 0), none, none, none] _ 0 0 kd _ _ mr _
  refine wp_iconst (v := -1) (pc := 8) dX1_loudest_8 (by decide) ?_
  refine wp_istore (pc := 9) dX1_loudest_9 (Nat.le_of_ble_eq_true rfl) rfl ?_
  show wp l M_X1_loudest (d + 1) 0 0 _ [some (.ref h), some (.ref o1), some (.int (b2i x2)), some (.long r1), none, some (.int 0), some (.int (-1)), none, none] _ 0 0 kd _ _ mr _
  refine wp_iconst (v := 0) (pc := 11) dX1_loudest_11 (by decide) ?_
  refine wp_istore (pc := 12) dX1_loudest_12 (Nat.le_of_ble_eq_true rfl) rfl ?_
  show wp l M_X1_loudest (d + 1) 0 0 _ [some (.ref h), some (.ref o1), some (.int (b2i x2)), some (.long r1), none, some (.int 0), some (.int (-1)), some (.int 0), none] _ 0 0 kd _ _ mr _
  exact wp_less (L' := [some (.ref h), some (.ref o1), some (.int (b2i x2)), some (.long r1), none, some (.int 0), some (.int (-1)), some (.int 0), none]) ⟨rfl, ⟨rfl, ⟨rfl, ⟨rfl, ⟨rfl, ⟨rfl, ⟨rfl, trivial⟩⟩⟩⟩⟩⟩⟩ F
def c_X1_whoHearsNothing_4 (l : Launch) (d : Nat) (kd : pm_K) (mr : pm_R) (h : Nat) (o1 : Nat) (x2 : Int32) (x3 : Int32) (mi : pm_I) (ml : pm_L) (K : Int32 → pm_I → pm_L → Prop) : Prop := wp l M_X1_whoHearsNothing d 0 0 4 [some (.ref h), some (.ref o1), some (.int x2), some (.int x3)] [] 0 0 kd mi ml mr (qI kd mr K)
theorem w_X1_whoHearsNothing_4 {l : Launch} {d : Nat} {kd : pm_K} {mr : pm_R} {h : Nat} {o1 : Nat} {x2 : Int32} {x3 : Int32} {mi : pm_I} {ml : pm_L} {K : Int32 → pm_I → pm_L → Prop} (th : TX1s kd mr h) (to1 : TX0s kd mr o1)
    (F : (((mi o1 5) ≤ x3 → K x2 mi ml) ∧ (¬ (mi o1 5) ≤ x3 → vp_in x3 6 ∧ vp_in (mi (o1 + 4) (Int32.toNatClampNeg x3)) 64 ∧ c_X1_whoHearsNothing_4 l d kd mr h o1 (if (mi (h + 4) (Int32.toNatClampNeg (mi (o1 + 4) (Int32.toNatClampNeg x3)))) = 0 then (x2 ||| ((1 : Int32) <<< (x3 &&& 31))) else x2) (x3 + 1) mi ml K))) :
    c_X1_whoHearsNothing_4 l d kd mr h o1 x2 x3 mi ml K := by
  show wp l M_X1_whoHearsNothing d 0 0 4 [some (.ref h), some (.ref o1), some (.int x2), some (.int x3)] [] 0 0 kd mi ml mr _
  refine wp_iload_n (pc := 4) dX1_whoHearsNothing_4 rfl ?_
  refine wp_aload_n (pc := 5) dX1_whoHearsNothing_5 rfl ?_
  refine wp_getI (pc := 6) dX1_whoHearsNothing_6 fl_X1_99 rfl (TX0s_k to1) ?_
  refine wp_icmp_ge (tgt := 38) (pc := 9) dX1_whoHearsNothing_9 (by decide) (fun c1 => ?_) (fun c1 => ?_)
  · have F := F.1 c1
    refine wp_iload_n (pc := 38) dX1_whoHearsNothing_38 rfl ?_
    exact r_I (pc := 39) dX1_whoHearsNothing_39 rfl F
  · have F := F.2 c1
    refine wp_aload_n (pc := 12) dX1_whoHearsNothing_12 rfl ?_
    refine wp_getR (pc := 13) dX1_whoHearsNothing_13 fl_X1_22 rfl (TX1s_k th) (TX1s_r2 th) ?_
    refine wp_aload_n (pc := 16) dX1_whoHearsNothing_16 rfl ?_
    refine wp_getR (pc := 17) dX1_whoHearsNothing_17 fl_X1_102 rfl (TX0s_k to1) (TX0s_r9 to1) ?_
    refine wp_iload_n (pc := 20) dX1_whoHearsNothing_20 rfl ?_
    refine wp_iald (pc := 21) dX1_whoHearsNothing_21 (TX0s_a9 to1) F.1 ?_
    have F := F.2
    refine wp_iald (pc := 22) dX1_whoHearsNothing_22 (TX1s_a2 th) F.1 ?_
    have F := F.2
    suffices J2 : ∀ v3 : Int32, v3 = (if (mi (h + 4) (Int32.toNatClampNeg (mi (o1 + 4) (Int32.toNatClampNeg x3)))) = 0 then (x2 ||| ((1 : Int32) <<< (x3 &&& 31))) else x2) → wp l M_X1_whoHearsNothing d 0 0 32 [some (.ref h), some (.ref o1), some (.int v3), some (.int x3)] [] 0 0 kd mi ml mr _ by
        refine wp_if_ne (tgt := 32) (pc := 23) dX1_whoHearsNothing_23 (by decide) (fun c4 => ?_) (fun c4 => ?_)
        · exact J2 _ (by simp only [c4, if_true, if_false, decide_true, decide_false, Bool.not_true, Bool.not_false, Bool.true_and, Bool.false_and, Bool.true_or, Bool.false_or, b2i_t, b2i_f, ite_true, ite_false, not_true_eq_false, not_false_eq_true, reduceCtorEq, decide_eq_true_eq])
        · refine wp_iload_n (pc := 26) dX1_whoHearsNothing_26 rfl ?_
          refine wp_iconst (v := 1) (pc := 27) dX1_whoHearsNothing_27 (by decide) ?_
          refine wp_iload_n (pc := 28) dX1_whoHearsNothing_28 rfl ?_
          refine wp_ishl (pc := 29) dX1_whoHearsNothing_29 ?_
          refine wp_ior (pc := 30) dX1_whoHearsNothing_30 ?_
          refine wp_istore_n (pc := 31) dX1_whoHearsNothing_31 (Nat.le_of_ble_eq_true rfl) rfl ?_
          exact J2 _ (by simp only [eq_true c4, if_true, if_false, decide_true, decide_false, Bool.not_true, Bool.not_false, Bool.true_and, Bool.false_and, Bool.true_or, Bool.false_or, b2i_t, b2i_f, ite_true, ite_false, not_true_eq_false, not_false_eq_true, reduceCtorEq, decide_eq_true_eq])
    intro v3 ev3
    subst ev3
    refine wp_iinc (v := (x3 + 1)) (pc := 32) dX1_whoHearsNothing_32 rfl rfl rfl ?_
    show wp l M_X1_whoHearsNothing d 0 0 _ [some (.ref h), some (.ref o1), some (.int (if (mi (h + 4) (Int32.toNatClampNeg (mi (o1 + 4) (Int32.toNatClampNeg x3)))) = 0 then (x2 ||| ((1 : Int32) <<< (x3 &&& 31))) else x2)), some (.int (x3 + 1))] _ 0 0 kd _ _ mr _
    refine wp_goto (tgt := 4) (pc := 35) dX1_whoHearsNothing_35 (by decide) ?_
    exact wp_less (L' := [some (.ref h), some (.ref o1), some (.int (if (mi (h + 4) (Int32.toNatClampNeg (mi (o1 + 4) (Int32.toNatClampNeg x3)))) = 0 then (x2 ||| ((1 : Int32) <<< (x3 &&& 31))) else x2)), some (.int (x3 + 1))]) ⟨rfl, ⟨rfl, ⟨rfl, ⟨rfl, trivial⟩⟩⟩⟩ F
/-- whoHearsNothing(LCityChords$City;)I -/
theorem w_X1_whoHearsNothing {l : Launch} {d : Nat} {kd : pm_K} {mr : pm_R} {h : Nat} {o1 : Nat}  {mi : pm_I} {ml : pm_L} {K : Int32 → pm_I → pm_L → Prop} (th : TX1s kd mr h) (to1 : TX0s kd mr o1)
    (F : c_X1_whoHearsNothing_4 l d kd mr h o1 0 0 mi ml K) :
    wI l M_X1_whoHearsNothing d [.ref h, .ref o1] kd mr mi ml K := by
  show wp l M_X1_whoHearsNothing d 0 0 0 [some (.ref h), some (.ref o1), none, none] [] 0 0 kd mi ml mr _
  refine wp_iconst (v := 0) (pc := 0) dX1_whoHearsNothing_0 (by decide) ?_
  refine wp_istore_n (pc := 1) dX1_whoHearsNothing_1 (Nat.le_of_ble_eq_true rfl) rfl ?_
  show wp l M_X1_whoHearsNothing d 0 0 _ [some (.ref h), some (.ref o1), some (.int 0), none] _ 0 0 kd _ _ mr _
  refine wp_iconst (v := 0) (pc := 2) dX1_whoHearsNothing_2 (by decide) ?_
  refine wp_istore_n (pc := 3) dX1_whoHearsNothing_3 (Nat.le_of_ble_eq_true rfl) rfl ?_
  show wp l M_X1_whoHearsNothing d 0 0 _ [some (.ref h), some (.ref o1), some (.int 0), some (.int 0)] _ 0 0 kd _ _ mr _
  exact wp_less (L' := [some (.ref h), some (.ref o1), some (.int 0), some (.int 0)]) ⟨rfl, ⟨rfl, ⟨rfl, ⟨rfl, trivial⟩⟩⟩⟩ F
