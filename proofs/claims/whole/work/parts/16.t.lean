/-- hears(III)I -/
theorem w_X11_hears {l : Launch} {d : Nat} {kd : pm_K} {mr : pm_R} {h : Nat} {x1 : Int32} {x2 : Int32} {x3 : Int32} {mi : pm_I} {ml : pm_L} {K : Int32 → pm_I → pm_L → Prop} (th : TX11s kd mr h)
    (F : wR l M_X9_cityAt d [.ref (h + 1), .int x1] kd mr mi ml (fun r1 mi2 ml3 => ((r1 = none → K (-1) mi2 ml3) ∧ (∀ b4, r1 = some b4 → TX0s kd mr b4 ∧ wB l M_X0_hasPlayer d [.ref b4, .int x2] kd mr mi2 ml3 (fun r5 mi6 ml7 => ((r5 = true → wI l M_X0_spotOf d [.ref b4, .int x3] kd mr mi6 ml7 (fun r9 mi10 ml11 => ((¬ r9 = (-1) → vp_in x2 6 ∧ wI l M_X7_cost d [.ref (h + 200), .ref b4, .int (mi10 (b4 + 2) (Int32.toNatClampNeg x2)), .int r9] kd mr mi10 ml11 (fun r13 mi14 ml15 => K r13 mi14 ml15)) ∧ (r9 = (-1) → K (-1) mi10 ml11)))) ∧ (r5 = false → K (-1) mi6 ml7))))))) :
    wI l M_X11_hears (d + 1) [.ref h, .int x1, .int x2, .int x3] kd mr mi ml K := by
  show wp l M_X11_hears (d + 1) 0 0 0 [some (.ref h), some (.int x1), some (.int x2), some (.int x3), none, none] [] 0 0 kd mi ml mr _
  refine wp_aload_n (pc := 0) dX11_hears_0 rfl ?_
  refine wp_getR (pc := 1) dX11_hears_1 fl_X11_10 rfl (TX11s_k th) (TX11s_r0 th) ?_
  refine wp_iload_n (pc := 4) dX11_hears_4 rfl ?_
  refine cvR [.int x1] [] (pc := 5) dX11_hears_5 ml_X11_109 iv_X9_cityAt (TX9s_k (TX11s_a0 th)) (cl_X9 rfl) rfl rfl (Nat.le_of_ble_eq_true rfl) (Nat.le_of_ble_eq_true rfl) (wR.mono (fun r1 mi2 ml3 F => ?_) F)
  cases r1 with
  | none =>
      have F := F.1 rfl
      show wp l M_X11_hears (d + 1) 0 0 _ _ (.null :: _) 0 0 kd _ _ mr _
      refine wp_astoreN (pc := 8) dX11_hears_8 (Nat.le_of_ble_eq_true rfl) rfl ?_
      show wp l M_X11_hears (d + 1) 0 0 _ [some (.ref h), some (.int x1), some (.int x2), some (.int x3), some (.null), none] _ 0 0 kd _ _ mr _
      refine wp_aloadN (pc := 10) dX11_hears_10 rfl ?_
      refine wp_ifnullN (tgt := 24) (pc := 12) dX11_hears_12 (by decide) ?_
      refine wp_iconst (v := -1) (pc := 24) dX11_hears_24 (by decide) ?_
      exact r_I (pc := 25) dX11_hears_25 rfl F
  | some b4 =>
      obtain ⟨tb4, F⟩ := F.2 b4 rfl
      show wp l M_X11_hears (d + 1) 0 0 _ _ (.ref b4 :: _) 0 0 kd _ _ mr _
      refine wp_astore (pc := 8) dX11_hears_8 (Nat.le_of_ble_eq_true rfl) rfl ?_
      show wp l M_X11_hears (d + 1) 0 0 _ [some (.ref h), some (.int x1), some (.int x2), some (.int x3), some (.ref b4), none] _ 0 0 kd _ _ mr _
      refine wp_aload (pc := 10) dX11_hears_10 rfl ?_
      refine wp_ifnull (pc := 12) dX11_hears_12 ?_
      refine wp_aload (pc := 15) dX11_hears_15 rfl ?_
      refine wp_iload_n (pc := 17) dX11_hears_17 rfl ?_
      refine cvB [.int x2] [] (pc := 18) dX11_hears_18 ml_X11_137 iv_X0_hasPlayer (TX0s_k tb4) (cl_X0 rfl) rfl rfl (Nat.le_of_ble_eq_true rfl) (Nat.le_of_ble_eq_true rfl) (wB.mono (fun r5 mi6 ml7 F => ?_) F)
      refine b_ne (tgt := 26) (pc := 21) dX11_hears_21 (by decide) (fun c8 => ?_) (fun c8 => ?_)
      · have F := F.1 c8
        refine wp_aload (pc := 26) dX11_hears_26 rfl ?_
        refine wp_iload_n (pc := 28) dX11_hears_28 rfl ?_
        refine cvI [.int x3] [] (pc := 29) dX11_hears_29 ml_X11_141 iv_X0_spotOf (TX0s_k tb4) (cl_X0 rfl) rfl rfl (Nat.le_of_ble_eq_true rfl) (Nat.le_of_ble_eq_true rfl) (wI.mono (fun r9 mi10 ml11 F => ?_) F)
        refine wp_istore (pc := 32) dX11_hears_32 (Nat.le_of_ble_eq_true rfl) rfl ?_
        show wp l M_X11_hears (d + 1) 0 0 _ [some (.ref h), some (.int x1), some (.int x2), some (.int x3), some (.ref b4), some (.int r9)] _ 0 0 kd _ _ mr _
        refine wp_iload (pc := 34) dX11_hears_34 rfl ?_
        refine wp_iconst (v := -1) (pc := 36) dX11_hears_36 (by decide) ?_
        refine wp_icmp_ne (tgt := 44) (pc := 37) dX11_hears_37 (by decide) (fun c12 => ?_) (fun c12 => ?_)
        · have F := F.1 c12
          refine wp_aload_n (pc := 44) dX11_hears_44 rfl ?_
          refine wp_getR (pc := 45) dX11_hears_45 fl_X11_34 rfl (TX11s_k th) (TX11s_r4 th) ?_
          refine wp_aload (pc := 48) dX11_hears_48 rfl ?_
          refine wp_aload (pc := 50) dX11_hears_50 rfl ?_
          refine wp_getR (pc := 52) dX11_hears_52 fl_X11_144 rfl (TX0s_k tb4) (TX0s_r7 tb4) ?_
          refine wp_iload_n (pc := 55) dX11_hears_55 rfl ?_
          refine wp_iald (pc := 56) dX11_hears_56 (TX0s_a7 tb4) F.1 ?_
          have F := F.2
          refine wp_iload (pc := 57) dX11_hears_57 rfl ?_
          refine cvI [.ref b4, .int (mi10 (b4 + 2) (Int32.toNatClampNeg x2)), .int r9] [] (pc := 59) dX11_hears_59 ml_X11_147 iv_X7_cost (TX7s_k (TX11s_a4 th)) (cl_X7 rfl) rfl rfl (Nat.le_of_ble_eq_true rfl) (Nat.le_of_ble_eq_true rfl) (wI.mono (fun r13 mi14 ml15 F => ?_) F)
          exact r_I (pc := 62) dX11_hears_62 rfl F
        · have F := F.2 c12
          refine wp_iconst (v := -1) (pc := 40) dX11_hears_40 (by decide) ?_
          refine wp_goto (tgt := 62) (pc := 41) dX11_hears_41 (by decide) ?_
          exact r_I (pc := 62) dX11_hears_62 rfl F
      · have F := F.2 c8
        refine wp_iconst (v := -1) (pc := 24) dX11_hears_24 (by decide) ?_
        exact r_I (pc := 25) dX11_hears_25 rfl F
