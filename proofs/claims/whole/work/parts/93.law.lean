/-! the law, case by case (gen/mk41.py) -/
section QF
variable {l : Launch} {N : Nat} {scr : Nat → Int32} {M' : pm_M} {pc i n : Nat} {L : List (Option Value)} {S As rest : List Value} {cs ss : Nat} {kd : pm_K} {mi : pm_I} {ml : pm_L} {mr : pm_R}
theorem qvI (As rest : List Value) (hd : decode M_L.2.1 pc = .ok (.invokevirtual i, 3)) (hml : pm_ml M_L.1.cls i M' n) (hV : pm_mlV M') {b ci : Nat} (hkb : kd[b]? = some (0, ci)) (hcl : pm_cls M' ci) (hS9 : S = As.reverse ++ .ref b :: rest) (hn9 : As.length = n) (hw : pm_wd (.ref b :: As) ≤ M'.2.2.1) (hrest : pm_wd rest ≤ 8) (hc : cs ≤ 600000 ∧ ss ≤ 7302250) (kc : wI l M' 13 (.ref b :: As) kd mr mi ml (fun x mi' ml' => wq l N scr (pc + 3) L (.int x :: rest) cs ss kd mi' ml' mr)) : wq l N scr pc L S cs ss kd mi ml mr :=
  wq_callV hd hml hV hkb hcl hS9 hn9 hw hrest (Nat.lt_succ_self 13) hc kc (fun r kd' mi' ml' mr' ⟨x, e1, e2, e3, e4⟩ _ => by subst e1; subst e2; subst e3; exact e4)
theorem qvB (As rest : List Value) (hd : decode M_L.2.1 pc = .ok (.invokevirtual i, 3)) (hml : pm_ml M_L.1.cls i M' n) (hV : pm_mlV M') {b ci : Nat} (hkb : kd[b]? = some (0, ci)) (hcl : pm_cls M' ci) (hS9 : S = As.reverse ++ .ref b :: rest) (hn9 : As.length = n) (hw : pm_wd (.ref b :: As) ≤ M'.2.2.1) (hrest : pm_wd rest ≤ 8) (hc : cs ≤ 600000 ∧ ss ≤ 7302250) (kc : wB l M' 13 (.ref b :: As) kd mr mi ml (fun x mi' ml' => wq l N scr (pc + 3) L (.int (b2i x) :: rest) cs ss kd mi' ml' mr)) : wq l N scr pc L S cs ss kd mi ml mr :=
  wq_callV hd hml hV hkb hcl hS9 hn9 hw hrest (Nat.lt_succ_self 13) hc kc (fun r kd' mi' ml' mr' ⟨x, e1, e2, e3, e4⟩ _ => by subst e1; subst e2; subst e3; exact e4)
theorem qb_eq {b : Bool} {off : Int} {tgt : Nat} (hd : decode M_L.2.1 pc = .ok (.ifCond .eq off, 3)) (ht : (pc : Int) + off = (tgt : Int)) (kt : b = false → wq l N scr tgt L S cs ss kd mi ml mr) (kf : b = true → wq l N scr (pc + 3) L S cs ss kd mi ml mr) : wq l N scr pc L (.int (b2i b) :: S) cs ss kd mi ml mr :=
  wq_if_eq hd ht (fun z => kt (by cases b; rfl; exact absurd z (by decide))) (fun z => kf (by cases b; exact absurd rfl z; rfl))
theorem qb_ne {b : Bool} {off : Int} {tgt : Nat} (hd : decode M_L.2.1 pc = .ok (.ifCond .ne off, 3)) (ht : (pc : Int) + off = (tgt : Int)) (kt : b = true → wq l N scr tgt L S cs ss kd mi ml mr) (kf : b = false → wq l N scr (pc + 3) L S cs ss kd mi ml mr) : wq l N scr pc L (.int (b2i b) :: S) cs ss kd mi ml mr :=
  wq_if_ne hd ht (fun z => kt (by cases b; exact absurd rfl z; rfl)) (fun z => kf (by cases b; rfl; exact absurd z (by decide)))
end QF
def c_L_law_1352 (l : Launch) (N : Nat) (scr : Nat → Int32) (cs ss : Nat) (kd : pm_K) (mr : pm_R) (x z : Nat) (x3 : Int32) (mi : pm_I) (ml : pm_L) : Prop := wq l N scr 1352 [some (.retAddr 8), some (.ref x), some (.ref z), some (.int x3)] [] cs ss kd mi ml mr
def c_L_law_18 (l : Launch) (N : Nat) (scr : Nat → Int32) (cs ss : Nat) (kd : pm_K) (mr : pm_R) (x z : Nat) (x3 : Int32) (mi : pm_I) (ml : pm_L) : Prop := wq l N scr 18 [some (.retAddr 8), some (.ref x), some (.ref z), some (.int x3)] [] cs ss kd mi ml mr
theorem w_L_law_18 {l : Launch} {N : Nat} {scr : Nat → Int32} {cs ss : Nat} {kd : pm_K} {mr : pm_R} {x z : Nat} {x3 : Int32} {mi : pm_I} {ml : pm_L} (tx : TX11s kd mr x) (tz : TX12s kd mr z) (hc : cs ≤ 600000 ∧ ss ≤ 7302250)
    (F : ((((Int32.ofNat N) - 6) < x3 → True) ∧ (¬ ((Int32.ofNat N) - 6) < x3 → vp_in x3 N ∧ (((((scr (Int32.toNatClampNeg x3)) &&& 31)).toInt < 0 ∨ 29 < (((scr (Int32.toNatClampNeg x3)) &&& 31)).toInt → c_L_law_1352 l N scr cs ss kd mr x z x3 mi ml) ∧ ((((scr (Int32.toNatClampNeg x3)) &&& 31)).toInt = 0 → vp_in (x3 + 1) N ∧ vp_in (x3 + 2) N ∧ vp_in (x3 + 3) N ∧ vp_in (x3 + 4) N ∧ vp_in (x3 + 5) N ∧ wI l M_X11_feed 13 [.ref x, .int (scr (Int32.toNatClampNeg (x3 + 1))), .int (scr (Int32.toNatClampNeg (x3 + 2))), .int (scr (Int32.toNatClampNeg (x3 + 3))), .int (scr (Int32.toNatClampNeg (x3 + 4))), .int (scr (Int32.toNatClampNeg (x3 + 5)))] kd mr mi ml (fun r3 mi4 ml5 => vp_in (x3 + 1) N ∧ vp_in (x3 + 2) N ∧ vp_in (x3 + 3) N ∧ vp_in (x3 + 4) N ∧ vp_in (x3 + 5) N ∧ wI l M_X12_feed 13 [.ref z, .int (scr (Int32.toNatClampNeg (x3 + 1))), .int (scr (Int32.toNatClampNeg (x3 + 2))), .int (scr (Int32.toNatClampNeg (x3 + 3))), .int (scr (Int32.toNatClampNeg (x3 + 4))), .int (scr (Int32.toNatClampNeg (x3 + 5)))] kd mr mi4 ml5 (fun r6 mi7 ml8 => ((r3 = r6 → c_L_law_1352 l N scr cs ss kd mr x z x3 mi7 ml8) ∧ (¬ r3 = r6 → False))))) ∧ ((((scr (Int32.toNatClampNeg x3)) &&& 31)).toInt = 1 → vp_in (x3 + 1) N ∧ wI l M_X11_end 13 [.ref x, .int (scr (Int32.toNatClampNeg (x3 + 1)))] kd mr mi ml (fun r10 mi11 ml12 => vp_in (x3 + 1) N ∧ wI l M_X12_end 13 [.ref z, .int (scr (Int32.toNatClampNeg (x3 + 1)))] kd mr mi11 ml12 (fun r13 mi14 ml15 => ((r10 = r13 → c_L_law_1352 l N scr cs ss kd mr x z x3 mi14 ml15) ∧ (¬ r10 = r13 → False))))) ∧ ((((scr (Int32.toNatClampNeg x3)) &&& 31)).toInt = 2 → vp_in (x3 + 1) N ∧ vp_in (x3 + 2) N ∧ wI l M_X11_text 13 [.ref x, .int (scr (Int32.toNatClampNeg (x3 + 1))), .int (scr (Int32.toNatClampNeg (x3 + 2)))] kd mr mi ml (fun r17 mi18 ml19 => vp_in (x3 + 1) N ∧ vp_in (x3 + 2) N ∧ wI l M_X12_text 13 [.ref z, .int (scr (Int32.toNatClampNeg (x3 + 1))), .int (scr (Int32.toNatClampNeg (x3 + 2)))] kd mr mi18 ml19 (fun r20 mi21 ml22 => ((r17 = r20 → c_L_law_1352 l N scr cs ss kd mr x z x3 mi21 ml22) ∧ (¬ r17 = r20 → False))))) ∧ ((((scr (Int32.toNatClampNeg x3)) &&& 31)).toInt = 3 → vp_in (x3 + 1) N ∧ wI l M_X11_fault 13 [.ref x, .int (scr (Int32.toNatClampNeg (x3 + 1)))] kd mr mi ml (fun r24 mi25 ml26 => vp_in (x3 + 1) N ∧ wI l M_X12_fault 13 [.ref z, .int (scr (Int32.toNatClampNeg (x3 + 1)))] kd mr mi25 ml26 (fun r27 mi28 ml29 => ((r24 = r27 → c_L_law_1352 l N scr cs ss kd mr x z x3 mi28 ml29) ∧ (¬ r24 = r27 → False))))) ∧ ((((scr (Int32.toNatClampNeg x3)) &&& 31)).toInt = 4 → vp_in (x3 + 1) N ∧ vp_in (x3 + 2) N ∧ wI l M_X11_city 13 [.ref x, .int (scr (Int32.toNatClampNeg (x3 + 1))), .int (scr (Int32.toNatClampNeg (x3 + 2)))] kd mr mi ml (fun r31 mi32 ml33 => vp_in (x3 + 1) N ∧ vp_in (x3 + 2) N ∧ wI l M_X12_city 13 [.ref z, .int (scr (Int32.toNatClampNeg (x3 + 1))), .int (scr (Int32.toNatClampNeg (x3 + 2)))] kd mr mi32 ml33 (fun r34 mi35 ml36 => ((r31 = r34 → c_L_law_1352 l N scr cs ss kd mr x z x3 mi35 ml36) ∧ (¬ r31 = r34 → False))))) ∧ ((((scr (Int32.toNatClampNeg x3)) &&& 31)).toInt = 5 → vp_in (x3 + 1) N ∧ vp_in (x3 + 2) N ∧ vp_in (x3 + 3) N ∧ wI l M_X11_deed 13 [.ref x, .int (scr (Int32.toNatClampNeg (x3 + 1))), .int (scr (Int32.toNatClampNeg (x3 + 2))), .int (scr (Int32.toNatClampNeg (x3 + 3)))] kd mr mi ml (fun r38 mi39 ml40 => vp_in (x3 + 1) N ∧ vp_in (x3 + 2) N ∧ vp_in (x3 + 3) N ∧ wI l M_X12_deed 13 [.ref z, .int (scr (Int32.toNatClampNeg (x3 + 1))), .int (scr (Int32.toNatClampNeg (x3 + 2))), .int (scr (Int32.toNatClampNeg (x3 + 3)))] kd mr mi39 ml40 (fun r41 mi42 ml43 => ((r38 = r41 → c_L_law_1352 l N scr cs ss kd mr x z x3 mi42 ml43) ∧ (¬ r38 = r41 → False))))) ∧ ((((scr (Int32.toNatClampNeg x3)) &&& 31)).toInt = 6 → vp_in (x3 + 1) N ∧ vp_in (x3 + 2) N ∧ wI l M_X11_stop 13 [.ref x, .int (scr (Int32.toNatClampNeg (x3 + 1))), .int (scr (Int32.toNatClampNeg (x3 + 2)))] kd mr mi ml (fun r45 mi46 ml47 => vp_in (x3 + 1) N ∧ vp_in (x3 + 2) N ∧ wI l M_X12_stop 13 [.ref z, .int (scr (Int32.toNatClampNeg (x3 + 1))), .int (scr (Int32.toNatClampNeg (x3 + 2)))] kd mr mi46 ml47 (fun r48 mi49 ml50 => ((r45 = r48 → c_L_law_1352 l N scr cs ss kd mr x z x3 mi49 ml50) ∧ (¬ r45 = r48 → False))))) ∧ ((((scr (Int32.toNatClampNeg x3)) &&& 31)).toInt = 7 → vp_in (x3 + 1) N ∧ vp_in (x3 + 2) N ∧ vp_in (x3 + 3) N ∧ vp_in (x3 + 4) N ∧ wI l M_X11_state 13 [.ref x, .int (scr (Int32.toNatClampNeg (x3 + 1))), .int (scr (Int32.toNatClampNeg (x3 + 2))), .int (scr (Int32.toNatClampNeg (x3 + 3))), .int (scr (Int32.toNatClampNeg (x3 + 4)))] kd mr mi ml (fun r52 mi53 ml54 => vp_in (x3 + 1) N ∧ vp_in (x3 + 2) N ∧ vp_in (x3 + 3) N ∧ vp_in (x3 + 4) N ∧ wI l M_X12_state 13 [.ref z, .int (scr (Int32.toNatClampNeg (x3 + 1))), .int (scr (Int32.toNatClampNeg (x3 + 2))), .int (scr (Int32.toNatClampNeg (x3 + 3))), .int (scr (Int32.toNatClampNeg (x3 + 4)))] kd mr mi53 ml54 (fun r55 mi56 ml57 => ((r52 = r55 → c_L_law_1352 l N scr cs ss kd mr x z x3 mi56 ml57) ∧ (¬ r52 = r55 → False))))) ∧ ((((scr (Int32.toNatClampNeg x3)) &&& 31)).toInt = 8 → vp_in (x3 + 1) N ∧ vp_in (x3 + 2) N ∧ vp_in (x3 + 3) N ∧ wI l M_X11_hears 13 [.ref x, .int (scr (Int32.toNatClampNeg (x3 + 1))), .int (scr (Int32.toNatClampNeg (x3 + 2))), .int (scr (Int32.toNatClampNeg (x3 + 3)))] kd mr mi ml (fun r59 mi60 ml61 => vp_in (x3 + 1) N ∧ vp_in (x3 + 2) N ∧ vp_in (x3 + 3) N ∧ wI l M_X12_hears 13 [.ref z, .int (scr (Int32.toNatClampNeg (x3 + 1))), .int (scr (Int32.toNatClampNeg (x3 + 2))), .int (scr (Int32.toNatClampNeg (x3 + 3)))] kd mr mi60 ml61 (fun r62 mi63 ml64 => ((r59 = r62 → c_L_law_1352 l N scr cs ss kd mr x z x3 mi63 ml64) ∧ (¬ r59 = r62 → False))))) ∧ ((((scr (Int32.toNatClampNeg x3)) &&& 31)).toInt = 9 → vp_in (x3 + 1) N ∧ wI l M_X11_enough 13 [.ref x, .int (scr (Int32.toNatClampNeg (x3 + 1)))] kd mr mi ml (fun r66 mi67 ml68 => vp_in (x3 + 1) N ∧ wI l M_X12_enough 13 [.ref z, .int (scr (Int32.toNatClampNeg (x3 + 1)))] kd mr mi67 ml68 (fun r69 mi70 ml71 => ((r66 = r69 → c_L_law_1352 l N scr cs ss kd mr x z x3 mi70 ml71) ∧ (¬ r66 = r69 → False))))) ∧ ((((scr (Int32.toNatClampNeg x3)) &&& 31)).toInt = 10 → vp_in (x3 + 1) N ∧ vp_in (x3 + 2) N ∧ vp_in (x3 + 3) N ∧ vp_in (x3 + 4) N ∧ wI l M_X11_fresh 13 [.ref x, .int (scr (Int32.toNatClampNeg (x3 + 1))), .int (scr (Int32.toNatClampNeg (x3 + 2))), .int (scr (Int32.toNatClampNeg (x3 + 3))), .int (scr (Int32.toNatClampNeg (x3 + 4)))] kd mr mi ml (fun r73 mi74 ml75 => vp_in (x3 + 1) N ∧ vp_in (x3 + 2) N ∧ vp_in (x3 + 3) N ∧ vp_in (x3 + 4) N ∧ wI l M_X12_fresh 13 [.ref z, .int (scr (Int32.toNatClampNeg (x3 + 1))), .int (scr (Int32.toNatClampNeg (x3 + 2))), .int (scr (Int32.toNatClampNeg (x3 + 3))), .int (scr (Int32.toNatClampNeg (x3 + 4)))] kd mr mi74 ml75 (fun r76 mi77 ml78 => ((r73 = r76 → c_L_law_1352 l N scr cs ss kd mr x z x3 mi77 ml78) ∧ (¬ r73 = r76 → False))))) ∧ ((((scr (Int32.toNatClampNeg x3)) &&& 31)).toInt = 11 → vp_in (x3 + 1) N ∧ vp_in (x3 + 2) N ∧ vp_in (x3 + 3) N ∧ vp_in (x3 + 4) N ∧ vp_in (x3 + 5) N ∧ wI l M_X11_gather 13 [.ref x, .int (scr (Int32.toNatClampNeg (x3 + 1))), .int (scr (Int32.toNatClampNeg (x3 + 2))), .int (scr (Int32.toNatClampNeg (x3 + 3))), .int (scr (Int32.toNatClampNeg (x3 + 4))), .int (b2i (!decide ((scr (Int32.toNatClampNeg (x3 + 5))) = 0)))] kd mr mi ml (fun r83 mi84 ml85 => vp_in (x3 + 1) N ∧ vp_in (x3 + 2) N ∧ vp_in (x3 + 3) N ∧ vp_in (x3 + 4) N ∧ vp_in (x3 + 5) N ∧ wI l M_X12_gather 13 [.ref z, .int (scr (Int32.toNatClampNeg (x3 + 1))), .int (scr (Int32.toNatClampNeg (x3 + 2))), .int (scr (Int32.toNatClampNeg (x3 + 3))), .int (scr (Int32.toNatClampNeg (x3 + 4))), .int (b2i (!decide ((scr (Int32.toNatClampNeg (x3 + 5))) = 0)))] kd mr mi84 ml85 (fun r89 mi90 ml91 => ((r83 = r89 → c_L_law_1352 l N scr cs ss kd mr x z x3 mi90 ml91) ∧ (¬ r83 = r89 → False))))) ∧ ((((scr (Int32.toNatClampNeg x3)) &&& 31)).toInt = 12 → vp_in (x3 + 1) N ∧ vp_in (x3 + 2) N ∧ vp_in (x3 + 3) N ∧ wI l M_X11_chase 13 [.ref x, .int (scr (Int32.toNatClampNeg (x3 + 1))), .int (scr (Int32.toNatClampNeg (x3 + 2))), .int (scr (Int32.toNatClampNeg (x3 + 3)))] kd mr mi ml (fun r93 mi94 ml95 => vp_in (x3 + 1) N ∧ vp_in (x3 + 2) N ∧ vp_in (x3 + 3) N ∧ wI l M_X12_chase 13 [.ref z, .int (scr (Int32.toNatClampNeg (x3 + 1))), .int (scr (Int32.toNatClampNeg (x3 + 2))), .int (scr (Int32.toNatClampNeg (x3 + 3)))] kd mr mi94 ml95 (fun r96 mi97 ml98 => ((r93 = r96 → c_L_law_1352 l N scr cs ss kd mr x z x3 mi97 ml98) ∧ (¬ r93 = r96 → False))))) ∧ ((((scr (Int32.toNatClampNeg x3)) &&& 31)).toInt = 13 → vp_in (x3 + 1) N ∧ vp_in (x3 + 2) N ∧ vp_in (x3 + 3) N ∧ wI l M_X11_programme 13 [.ref x, .int (scr (Int32.toNatClampNeg (x3 + 1))), .int (scr (Int32.toNatClampNeg (x3 + 2))), .int (scr (Int32.toNatClampNeg (x3 + 3)))] kd mr mi ml (fun r100 mi101 ml102 => vp_in (x3 + 1) N ∧ vp_in (x3 + 2) N ∧ vp_in (x3 + 3) N ∧ wI l M_X12_programme 13 [.ref z, .int (scr (Int32.toNatClampNeg (x3 + 1))), .int (scr (Int32.toNatClampNeg (x3 + 2))), .int (scr (Int32.toNatClampNeg (x3 + 3)))] kd mr mi101 ml102 (fun r103 mi104 ml105 => ((r100 = r103 → c_L_law_1352 l N scr cs ss kd mr x z x3 mi104 ml105) ∧ (¬ r100 = r103 → False))))) ∧ ((((scr (Int32.toNatClampNeg x3)) &&& 31)).toInt = 14 → vp_in (x3 + 1) N ∧ vp_in (x3 + 2) N ∧ vp_in (x3 + 3) N ∧ wI l M_X11_part 13 [.ref x, .int (scr (Int32.toNatClampNeg (x3 + 1))), .int (scr (Int32.toNatClampNeg (x3 + 2))), .int (b2i (!decide ((scr (Int32.toNatClampNeg (x3 + 3))) = 0)))] kd mr mi ml (fun r110 mi111 ml112 => vp_in (x3 + 1) N ∧ vp_in (x3 + 2) N ∧ vp_in (x3 + 3) N ∧ wI l M_X12_part 13 [.ref z, .int (scr (Int32.toNatClampNeg (x3 + 1))), .int (scr (Int32.toNatClampNeg (x3 + 2))), .int (b2i (!decide ((scr (Int32.toNatClampNeg (x3 + 3))) = 0)))] kd mr mi111 ml112 (fun r116 mi117 ml118 => ((r110 = r116 → c_L_law_1352 l N scr cs ss kd mr x z x3 mi117 ml118) ∧ (¬ r110 = r116 → False))))) ∧ ((((scr (Int32.toNatClampNeg x3)) &&& 31)).toInt = 15 → vp_in (x3 + 1) N ∧ wI l M_X11_line 13 [.ref x, .int (scr (Int32.toNatClampNeg (x3 + 1)))] kd mr mi ml (fun r120 mi121 ml122 => vp_in (x3 + 1) N ∧ wI l M_X12_line 13 [.ref z, .int (scr (Int32.toNatClampNeg (x3 + 1)))] kd mr mi121 ml122 (fun r123 mi124 ml125 => ((r120 = r123 → c_L_law_1352 l N scr cs ss kd mr x z x3 mi124 ml125) ∧ (¬ r120 = r123 → False))))) ∧ ((((scr (Int32.toNatClampNeg x3)) &&& 31)).toInt = 16 → vp_in (x3 + 1) N ∧ vp_in (x3 + 2) N ∧ wI l M_X11_trial 13 [.ref x, .int (scr (Int32.toNatClampNeg (x3 + 1))), .int (scr (Int32.toNatClampNeg (x3 + 2)))] kd mr mi ml (fun r127 mi128 ml129 => vp_in (x3 + 1) N ∧ vp_in (x3 + 2) N ∧ wI l M_X12_trial 13 [.ref z, .int (scr (Int32.toNatClampNeg (x3 + 1))), .int (scr (Int32.toNatClampNeg (x3 + 2)))] kd mr mi128 ml129 (fun r130 mi131 ml132 => ((r127 = r130 → c_L_law_1352 l N scr cs ss kd mr x z x3 mi131 ml132) ∧ (¬ r127 = r130 → False))))) ∧ ((((scr (Int32.toNatClampNeg x3)) &&& 31)).toInt = 17 → vp_in (x3 + 1) N ∧ vp_in (x3 + 2) N ∧ wI l M_X11_thieves 13 [.ref x, .int (scr (Int32.toNatClampNeg (x3 + 1))), .int (scr (Int32.toNatClampNeg (x3 + 2)))] kd mr mi ml (fun r134 mi135 ml136 => vp_in (x3 + 1) N ∧ vp_in (x3 + 2) N ∧ wI l M_X12_thieves 13 [.ref z, .int (scr (Int32.toNatClampNeg (x3 + 1))), .int (scr (Int32.toNatClampNeg (x3 + 2)))] kd mr mi135 ml136 (fun r137 mi138 ml139 => ((r134 = r137 → c_L_law_1352 l N scr cs ss kd mr x z x3 mi138 ml139) ∧ (¬ r134 = r137 → False))))) ∧ ((((scr (Int32.toNatClampNeg x3)) &&& 31)).toInt = 18 → vp_in (x3 + 1) N ∧ vp_in (x3 + 2) N ∧ vp_in (x3 + 3) N ∧ wI l M_X11_fact 13 [.ref x, .int (scr (Int32.toNatClampNeg (x3 + 1))), .int (scr (Int32.toNatClampNeg (x3 + 2))), .int (scr (Int32.toNatClampNeg (x3 + 3)))] kd mr mi ml (fun r141 mi142 ml143 => vp_in (x3 + 1) N ∧ vp_in (x3 + 2) N ∧ vp_in (x3 + 3) N ∧ wI l M_X12_fact 13 [.ref z, .int (scr (Int32.toNatClampNeg (x3 + 1))), .int (scr (Int32.toNatClampNeg (x3 + 2))), .int (scr (Int32.toNatClampNeg (x3 + 3)))] kd mr mi142 ml143 (fun r144 mi145 ml146 => ((r141 = r144 → c_L_law_1352 l N scr cs ss kd mr x z x3 mi145 ml146) ∧ (¬ r141 = r144 → False))))) ∧ ((((scr (Int32.toNatClampNeg x3)) &&& 31)).toInt = 19 → vp_in (x3 + 1) N ∧ vp_in (x3 + 2) N ∧ vp_in (x3 + 3) N ∧ wI l M_X11_seen 13 [.ref x, .int (scr (Int32.toNatClampNeg (x3 + 1))), .int (scr (Int32.toNatClampNeg (x3 + 2))), .int (scr (Int32.toNatClampNeg (x3 + 3)))] kd mr mi ml (fun r148 mi149 ml150 => vp_in (x3 + 1) N ∧ vp_in (x3 + 2) N ∧ vp_in (x3 + 3) N ∧ wI l M_X12_seen 13 [.ref z, .int (scr (Int32.toNatClampNeg (x3 + 1))), .int (scr (Int32.toNatClampNeg (x3 + 2))), .int (scr (Int32.toNatClampNeg (x3 + 3)))] kd mr mi149 ml150 (fun r151 mi152 ml153 => ((r148 = r151 → c_L_law_1352 l N scr cs ss kd mr x z x3 mi152 ml153) ∧ (¬ r148 = r151 → False))))) ∧ ((((scr (Int32.toNatClampNeg x3)) &&& 31)).toInt = 20 → vp_in (x3 + 1) N ∧ vp_in (x3 + 2) N ∧ vp_in (x3 + 3) N ∧ vp_in (x3 + 4) N ∧ wI l M_X11_drawn 13 [.ref x, .int (scr (Int32.toNatClampNeg (x3 + 1))), .int (scr (Int32.toNatClampNeg (x3 + 2))), .int (scr (Int32.toNatClampNeg (x3 + 3))), .int (scr (Int32.toNatClampNeg (x3 + 4)))] kd mr mi ml (fun r155 mi156 ml157 => vp_in (x3 + 1) N ∧ vp_in (x3 + 2) N ∧ vp_in (x3 + 3) N ∧ vp_in (x3 + 4) N ∧ wI l M_X12_drawn 13 [.ref z, .int (scr (Int32.toNatClampNeg (x3 + 1))), .int (scr (Int32.toNatClampNeg (x3 + 2))), .int (scr (Int32.toNatClampNeg (x3 + 3))), .int (scr (Int32.toNatClampNeg (x3 + 4)))] kd mr mi156 ml157 (fun r158 mi159 ml160 => ((r155 = r158 → c_L_law_1352 l N scr cs ss kd mr x z x3 mi159 ml160) ∧ (¬ r155 = r158 → False))))) ∧ ((((scr (Int32.toNatClampNeg x3)) &&& 31)).toInt = 21 → vp_in (x3 + 1) N ∧ vp_in (x3 + 2) N ∧ vp_in (x3 + 3) N ∧ wI l M_X11_steps 13 [.ref x, .int (scr (Int32.toNatClampNeg (x3 + 1))), .int (scr (Int32.toNatClampNeg (x3 + 2))), .int (scr (Int32.toNatClampNeg (x3 + 3)))] kd mr mi ml (fun r162 mi163 ml164 => vp_in (x3 + 1) N ∧ vp_in (x3 + 2) N ∧ vp_in (x3 + 3) N ∧ wI l M_X12_steps 13 [.ref z, .int (scr (Int32.toNatClampNeg (x3 + 1))), .int (scr (Int32.toNatClampNeg (x3 + 2))), .int (scr (Int32.toNatClampNeg (x3 + 3)))] kd mr mi163 ml164 (fun r165 mi166 ml167 => ((r162 = r165 → c_L_law_1352 l N scr cs ss kd mr x z x3 mi166 ml167) ∧ (¬ r162 = r165 → False))))) ∧ ((((scr (Int32.toNatClampNeg x3)) &&& 31)).toInt = 22 → vp_in (x3 + 1) N ∧ vp_in (x3 + 2) N ∧ wI l M_X11_blocks 13 [.ref x, .int (scr (Int32.toNatClampNeg (x3 + 1))), .int (b2i (!decide ((scr (Int32.toNatClampNeg (x3 + 2))) = 0)))] kd mr mi ml (fun r172 mi173 ml174 => vp_in (x3 + 1) N ∧ vp_in (x3 + 2) N ∧ wI l M_X12_blocks 13 [.ref z, .int (scr (Int32.toNatClampNeg (x3 + 1))), .int (b2i (!decide ((scr (Int32.toNatClampNeg (x3 + 2))) = 0)))] kd mr mi173 ml174 (fun r178 mi179 ml180 => ((r172 = r178 → c_L_law_1352 l N scr cs ss kd mr x z x3 mi179 ml180) ∧ (¬ r172 = r178 → False))))) ∧ ((((scr (Int32.toNatClampNeg x3)) &&& 31)).toInt = 23 → vp_in (x3 + 1) N ∧ vp_in (x3 + 2) N ∧ vp_in (x3 + 3) N ∧ wI l M_X11_cordon 13 [.ref x, .int (scr (Int32.toNatClampNeg (x3 + 1))), .int (scr (Int32.toNatClampNeg (x3 + 2))), .int (scr (Int32.toNatClampNeg (x3 + 3)))] kd mr mi ml (fun r182 mi183 ml184 => vp_in (x3 + 1) N ∧ vp_in (x3 + 2) N ∧ vp_in (x3 + 3) N ∧ wI l M_X12_cordon 13 [.ref z, .int (scr (Int32.toNatClampNeg (x3 + 1))), .int (scr (Int32.toNatClampNeg (x3 + 2))), .int (scr (Int32.toNatClampNeg (x3 + 3)))] kd mr mi183 ml184 (fun r185 mi186 ml187 => ((r182 = r185 → c_L_law_1352 l N scr cs ss kd mr x z x3 mi186 ml187) ∧ (¬ r182 = r185 → False))))) ∧ ((((scr (Int32.toNatClampNeg x3)) &&& 31)).toInt = 24 → vp_in (x3 + 1) N ∧ vp_in (x3 + 2) N ∧ wI l M_X11_square 13 [.ref x, .int (scr (Int32.toNatClampNeg (x3 + 1))), .int (b2i (!decide ((scr (Int32.toNatClampNeg (x3 + 2))) = 0)))] kd mr mi ml (fun r192 mi193 ml194 => vp_in (x3 + 1) N ∧ vp_in (x3 + 2) N ∧ wI l M_X12_square 13 [.ref z, .int (scr (Int32.toNatClampNeg (x3 + 1))), .int (b2i (!decide ((scr (Int32.toNatClampNeg (x3 + 2))) = 0)))] kd mr mi193 ml194 (fun r198 mi199 ml200 => ((r192 = r198 → c_L_law_1352 l N scr cs ss kd mr x z x3 mi199 ml200) ∧ (¬ r192 = r198 → False))))) ∧ ((((scr (Int32.toNatClampNeg x3)) &&& 31)).toInt = 25 → vp_in (x3 + 1) N ∧ wI l M_X11_silent 13 [.ref x, .int (scr (Int32.toNatClampNeg (x3 + 1)))] kd mr mi ml (fun r202 mi203 ml204 => vp_in (x3 + 1) N ∧ wI l M_X12_silent 13 [.ref z, .int (scr (Int32.toNatClampNeg (x3 + 1)))] kd mr mi203 ml204 (fun r205 mi206 ml207 => ((r202 = r205 → c_L_law_1352 l N scr cs ss kd mr x z x3 mi206 ml207) ∧ (¬ r202 = r205 → False))))) ∧ ((((scr (Int32.toNatClampNeg x3)) &&& 31)).toInt = 26 → vp_in (x3 + 1) N ∧ vp_in (x3 + 2) N ∧ wI l M_X11_round 13 [.ref x, .int (scr (Int32.toNatClampNeg (x3 + 1))), .int (scr (Int32.toNatClampNeg (x3 + 2)))] kd mr mi ml (fun r209 mi210 ml211 => vp_in (x3 + 1) N ∧ vp_in (x3 + 2) N ∧ wI l M_X12_round 13 [.ref z, .int (scr (Int32.toNatClampNeg (x3 + 1))), .int (scr (Int32.toNatClampNeg (x3 + 2)))] kd mr mi210 ml211 (fun r212 mi213 ml214 => ((r209 = r212 → c_L_law_1352 l N scr cs ss kd mr x z x3 mi213 ml214) ∧ (¬ r209 = r212 → False))))) ∧ ((((scr (Int32.toNatClampNeg x3)) &&& 31)).toInt = 27 → vp_in (x3 + 1) N ∧ wI l M_X11_count 13 [.ref x, .int (scr (Int32.toNatClampNeg (x3 + 1)))] kd mr mi ml (fun r216 mi217 ml218 => vp_in (x3 + 1) N ∧ wI l M_X12_count 13 [.ref z, .int (scr (Int32.toNatClampNeg (x3 + 1)))] kd mr mi217 ml218 (fun r219 mi220 ml221 => ((r216 = r219 → c_L_law_1352 l N scr cs ss kd mr x z x3 mi220 ml221) ∧ (¬ r216 = r219 → False))))) ∧ ((((scr (Int32.toNatClampNeg x3)) &&& 31)).toInt = 28 → vp_in (x3 + 1) N ∧ wB l M_X11_image 13 [.ref x, .int (scr (Int32.toNatClampNeg (x3 + 1)))] kd mr mi ml (fun r223 mi224 ml225 => vp_in (x3 + 1) N ∧ wB l M_X12_image 13 [.ref z, .int (scr (Int32.toNatClampNeg (x3 + 1)))] kd mr mi224 ml225 (fun r226 mi227 ml228 => (((b2i r223) = (b2i r226) → c_L_law_1352 l N scr cs ss kd mr x z x3 mi227 ml228) ∧ (¬ (b2i r223) = (b2i r226) → False))))) ∧ ((((scr (Int32.toNatClampNeg x3)) &&& 31)).toInt = 29 → vp_in (x3 + 1) N ∧ wB l M_X11_again 13 [.ref x, .int (scr (Int32.toNatClampNeg (x3 + 1)))] kd mr mi ml (fun r230 mi231 ml232 => vp_in (x3 + 1) N ∧ wB l M_X12_again 13 [.ref z, .int (scr (Int32.toNatClampNeg (x3 + 1)))] kd mr mi231 ml232 (fun r233 mi234 ml235 => (((b2i r230) = (b2i r233) → c_L_law_1352 l N scr cs ss kd mr x z x3 mi234 ml235) ∧ (¬ (b2i r230) = (b2i r233) → False))))))))) :
    c_L_law_18 l N scr cs ss kd mr x z x3 mi ml := by
  show wq l N scr 18 [some (.retAddr 8), some (.ref x), some (.ref z), some (.int x3)] [] cs ss kd mi ml mr
  refine wq_iload_n (pc := 18) dL_law_18 rfl ?_
  refine wq_aload_nX (pc := 19) dL_law_19 rfl ?_
  refine wq_slen (pc := 20) dL_law_20 ?_
  refine wq_bipush (v := 6) (pc := 21) dL_law_21 (by decide) ?_
  refine wq_isub (pc := 23) dL_law_23 ?_
  refine wq_icmp_gt (tgt := 1358) (pc := 24) dL_law_24 (by decide) (fun c1 => ?_) (fun c1 => ?_)
  · have F := F.1 c1
    refine wq_iconst (v := 1) (pc := 1358) dL_law_1358 (by decide) ?_
    exact wq_ret (pc := 1359) dL_law_1359 hc.1 hc.2
  · have F := F.2 c1
    refine wq_aload_nX (pc := 27) dL_law_27 rfl ?_
    refine wq_iload_n (pc := 28) dL_law_28 rfl ?_
    refine wq_sld (pc := 29) dL_law_29 F.1 ?_
    have F := F.2
    refine wq_bipush (v := 31) (pc := 30) dL_law_30 (by decide) ?_
    refine wq_iand (pc := 32) dL_law_32 ?_
    by_cases c2 : (((scr (Int32.toNatClampNeg x3)) &&& 31)).toInt < 0 ∨ 29 < (((scr (Int32.toNatClampNeg x3)) &&& 31)).toInt
    · have F := F.1 c2
      refine wq_tableOut (tgt := 1352) (pc := 33) dL_law_33 c2 (by decide) ?_
      exact wq_less (L' := [some (.retAddr 8), some (.ref x), some (.ref z), some (.int x3)]) ⟨rfl, ⟨rfl, ⟨rfl, ⟨rfl, trivial⟩⟩⟩⟩ F
    have c2 : (((scr (Int32.toNatClampNeg x3)) &&& 31)).toInt = 0 ∨ (((scr (Int32.toNatClampNeg x3)) &&& 31)).toInt = 1 ∨ (((scr (Int32.toNatClampNeg x3)) &&& 31)).toInt = 2 ∨ (((scr (Int32.toNatClampNeg x3)) &&& 31)).toInt = 3 ∨ (((scr (Int32.toNatClampNeg x3)) &&& 31)).toInt = 4 ∨ (((scr (Int32.toNatClampNeg x3)) &&& 31)).toInt = 5 ∨ (((scr (Int32.toNatClampNeg x3)) &&& 31)).toInt = 6 ∨ (((scr (Int32.toNatClampNeg x3)) &&& 31)).toInt = 7 ∨ (((scr (Int32.toNatClampNeg x3)) &&& 31)).toInt = 8 ∨ (((scr (Int32.toNatClampNeg x3)) &&& 31)).toInt = 9 ∨ (((scr (Int32.toNatClampNeg x3)) &&& 31)).toInt = 10 ∨ (((scr (Int32.toNatClampNeg x3)) &&& 31)).toInt = 11 ∨ (((scr (Int32.toNatClampNeg x3)) &&& 31)).toInt = 12 ∨ (((scr (Int32.toNatClampNeg x3)) &&& 31)).toInt = 13 ∨ (((scr (Int32.toNatClampNeg x3)) &&& 31)).toInt = 14 ∨ (((scr (Int32.toNatClampNeg x3)) &&& 31)).toInt = 15 ∨ (((scr (Int32.toNatClampNeg x3)) &&& 31)).toInt = 16 ∨ (((scr (Int32.toNatClampNeg x3)) &&& 31)).toInt = 17 ∨ (((scr (Int32.toNatClampNeg x3)) &&& 31)).toInt = 18 ∨ (((scr (Int32.toNatClampNeg x3)) &&& 31)).toInt = 19 ∨ (((scr (Int32.toNatClampNeg x3)) &&& 31)).toInt = 20 ∨ (((scr (Int32.toNatClampNeg x3)) &&& 31)).toInt = 21 ∨ (((scr (Int32.toNatClampNeg x3)) &&& 31)).toInt = 22 ∨ (((scr (Int32.toNatClampNeg x3)) &&& 31)).toInt = 23 ∨ (((scr (Int32.toNatClampNeg x3)) &&& 31)).toInt = 24 ∨ (((scr (Int32.toNatClampNeg x3)) &&& 31)).toInt = 25 ∨ (((scr (Int32.toNatClampNeg x3)) &&& 31)).toInt = 26 ∨ (((scr (Int32.toNatClampNeg x3)) &&& 31)).toInt = 27 ∨ (((scr (Int32.toNatClampNeg x3)) &&& 31)).toInt = 28 ∨ (((scr (Int32.toNatClampNeg x3)) &&& 31)).toInt = 29 := by omega
    have F := F.2
    rcases c2 with c2 | c2 | c2 | c2 | c2 | c2 | c2 | c2 | c2 | c2 | c2 | c2 | c2 | c2 | c2 | c2 | c2 | c2 | c2 | c2 | c2 | c2 | c2 | c2 | c2 | c2 | c2 | c2 | c2 | c2
    · have F := F.1 c2
      refine wq_tableIn (tgt := 168) (pc := 33) dL_law_33 c2 (by decide) (by decide) rfl (by decide) ?_
      refine wq_aload_n (pc := 168) dL_law_168 rfl ?_
      refine wq_aload_nX (pc := 169) dL_law_169 rfl ?_
      refine wq_iload_n (pc := 170) dL_law_170 rfl ?_
      refine wq_iconst (v := 1) (pc := 171) dL_law_171 (by decide) ?_
      refine wq_iadd (pc := 172) dL_law_172 ?_
      refine wq_sld (pc := 173) dL_law_173 F.1 ?_
      have F := F.2
      refine wq_aload_nX (pc := 174) dL_law_174 rfl ?_
      refine wq_iload_n (pc := 175) dL_law_175 rfl ?_
      refine wq_iconst (v := 2) (pc := 176) dL_law_176 (by decide) ?_
      refine wq_iadd (pc := 177) dL_law_177 ?_
      refine wq_sld (pc := 178) dL_law_178 F.1 ?_
      have F := F.2
      refine wq_aload_nX (pc := 179) dL_law_179 rfl ?_
      refine wq_iload_n (pc := 180) dL_law_180 rfl ?_
      refine wq_iconst (v := 3) (pc := 181) dL_law_181 (by decide) ?_
      refine wq_iadd (pc := 182) dL_law_182 ?_
      refine wq_sld (pc := 183) dL_law_183 F.1 ?_
      have F := F.2
      refine wq_aload_nX (pc := 184) dL_law_184 rfl ?_
      refine wq_iload_n (pc := 185) dL_law_185 rfl ?_
      refine wq_iconst (v := 4) (pc := 186) dL_law_186 (by decide) ?_
      refine wq_iadd (pc := 187) dL_law_187 ?_
      refine wq_sld (pc := 188) dL_law_188 F.1 ?_
      have F := F.2
      refine wq_aload_nX (pc := 189) dL_law_189 rfl ?_
      refine wq_iload_n (pc := 190) dL_law_190 rfl ?_
      refine wq_iconst (v := 5) (pc := 191) dL_law_191 (by decide) ?_
      refine wq_iadd (pc := 192) dL_law_192 ?_
      refine wq_sld (pc := 193) dL_law_193 F.1 ?_
      have F := F.2
      refine qvI [.int (scr (Int32.toNatClampNeg (x3 + 1))), .int (scr (Int32.toNatClampNeg (x3 + 2))), .int (scr (Int32.toNatClampNeg (x3 + 3))), .int (scr (Int32.toNatClampNeg (x3 + 4))), .int (scr (Int32.toNatClampNeg (x3 + 5)))] [] (pc := 194) dL_law_194 ml_L_13 iv_X11_feed (TX11s_k tx) (cl_X11 rfl) rfl rfl (Nat.le_of_ble_eq_true rfl) (Nat.le_of_ble_eq_true rfl) hc (wI.mono (fun r3 mi4 ml5 F => ?_) F)
      refine wq_aload_n (pc := 197) dL_law_197 rfl ?_
      refine wq_aload_nX (pc := 198) dL_law_198 rfl ?_
      refine wq_iload_n (pc := 199) dL_law_199 rfl ?_
      refine wq_iconst (v := 1) (pc := 200) dL_law_200 (by decide) ?_
      refine wq_iadd (pc := 201) dL_law_201 ?_
      refine wq_sld (pc := 202) dL_law_202 F.1 ?_
      have F := F.2
      refine wq_aload_nX (pc := 203) dL_law_203 rfl ?_
      refine wq_iload_n (pc := 204) dL_law_204 rfl ?_
      refine wq_iconst (v := 2) (pc := 205) dL_law_205 (by decide) ?_
      refine wq_iadd (pc := 206) dL_law_206 ?_
      refine wq_sld (pc := 207) dL_law_207 F.1 ?_
      have F := F.2
      refine wq_aload_nX (pc := 208) dL_law_208 rfl ?_
      refine wq_iload_n (pc := 209) dL_law_209 rfl ?_
      refine wq_iconst (v := 3) (pc := 210) dL_law_210 (by decide) ?_
      refine wq_iadd (pc := 211) dL_law_211 ?_
      refine wq_sld (pc := 212) dL_law_212 F.1 ?_
      have F := F.2
      refine wq_aload_nX (pc := 213) dL_law_213 rfl ?_
      refine wq_iload_n (pc := 214) dL_law_214 rfl ?_
      refine wq_iconst (v := 4) (pc := 215) dL_law_215 (by decide) ?_
      refine wq_iadd (pc := 216) dL_law_216 ?_
      refine wq_sld (pc := 217) dL_law_217 F.1 ?_
      have F := F.2
      refine wq_aload_nX (pc := 218) dL_law_218 rfl ?_
      refine wq_iload_n (pc := 219) dL_law_219 rfl ?_
      refine wq_iconst (v := 5) (pc := 220) dL_law_220 (by decide) ?_
      refine wq_iadd (pc := 221) dL_law_221 ?_
      refine wq_sld (pc := 222) dL_law_222 F.1 ?_
      have F := F.2
      refine qvI [.int (scr (Int32.toNatClampNeg (x3 + 1))), .int (scr (Int32.toNatClampNeg (x3 + 2))), .int (scr (Int32.toNatClampNeg (x3 + 3))), .int (scr (Int32.toNatClampNeg (x3 + 4))), .int (scr (Int32.toNatClampNeg (x3 + 5)))] [.int r3] (pc := 223) dL_law_223 ml_L_17 iv_X12_feed (TX12s_k tz) (cl_X12 rfl) rfl rfl (Nat.le_of_ble_eq_true rfl) (Nat.le_of_ble_eq_true rfl) hc (wI.mono (fun r6 mi7 ml8 F => ?_) F)
      refine wq_icmp_eq (tgt := 1352) (pc := 226) dL_law_226 (by decide) (fun c9 => ?_) (fun c9 => ?_)
      · have F := F.1 c9
        exact wq_less (L' := [some (.retAddr 8), some (.ref x), some (.ref z), some (.int x3)]) ⟨rfl, ⟨rfl, ⟨rfl, ⟨rfl, trivial⟩⟩⟩⟩ F
      · have F := F.2 c9
        refine wq_iconst (v := 0) (pc := 229) dL_law_229 (by decide) ?_
        exact F.elim
    · have F := F.2.1 c2
      refine wq_tableIn (tgt := 231) (pc := 33) dL_law_33 c2 (by decide) (by decide) rfl (by decide) ?_
      refine wq_aload_n (pc := 231) dL_law_231 rfl ?_
      refine wq_aload_nX (pc := 232) dL_law_232 rfl ?_
      refine wq_iload_n (pc := 233) dL_law_233 rfl ?_
      refine wq_iconst (v := 1) (pc := 234) dL_law_234 (by decide) ?_
      refine wq_iadd (pc := 235) dL_law_235 ?_
      refine wq_sld (pc := 236) dL_law_236 F.1 ?_
      have F := F.2
      refine qvI [.int (scr (Int32.toNatClampNeg (x3 + 1)))] [] (pc := 237) dL_law_237 ml_L_18 iv_X11_end (TX11s_k tx) (cl_X11 rfl) rfl rfl (Nat.le_of_ble_eq_true rfl) (Nat.le_of_ble_eq_true rfl) hc (wI.mono (fun r10 mi11 ml12 F => ?_) F)
      refine wq_aload_n (pc := 240) dL_law_240 rfl ?_
      refine wq_aload_nX (pc := 241) dL_law_241 rfl ?_
      refine wq_iload_n (pc := 242) dL_law_242 rfl ?_
      refine wq_iconst (v := 1) (pc := 243) dL_law_243 (by decide) ?_
      refine wq_iadd (pc := 244) dL_law_244 ?_
      refine wq_sld (pc := 245) dL_law_245 F.1 ?_
      have F := F.2
      refine qvI [.int (scr (Int32.toNatClampNeg (x3 + 1)))] [.int r10] (pc := 246) dL_law_246 ml_L_22 iv_X12_end (TX12s_k tz) (cl_X12 rfl) rfl rfl (Nat.le_of_ble_eq_true rfl) (Nat.le_of_ble_eq_true rfl) hc (wI.mono (fun r13 mi14 ml15 F => ?_) F)
      refine wq_icmp_eq (tgt := 1352) (pc := 249) dL_law_249 (by decide) (fun c16 => ?_) (fun c16 => ?_)
      · have F := F.1 c16
        exact wq_less (L' := [some (.retAddr 8), some (.ref x), some (.ref z), some (.int x3)]) ⟨rfl, ⟨rfl, ⟨rfl, ⟨rfl, trivial⟩⟩⟩⟩ F
      · have F := F.2 c16
        refine wq_iconst (v := 0) (pc := 252) dL_law_252 (by decide) ?_
        exact F.elim
    · have F := F.2.2.1 c2
      refine wq_tableIn (tgt := 254) (pc := 33) dL_law_33 c2 (by decide) (by decide) rfl (by decide) ?_
      refine wq_aload_n (pc := 254) dL_law_254 rfl ?_
      refine wq_aload_nX (pc := 255) dL_law_255 rfl ?_
      refine wq_iload_n (pc := 256) dL_law_256 rfl ?_
      refine wq_iconst (v := 1) (pc := 257) dL_law_257 (by decide) ?_
      refine wq_iadd (pc := 258) dL_law_258 ?_
      refine wq_sld (pc := 259) dL_law_259 F.1 ?_
      have F := F.2
      refine wq_aload_nX (pc := 260) dL_law_260 rfl ?_
      refine wq_iload_n (pc := 261) dL_law_261 rfl ?_
      refine wq_iconst (v := 2) (pc := 262) dL_law_262 (by decide) ?_
      refine wq_iadd (pc := 263) dL_law_263 ?_
      refine wq_sld (pc := 264) dL_law_264 F.1 ?_
      have F := F.2
      refine qvI [.int (scr (Int32.toNatClampNeg (x3 + 1))), .int (scr (Int32.toNatClampNeg (x3 + 2)))] [] (pc := 265) dL_law_265 ml_L_23 iv_X11_text (TX11s_k tx) (cl_X11 rfl) rfl rfl (Nat.le_of_ble_eq_true rfl) (Nat.le_of_ble_eq_true rfl) hc (wI.mono (fun r17 mi18 ml19 F => ?_) F)
      refine wq_aload_n (pc := 268) dL_law_268 rfl ?_
      refine wq_aload_nX (pc := 269) dL_law_269 rfl ?_
      refine wq_iload_n (pc := 270) dL_law_270 rfl ?_
      refine wq_iconst (v := 1) (pc := 271) dL_law_271 (by decide) ?_
      refine wq_iadd (pc := 272) dL_law_272 ?_
      refine wq_sld (pc := 273) dL_law_273 F.1 ?_
      have F := F.2
      refine wq_aload_nX (pc := 274) dL_law_274 rfl ?_
      refine wq_iload_n (pc := 275) dL_law_275 rfl ?_
      refine wq_iconst (v := 2) (pc := 276) dL_law_276 (by decide) ?_
      refine wq_iadd (pc := 277) dL_law_277 ?_
      refine wq_sld (pc := 278) dL_law_278 F.1 ?_
      have F := F.2
      refine qvI [.int (scr (Int32.toNatClampNeg (x3 + 1))), .int (scr (Int32.toNatClampNeg (x3 + 2)))] [.int r17] (pc := 279) dL_law_279 ml_L_27 iv_X12_text (TX12s_k tz) (cl_X12 rfl) rfl rfl (Nat.le_of_ble_eq_true rfl) (Nat.le_of_ble_eq_true rfl) hc (wI.mono (fun r20 mi21 ml22 F => ?_) F)
      refine wq_icmp_eq (tgt := 1352) (pc := 282) dL_law_282 (by decide) (fun c23 => ?_) (fun c23 => ?_)
      · have F := F.1 c23
        exact wq_less (L' := [some (.retAddr 8), some (.ref x), some (.ref z), some (.int x3)]) ⟨rfl, ⟨rfl, ⟨rfl, ⟨rfl, trivial⟩⟩⟩⟩ F
      · have F := F.2 c23
        refine wq_iconst (v := 0) (pc := 285) dL_law_285 (by decide) ?_
        exact F.elim
    · have F := F.2.2.2.1 c2
      refine wq_tableIn (tgt := 287) (pc := 33) dL_law_33 c2 (by decide) (by decide) rfl (by decide) ?_
      refine wq_aload_n (pc := 287) dL_law_287 rfl ?_
      refine wq_aload_nX (pc := 288) dL_law_288 rfl ?_
      refine wq_iload_n (pc := 289) dL_law_289 rfl ?_
      refine wq_iconst (v := 1) (pc := 290) dL_law_290 (by decide) ?_
      refine wq_iadd (pc := 291) dL_law_291 ?_
      refine wq_sld (pc := 292) dL_law_292 F.1 ?_
      have F := F.2
      refine qvI [.int (scr (Int32.toNatClampNeg (x3 + 1)))] [] (pc := 293) dL_law_293 ml_L_28 iv_X11_fault (TX11s_k tx) (cl_X11 rfl) rfl rfl (Nat.le_of_ble_eq_true rfl) (Nat.le_of_ble_eq_true rfl) hc (wI.mono (fun r24 mi25 ml26 F => ?_) F)
      refine wq_aload_n (pc := 296) dL_law_296 rfl ?_
      refine wq_aload_nX (pc := 297) dL_law_297 rfl ?_
      refine wq_iload_n (pc := 298) dL_law_298 rfl ?_
      refine wq_iconst (v := 1) (pc := 299) dL_law_299 (by decide) ?_
      refine wq_iadd (pc := 300) dL_law_300 ?_
      refine wq_sld (pc := 301) dL_law_301 F.1 ?_
      have F := F.2
      refine qvI [.int (scr (Int32.toNatClampNeg (x3 + 1)))] [.int r24] (pc := 302) dL_law_302 ml_L_31 iv_X12_fault (TX12s_k tz) (cl_X12 rfl) rfl rfl (Nat.le_of_ble_eq_true rfl) (Nat.le_of_ble_eq_true rfl) hc (wI.mono (fun r27 mi28 ml29 F => ?_) F)
      refine wq_icmp_eq (tgt := 1352) (pc := 305) dL_law_305 (by decide) (fun c30 => ?_) (fun c30 => ?_)
      · have F := F.1 c30
        exact wq_less (L' := [some (.retAddr 8), some (.ref x), some (.ref z), some (.int x3)]) ⟨rfl, ⟨rfl, ⟨rfl, ⟨rfl, trivial⟩⟩⟩⟩ F
      · have F := F.2 c30
        refine wq_iconst (v := 0) (pc := 308) dL_law_308 (by decide) ?_
        exact F.elim
    · have F := F.2.2.2.2.1 c2
      refine wq_tableIn (tgt := 310) (pc := 33) dL_law_33 c2 (by decide) (by decide) rfl (by decide) ?_
      refine wq_aload_n (pc := 310) dL_law_310 rfl ?_
      refine wq_aload_nX (pc := 311) dL_law_311 rfl ?_
      refine wq_iload_n (pc := 312) dL_law_312 rfl ?_
      refine wq_iconst (v := 1) (pc := 313) dL_law_313 (by decide) ?_
      refine wq_iadd (pc := 314) dL_law_314 ?_
      refine wq_sld (pc := 315) dL_law_315 F.1 ?_
      have F := F.2
      refine wq_aload_nX (pc := 316) dL_law_316 rfl ?_
      refine wq_iload_n (pc := 317) dL_law_317 rfl ?_
      refine wq_iconst (v := 2) (pc := 318) dL_law_318 (by decide) ?_
      refine wq_iadd (pc := 319) dL_law_319 ?_
      refine wq_sld (pc := 320) dL_law_320 F.1 ?_
      have F := F.2
      refine qvI [.int (scr (Int32.toNatClampNeg (x3 + 1))), .int (scr (Int32.toNatClampNeg (x3 + 2)))] [] (pc := 321) dL_law_321 ml_L_32 iv_X11_city (TX11s_k tx) (cl_X11 rfl) rfl rfl (Nat.le_of_ble_eq_true rfl) (Nat.le_of_ble_eq_true rfl) hc (wI.mono (fun r31 mi32 ml33 F => ?_) F)
      refine wq_aload_n (pc := 324) dL_law_324 rfl ?_
      refine wq_aload_nX (pc := 325) dL_law_325 rfl ?_
      refine wq_iload_n (pc := 326) dL_law_326 rfl ?_
      refine wq_iconst (v := 1) (pc := 327) dL_law_327 (by decide) ?_
      refine wq_iadd (pc := 328) dL_law_328 ?_
      refine wq_sld (pc := 329) dL_law_329 F.1 ?_
      have F := F.2
      refine wq_aload_nX (pc := 330) dL_law_330 rfl ?_
      refine wq_iload_n (pc := 331) dL_law_331 rfl ?_
      refine wq_iconst (v := 2) (pc := 332) dL_law_332 (by decide) ?_
      refine wq_iadd (pc := 333) dL_law_333 ?_
      refine wq_sld (pc := 334) dL_law_334 F.1 ?_
      have F := F.2
      refine qvI [.int (scr (Int32.toNatClampNeg (x3 + 1))), .int (scr (Int32.toNatClampNeg (x3 + 2)))] [.int r31] (pc := 335) dL_law_335 ml_L_35 iv_X12_city (TX12s_k tz) (cl_X12 rfl) rfl rfl (Nat.le_of_ble_eq_true rfl) (Nat.le_of_ble_eq_true rfl) hc (wI.mono (fun r34 mi35 ml36 F => ?_) F)
      refine wq_icmp_eq (tgt := 1352) (pc := 338) dL_law_338 (by decide) (fun c37 => ?_) (fun c37 => ?_)
      · have F := F.1 c37
        exact wq_less (L' := [some (.retAddr 8), some (.ref x), some (.ref z), some (.int x3)]) ⟨rfl, ⟨rfl, ⟨rfl, ⟨rfl, trivial⟩⟩⟩⟩ F
      · have F := F.2 c37
        refine wq_iconst (v := 0) (pc := 341) dL_law_341 (by decide) ?_
        exact F.elim
    · have F := F.2.2.2.2.2.1 c2
      refine wq_tableIn (tgt := 343) (pc := 33) dL_law_33 c2 (by decide) (by decide) rfl (by decide) ?_
      refine wq_aload_n (pc := 343) dL_law_343 rfl ?_
      refine wq_aload_nX (pc := 344) dL_law_344 rfl ?_
      refine wq_iload_n (pc := 345) dL_law_345 rfl ?_
      refine wq_iconst (v := 1) (pc := 346) dL_law_346 (by decide) ?_
      refine wq_iadd (pc := 347) dL_law_347 ?_
      refine wq_sld (pc := 348) dL_law_348 F.1 ?_
      have F := F.2
      refine wq_aload_nX (pc := 349) dL_law_349 rfl ?_
      refine wq_iload_n (pc := 350) dL_law_350 rfl ?_
      refine wq_iconst (v := 2) (pc := 351) dL_law_351 (by decide) ?_
      refine wq_iadd (pc := 352) dL_law_352 ?_
      refine wq_sld (pc := 353) dL_law_353 F.1 ?_
      have F := F.2
      refine wq_aload_nX (pc := 354) dL_law_354 rfl ?_
      refine wq_iload_n (pc := 355) dL_law_355 rfl ?_
      refine wq_iconst (v := 3) (pc := 356) dL_law_356 (by decide) ?_
      refine wq_iadd (pc := 357) dL_law_357 ?_
      refine wq_sld (pc := 358) dL_law_358 F.1 ?_
      have F := F.2
      refine qvI [.int (scr (Int32.toNatClampNeg (x3 + 1))), .int (scr (Int32.toNatClampNeg (x3 + 2))), .int (scr (Int32.toNatClampNeg (x3 + 3)))] [] (pc := 359) dL_law_359 ml_L_36 iv_X11_deed (TX11s_k tx) (cl_X11 rfl) rfl rfl (Nat.le_of_ble_eq_true rfl) (Nat.le_of_ble_eq_true rfl) hc (wI.mono (fun r38 mi39 ml40 F => ?_) F)
      refine wq_aload_n (pc := 362) dL_law_362 rfl ?_
      refine wq_aload_nX (pc := 363) dL_law_363 rfl ?_
      refine wq_iload_n (pc := 364) dL_law_364 rfl ?_
      refine wq_iconst (v := 1) (pc := 365) dL_law_365 (by decide) ?_
      refine wq_iadd (pc := 366) dL_law_366 ?_
      refine wq_sld (pc := 367) dL_law_367 F.1 ?_
      have F := F.2
      refine wq_aload_nX (pc := 368) dL_law_368 rfl ?_
      refine wq_iload_n (pc := 369) dL_law_369 rfl ?_
      refine wq_iconst (v := 2) (pc := 370) dL_law_370 (by decide) ?_
      refine wq_iadd (pc := 371) dL_law_371 ?_
      refine wq_sld (pc := 372) dL_law_372 F.1 ?_
      have F := F.2
      refine wq_aload_nX (pc := 373) dL_law_373 rfl ?_
      refine wq_iload_n (pc := 374) dL_law_374 rfl ?_
      refine wq_iconst (v := 3) (pc := 375) dL_law_375 (by decide) ?_
      refine wq_iadd (pc := 376) dL_law_376 ?_
      refine wq_sld (pc := 377) dL_law_377 F.1 ?_
      have F := F.2
      refine qvI [.int (scr (Int32.toNatClampNeg (x3 + 1))), .int (scr (Int32.toNatClampNeg (x3 + 2))), .int (scr (Int32.toNatClampNeg (x3 + 3)))] [.int r38] (pc := 378) dL_law_378 ml_L_40 iv_X12_deed (TX12s_k tz) (cl_X12 rfl) rfl rfl (Nat.le_of_ble_eq_true rfl) (Nat.le_of_ble_eq_true rfl) hc (wI.mono (fun r41 mi42 ml43 F => ?_) F)
      refine wq_icmp_eq (tgt := 1352) (pc := 381) dL_law_381 (by decide) (fun c44 => ?_) (fun c44 => ?_)
      · have F := F.1 c44
        exact wq_less (L' := [some (.retAddr 8), some (.ref x), some (.ref z), some (.int x3)]) ⟨rfl, ⟨rfl, ⟨rfl, ⟨rfl, trivial⟩⟩⟩⟩ F
      · have F := F.2 c44
        refine wq_iconst (v := 0) (pc := 384) dL_law_384 (by decide) ?_
        exact F.elim
    · have F := F.2.2.2.2.2.2.1 c2
      refine wq_tableIn (tgt := 386) (pc := 33) dL_law_33 c2 (by decide) (by decide) rfl (by decide) ?_
      refine wq_aload_n (pc := 386) dL_law_386 rfl ?_
      refine wq_aload_nX (pc := 387) dL_law_387 rfl ?_
      refine wq_iload_n (pc := 388) dL_law_388 rfl ?_
      refine wq_iconst (v := 1) (pc := 389) dL_law_389 (by decide) ?_
      refine wq_iadd (pc := 390) dL_law_390 ?_
      refine wq_sld (pc := 391) dL_law_391 F.1 ?_
      have F := F.2
      refine wq_aload_nX (pc := 392) dL_law_392 rfl ?_
      refine wq_iload_n (pc := 393) dL_law_393 rfl ?_
      refine wq_iconst (v := 2) (pc := 394) dL_law_394 (by decide) ?_
      refine wq_iadd (pc := 395) dL_law_395 ?_
      refine wq_sld (pc := 396) dL_law_396 F.1 ?_
      have F := F.2
      refine qvI [.int (scr (Int32.toNatClampNeg (x3 + 1))), .int (scr (Int32.toNatClampNeg (x3 + 2)))] [] (pc := 397) dL_law_397 ml_L_41 iv_X11_stop (TX11s_k tx) (cl_X11 rfl) rfl rfl (Nat.le_of_ble_eq_true rfl) (Nat.le_of_ble_eq_true rfl) hc (wI.mono (fun r45 mi46 ml47 F => ?_) F)
      refine wq_aload_n (pc := 400) dL_law_400 rfl ?_
      refine wq_aload_nX (pc := 401) dL_law_401 rfl ?_
      refine wq_iload_n (pc := 402) dL_law_402 rfl ?_
      refine wq_iconst (v := 1) (pc := 403) dL_law_403 (by decide) ?_
      refine wq_iadd (pc := 404) dL_law_404 ?_
      refine wq_sld (pc := 405) dL_law_405 F.1 ?_
      have F := F.2
      refine wq_aload_nX (pc := 406) dL_law_406 rfl ?_
      refine wq_iload_n (pc := 407) dL_law_407 rfl ?_
      refine wq_iconst (v := 2) (pc := 408) dL_law_408 (by decide) ?_
      refine wq_iadd (pc := 409) dL_law_409 ?_
      refine wq_sld (pc := 410) dL_law_410 F.1 ?_
      have F := F.2
      refine qvI [.int (scr (Int32.toNatClampNeg (x3 + 1))), .int (scr (Int32.toNatClampNeg (x3 + 2)))] [.int r45] (pc := 411) dL_law_411 ml_L_44 iv_X12_stop (TX12s_k tz) (cl_X12 rfl) rfl rfl (Nat.le_of_ble_eq_true rfl) (Nat.le_of_ble_eq_true rfl) hc (wI.mono (fun r48 mi49 ml50 F => ?_) F)
      refine wq_icmp_eq (tgt := 1352) (pc := 414) dL_law_414 (by decide) (fun c51 => ?_) (fun c51 => ?_)
      · have F := F.1 c51
        exact wq_less (L' := [some (.retAddr 8), some (.ref x), some (.ref z), some (.int x3)]) ⟨rfl, ⟨rfl, ⟨rfl, ⟨rfl, trivial⟩⟩⟩⟩ F
      · have F := F.2 c51
        refine wq_iconst (v := 0) (pc := 417) dL_law_417 (by decide) ?_
        exact F.elim
    · have F := F.2.2.2.2.2.2.2.1 c2
      refine wq_tableIn (tgt := 419) (pc := 33) dL_law_33 c2 (by decide) (by decide) rfl (by decide) ?_
      refine wq_aload_n (pc := 419) dL_law_419 rfl ?_
      refine wq_aload_nX (pc := 420) dL_law_420 rfl ?_
      refine wq_iload_n (pc := 421) dL_law_421 rfl ?_
      refine wq_iconst (v := 1) (pc := 422) dL_law_422 (by decide) ?_
      refine wq_iadd (pc := 423) dL_law_423 ?_
      refine wq_sld (pc := 424) dL_law_424 F.1 ?_
      have F := F.2
      refine wq_aload_nX (pc := 425) dL_law_425 rfl ?_
      refine wq_iload_n (pc := 426) dL_law_426 rfl ?_
      refine wq_iconst (v := 2) (pc := 427) dL_law_427 (by decide) ?_
      refine wq_iadd (pc := 428) dL_law_428 ?_
      refine wq_sld (pc := 429) dL_law_429 F.1 ?_
      have F := F.2
      refine wq_aload_nX (pc := 430) dL_law_430 rfl ?_
      refine wq_iload_n (pc := 431) dL_law_431 rfl ?_
      refine wq_iconst (v := 3) (pc := 432) dL_law_432 (by decide) ?_
      refine wq_iadd (pc := 433) dL_law_433 ?_
      refine wq_sld (pc := 434) dL_law_434 F.1 ?_
      have F := F.2
      refine wq_aload_nX (pc := 435) dL_law_435 rfl ?_
      refine wq_iload_n (pc := 436) dL_law_436 rfl ?_
      refine wq_iconst (v := 4) (pc := 437) dL_law_437 (by decide) ?_
      refine wq_iadd (pc := 438) dL_law_438 ?_
      refine wq_sld (pc := 439) dL_law_439 F.1 ?_
      have F := F.2
      refine qvI [.int (scr (Int32.toNatClampNeg (x3 + 1))), .int (scr (Int32.toNatClampNeg (x3 + 2))), .int (scr (Int32.toNatClampNeg (x3 + 3))), .int (scr (Int32.toNatClampNeg (x3 + 4)))] [] (pc := 440) dL_law_440 ml_L_45 iv_X11_state (TX11s_k tx) (cl_X11 rfl) rfl rfl (Nat.le_of_ble_eq_true rfl) (Nat.le_of_ble_eq_true rfl) hc (wI.mono (fun r52 mi53 ml54 F => ?_) F)
      refine wq_aload_n (pc := 443) dL_law_443 rfl ?_
      refine wq_aload_nX (pc := 444) dL_law_444 rfl ?_
      refine wq_iload_n (pc := 445) dL_law_445 rfl ?_
      refine wq_iconst (v := 1) (pc := 446) dL_law_446 (by decide) ?_
      refine wq_iadd (pc := 447) dL_law_447 ?_
      refine wq_sld (pc := 448) dL_law_448 F.1 ?_
      have F := F.2
      refine wq_aload_nX (pc := 449) dL_law_449 rfl ?_
      refine wq_iload_n (pc := 450) dL_law_450 rfl ?_
      refine wq_iconst (v := 2) (pc := 451) dL_law_451 (by decide) ?_
      refine wq_iadd (pc := 452) dL_law_452 ?_
      refine wq_sld (pc := 453) dL_law_453 F.1 ?_
      have F := F.2
      refine wq_aload_nX (pc := 454) dL_law_454 rfl ?_
      refine wq_iload_n (pc := 455) dL_law_455 rfl ?_
      refine wq_iconst (v := 3) (pc := 456) dL_law_456 (by decide) ?_
      refine wq_iadd (pc := 457) dL_law_457 ?_
      refine wq_sld (pc := 458) dL_law_458 F.1 ?_
      have F := F.2
      refine wq_aload_nX (pc := 459) dL_law_459 rfl ?_
      refine wq_iload_n (pc := 460) dL_law_460 rfl ?_
      refine wq_iconst (v := 4) (pc := 461) dL_law_461 (by decide) ?_
      refine wq_iadd (pc := 462) dL_law_462 ?_
      refine wq_sld (pc := 463) dL_law_463 F.1 ?_
      have F := F.2
      refine qvI [.int (scr (Int32.toNatClampNeg (x3 + 1))), .int (scr (Int32.toNatClampNeg (x3 + 2))), .int (scr (Int32.toNatClampNeg (x3 + 3))), .int (scr (Int32.toNatClampNeg (x3 + 4)))] [.int r52] (pc := 464) dL_law_464 ml_L_49 iv_X12_state (TX12s_k tz) (cl_X12 rfl) rfl rfl (Nat.le_of_ble_eq_true rfl) (Nat.le_of_ble_eq_true rfl) hc (wI.mono (fun r55 mi56 ml57 F => ?_) F)
      refine wq_icmp_eq (tgt := 1352) (pc := 467) dL_law_467 (by decide) (fun c58 => ?_) (fun c58 => ?_)
      · have F := F.1 c58
        exact wq_less (L' := [some (.retAddr 8), some (.ref x), some (.ref z), some (.int x3)]) ⟨rfl, ⟨rfl, ⟨rfl, ⟨rfl, trivial⟩⟩⟩⟩ F
      · have F := F.2 c58
        refine wq_iconst (v := 0) (pc := 470) dL_law_470 (by decide) ?_
        exact F.elim
    · have F := F.2.2.2.2.2.2.2.2.1 c2
      refine wq_tableIn (tgt := 472) (pc := 33) dL_law_33 c2 (by decide) (by decide) rfl (by decide) ?_
      refine wq_aload_n (pc := 472) dL_law_472 rfl ?_
      refine wq_aload_nX (pc := 473) dL_law_473 rfl ?_
      refine wq_iload_n (pc := 474) dL_law_474 rfl ?_
      refine wq_iconst (v := 1) (pc := 475) dL_law_475 (by decide) ?_
      refine wq_iadd (pc := 476) dL_law_476 ?_
      refine wq_sld (pc := 477) dL_law_477 F.1 ?_
      have F := F.2
      refine wq_aload_nX (pc := 478) dL_law_478 rfl ?_
      refine wq_iload_n (pc := 479) dL_law_479 rfl ?_
      refine wq_iconst (v := 2) (pc := 480) dL_law_480 (by decide) ?_
      refine wq_iadd (pc := 481) dL_law_481 ?_
      refine wq_sld (pc := 482) dL_law_482 F.1 ?_
      have F := F.2
      refine wq_aload_nX (pc := 483) dL_law_483 rfl ?_
      refine wq_iload_n (pc := 484) dL_law_484 rfl ?_
      refine wq_iconst (v := 3) (pc := 485) dL_law_485 (by decide) ?_
      refine wq_iadd (pc := 486) dL_law_486 ?_
      refine wq_sld (pc := 487) dL_law_487 F.1 ?_
      have F := F.2
      refine qvI [.int (scr (Int32.toNatClampNeg (x3 + 1))), .int (scr (Int32.toNatClampNeg (x3 + 2))), .int (scr (Int32.toNatClampNeg (x3 + 3)))] [] (pc := 488) dL_law_488 ml_L_50 iv_X11_hears (TX11s_k tx) (cl_X11 rfl) rfl rfl (Nat.le_of_ble_eq_true rfl) (Nat.le_of_ble_eq_true rfl) hc (wI.mono (fun r59 mi60 ml61 F => ?_) F)
      refine wq_aload_n (pc := 491) dL_law_491 rfl ?_
      refine wq_aload_nX (pc := 492) dL_law_492 rfl ?_
      refine wq_iload_n (pc := 493) dL_law_493 rfl ?_
      refine wq_iconst (v := 1) (pc := 494) dL_law_494 (by decide) ?_
      refine wq_iadd (pc := 495) dL_law_495 ?_
      refine wq_sld (pc := 496) dL_law_496 F.1 ?_
      have F := F.2
      refine wq_aload_nX (pc := 497) dL_law_497 rfl ?_
      refine wq_iload_n (pc := 498) dL_law_498 rfl ?_
      refine wq_iconst (v := 2) (pc := 499) dL_law_499 (by decide) ?_
      refine wq_iadd (pc := 500) dL_law_500 ?_
      refine wq_sld (pc := 501) dL_law_501 F.1 ?_
      have F := F.2
      refine wq_aload_nX (pc := 502) dL_law_502 rfl ?_
      refine wq_iload_n (pc := 503) dL_law_503 rfl ?_
      refine wq_iconst (v := 3) (pc := 504) dL_law_504 (by decide) ?_
      refine wq_iadd (pc := 505) dL_law_505 ?_
      refine wq_sld (pc := 506) dL_law_506 F.1 ?_
      have F := F.2
      refine qvI [.int (scr (Int32.toNatClampNeg (x3 + 1))), .int (scr (Int32.toNatClampNeg (x3 + 2))), .int (scr (Int32.toNatClampNeg (x3 + 3)))] [.int r59] (pc := 507) dL_law_507 ml_L_53 iv_X12_hears (TX12s_k tz) (cl_X12 rfl) rfl rfl (Nat.le_of_ble_eq_true rfl) (Nat.le_of_ble_eq_true rfl) hc (wI.mono (fun r62 mi63 ml64 F => ?_) F)
      refine wq_icmp_eq (tgt := 1352) (pc := 510) dL_law_510 (by decide) (fun c65 => ?_) (fun c65 => ?_)
      · have F := F.1 c65
        exact wq_less (L' := [some (.retAddr 8), some (.ref x), some (.ref z), some (.int x3)]) ⟨rfl, ⟨rfl, ⟨rfl, ⟨rfl, trivial⟩⟩⟩⟩ F
      · have F := F.2 c65
        refine wq_iconst (v := 0) (pc := 513) dL_law_513 (by decide) ?_
        exact F.elim
    · have F := F.2.2.2.2.2.2.2.2.2.1 c2
      refine wq_tableIn (tgt := 515) (pc := 33) dL_law_33 c2 (by decide) (by decide) rfl (by decide) ?_
      refine wq_aload_n (pc := 515) dL_law_515 rfl ?_
      refine wq_aload_nX (pc := 516) dL_law_516 rfl ?_
      refine wq_iload_n (pc := 517) dL_law_517 rfl ?_
      refine wq_iconst (v := 1) (pc := 518) dL_law_518 (by decide) ?_
      refine wq_iadd (pc := 519) dL_law_519 ?_
      refine wq_sld (pc := 520) dL_law_520 F.1 ?_
      have F := F.2
      refine qvI [.int (scr (Int32.toNatClampNeg (x3 + 1)))] [] (pc := 521) dL_law_521 ml_L_54 iv_X11_enough (TX11s_k tx) (cl_X11 rfl) rfl rfl (Nat.le_of_ble_eq_true rfl) (Nat.le_of_ble_eq_true rfl) hc (wI.mono (fun r66 mi67 ml68 F => ?_) F)
      refine wq_aload_n (pc := 524) dL_law_524 rfl ?_
      refine wq_aload_nX (pc := 525) dL_law_525 rfl ?_
      refine wq_iload_n (pc := 526) dL_law_526 rfl ?_
      refine wq_iconst (v := 1) (pc := 527) dL_law_527 (by decide) ?_
      refine wq_iadd (pc := 528) dL_law_528 ?_
      refine wq_sld (pc := 529) dL_law_529 F.1 ?_
      have F := F.2
      refine qvI [.int (scr (Int32.toNatClampNeg (x3 + 1)))] [.int r66] (pc := 530) dL_law_530 ml_L_57 iv_X12_enough (TX12s_k tz) (cl_X12 rfl) rfl rfl (Nat.le_of_ble_eq_true rfl) (Nat.le_of_ble_eq_true rfl) hc (wI.mono (fun r69 mi70 ml71 F => ?_) F)
      refine wq_icmp_eq (tgt := 1352) (pc := 533) dL_law_533 (by decide) (fun c72 => ?_) (fun c72 => ?_)
      · have F := F.1 c72
        exact wq_less (L' := [some (.retAddr 8), some (.ref x), some (.ref z), some (.int x3)]) ⟨rfl, ⟨rfl, ⟨rfl, ⟨rfl, trivial⟩⟩⟩⟩ F
      · have F := F.2 c72
        refine wq_iconst (v := 0) (pc := 536) dL_law_536 (by decide) ?_
        exact F.elim
    · have F := F.2.2.2.2.2.2.2.2.2.2.1 c2
      refine wq_tableIn (tgt := 538) (pc := 33) dL_law_33 c2 (by decide) (by decide) rfl (by decide) ?_
      refine wq_aload_n (pc := 538) dL_law_538 rfl ?_
      refine wq_aload_nX (pc := 539) dL_law_539 rfl ?_
      refine wq_iload_n (pc := 540) dL_law_540 rfl ?_
      refine wq_iconst (v := 1) (pc := 541) dL_law_541 (by decide) ?_
      refine wq_iadd (pc := 542) dL_law_542 ?_
      refine wq_sld (pc := 543) dL_law_543 F.1 ?_
      have F := F.2
      refine wq_aload_nX (pc := 544) dL_law_544 rfl ?_
      refine wq_iload_n (pc := 545) dL_law_545 rfl ?_
      refine wq_iconst (v := 2) (pc := 546) dL_law_546 (by decide) ?_
      refine wq_iadd (pc := 547) dL_law_547 ?_
      refine wq_sld (pc := 548) dL_law_548 F.1 ?_
      have F := F.2
      refine wq_aload_nX (pc := 549) dL_law_549 rfl ?_
      refine wq_iload_n (pc := 550) dL_law_550 rfl ?_
      refine wq_iconst (v := 3) (pc := 551) dL_law_551 (by decide) ?_
      refine wq_iadd (pc := 552) dL_law_552 ?_
      refine wq_sld (pc := 553) dL_law_553 F.1 ?_
      have F := F.2
      refine wq_aload_nX (pc := 554) dL_law_554 rfl ?_
      refine wq_iload_n (pc := 555) dL_law_555 rfl ?_
      refine wq_iconst (v := 4) (pc := 556) dL_law_556 (by decide) ?_
      refine wq_iadd (pc := 557) dL_law_557 ?_
      refine wq_sld (pc := 558) dL_law_558 F.1 ?_
      have F := F.2
      refine qvI [.int (scr (Int32.toNatClampNeg (x3 + 1))), .int (scr (Int32.toNatClampNeg (x3 + 2))), .int (scr (Int32.toNatClampNeg (x3 + 3))), .int (scr (Int32.toNatClampNeg (x3 + 4)))] [] (pc := 559) dL_law_559 ml_L_58 iv_X11_fresh (TX11s_k tx) (cl_X11 rfl) rfl rfl (Nat.le_of_ble_eq_true rfl) (Nat.le_of_ble_eq_true rfl) hc (wI.mono (fun r73 mi74 ml75 F => ?_) F)
      refine wq_aload_n (pc := 562) dL_law_562 rfl ?_
      refine wq_aload_nX (pc := 563) dL_law_563 rfl ?_
      refine wq_iload_n (pc := 564) dL_law_564 rfl ?_
      refine wq_iconst (v := 1) (pc := 565) dL_law_565 (by decide) ?_
      refine wq_iadd (pc := 566) dL_law_566 ?_
      refine wq_sld (pc := 567) dL_law_567 F.1 ?_
      have F := F.2
      refine wq_aload_nX (pc := 568) dL_law_568 rfl ?_
      refine wq_iload_n (pc := 569) dL_law_569 rfl ?_
      refine wq_iconst (v := 2) (pc := 570) dL_law_570 (by decide) ?_
      refine wq_iadd (pc := 571) dL_law_571 ?_
      refine wq_sld (pc := 572) dL_law_572 F.1 ?_
      have F := F.2
      refine wq_aload_nX (pc := 573) dL_law_573 rfl ?_
      refine wq_iload_n (pc := 574) dL_law_574 rfl ?_
      refine wq_iconst (v := 3) (pc := 575) dL_law_575 (by decide) ?_
      refine wq_iadd (pc := 576) dL_law_576 ?_
      refine wq_sld (pc := 577) dL_law_577 F.1 ?_
      have F := F.2
      refine wq_aload_nX (pc := 578) dL_law_578 rfl ?_
      refine wq_iload_n (pc := 579) dL_law_579 rfl ?_
      refine wq_iconst (v := 4) (pc := 580) dL_law_580 (by decide) ?_
      refine wq_iadd (pc := 581) dL_law_581 ?_
      refine wq_sld (pc := 582) dL_law_582 F.1 ?_
      have F := F.2
      refine qvI [.int (scr (Int32.toNatClampNeg (x3 + 1))), .int (scr (Int32.toNatClampNeg (x3 + 2))), .int (scr (Int32.toNatClampNeg (x3 + 3))), .int (scr (Int32.toNatClampNeg (x3 + 4)))] [.int r73] (pc := 583) dL_law_583 ml_L_61 iv_X12_fresh (TX12s_k tz) (cl_X12 rfl) rfl rfl (Nat.le_of_ble_eq_true rfl) (Nat.le_of_ble_eq_true rfl) hc (wI.mono (fun r76 mi77 ml78 F => ?_) F)
      refine wq_icmp_eq (tgt := 1352) (pc := 586) dL_law_586 (by decide) (fun c79 => ?_) (fun c79 => ?_)
      · have F := F.1 c79
        exact wq_less (L' := [some (.retAddr 8), some (.ref x), some (.ref z), some (.int x3)]) ⟨rfl, ⟨rfl, ⟨rfl, ⟨rfl, trivial⟩⟩⟩⟩ F
      · have F := F.2 c79
        refine wq_iconst (v := 0) (pc := 589) dL_law_589 (by decide) ?_
        exact F.elim
    · have F := F.2.2.2.2.2.2.2.2.2.2.2.1 c2
      refine wq_tableIn (tgt := 591) (pc := 33) dL_law_33 c2 (by decide) (by decide) rfl (by decide) ?_
      refine wq_aload_n (pc := 591) dL_law_591 rfl ?_
      refine wq_aload_nX (pc := 592) dL_law_592 rfl ?_
      refine wq_iload_n (pc := 593) dL_law_593 rfl ?_
      refine wq_iconst (v := 1) (pc := 594) dL_law_594 (by decide) ?_
      refine wq_iadd (pc := 595) dL_law_595 ?_
      refine wq_sld (pc := 596) dL_law_596 F.1 ?_
      have F := F.2
      refine wq_aload_nX (pc := 597) dL_law_597 rfl ?_
      refine wq_iload_n (pc := 598) dL_law_598 rfl ?_
      refine wq_iconst (v := 2) (pc := 599) dL_law_599 (by decide) ?_
      refine wq_iadd (pc := 600) dL_law_600 ?_
      refine wq_sld (pc := 601) dL_law_601 F.1 ?_
      have F := F.2
      refine wq_aload_nX (pc := 602) dL_law_602 rfl ?_
      refine wq_iload_n (pc := 603) dL_law_603 rfl ?_
      refine wq_iconst (v := 3) (pc := 604) dL_law_604 (by decide) ?_
      refine wq_iadd (pc := 605) dL_law_605 ?_
      refine wq_sld (pc := 606) dL_law_606 F.1 ?_
      have F := F.2
      refine wq_aload_nX (pc := 607) dL_law_607 rfl ?_
      refine wq_iload_n (pc := 608) dL_law_608 rfl ?_
      refine wq_iconst (v := 4) (pc := 609) dL_law_609 (by decide) ?_
      refine wq_iadd (pc := 610) dL_law_610 ?_
      refine wq_sld (pc := 611) dL_law_611 F.1 ?_
      have F := F.2
      refine wq_aload_nX (pc := 612) dL_law_612 rfl ?_
      refine wq_iload_n (pc := 613) dL_law_613 rfl ?_
      refine wq_iconst (v := 5) (pc := 614) dL_law_614 (by decide) ?_
      refine wq_iadd (pc := 615) dL_law_615 ?_
      refine wq_sld (pc := 616) dL_law_616 F.1 ?_
      have F := F.2
      suffices J80 : ∀ v81 : Int32, v81 = (b2i (!decide ((scr (Int32.toNatClampNeg (x3 + 5))) = 0))) → wq l N scr 625 [some (.retAddr 8), some (.ref x), some (.ref z), some (.int x3)] [.int v81, .int (scr (Int32.toNatClampNeg (x3 + 4))), .int (scr (Int32.toNatClampNeg (x3 + 3))), .int (scr (Int32.toNatClampNeg (x3 + 2))), .int (scr (Int32.toNatClampNeg (x3 + 1))), .ref x] cs ss kd mi ml mr by
          refine wq_if_eq (tgt := 624) (pc := 617) dL_law_617 (by decide) (fun c82 => ?_) (fun c82 => ?_)
          · refine wq_iconst (v := 0) (pc := 624) dL_law_624 (by decide) ?_
            exact J80 _ (by simp only [eq_true c82, if_true, if_false, decide_true, decide_false, Bool.not_true, Bool.not_false, Bool.true_and, Bool.false_and, Bool.true_or, Bool.false_or, b2i_t, b2i_f, ite_true, ite_false, not_true_eq_false, not_false_eq_true, reduceCtorEq, decide_eq_true_eq])
          · refine wq_iconst (v := 1) (pc := 620) dL_law_620 (by decide) ?_
            refine wq_goto (tgt := 625) (pc := 621) dL_law_621 (by decide) ?_
            exact J80 _ (by simp only [c82, if_true, if_false, decide_true, decide_false, Bool.not_true, Bool.not_false, Bool.true_and, Bool.false_and, Bool.true_or, Bool.false_or, b2i_t, b2i_f, ite_true, ite_false, not_true_eq_false, not_false_eq_true, reduceCtorEq, decide_eq_true_eq])
      intro v81 ev81
      subst ev81
      refine qvI [.int (scr (Int32.toNatClampNeg (x3 + 1))), .int (scr (Int32.toNatClampNeg (x3 + 2))), .int (scr (Int32.toNatClampNeg (x3 + 3))), .int (scr (Int32.toNatClampNeg (x3 + 4))), .int (b2i (!decide ((scr (Int32.toNatClampNeg (x3 + 5))) = 0)))] [] (pc := 625) dL_law_625 ml_L_62 iv_X11_gather (TX11s_k tx) (cl_X11 rfl) rfl rfl (Nat.le_of_ble_eq_true rfl) (Nat.le_of_ble_eq_true rfl) hc (wI.mono (fun r83 mi84 ml85 F => ?_) F)
      refine wq_aload_n (pc := 628) dL_law_628 rfl ?_
      refine wq_aload_nX (pc := 629) dL_law_629 rfl ?_
      refine wq_iload_n (pc := 630) dL_law_630 rfl ?_
      refine wq_iconst (v := 1) (pc := 631) dL_law_631 (by decide) ?_
      refine wq_iadd (pc := 632) dL_law_632 ?_
      refine wq_sld (pc := 633) dL_law_633 F.1 ?_
      have F := F.2
      refine wq_aload_nX (pc := 634) dL_law_634 rfl ?_
      refine wq_iload_n (pc := 635) dL_law_635 rfl ?_
      refine wq_iconst (v := 2) (pc := 636) dL_law_636 (by decide) ?_
      refine wq_iadd (pc := 637) dL_law_637 ?_
      refine wq_sld (pc := 638) dL_law_638 F.1 ?_
      have F := F.2
      refine wq_aload_nX (pc := 639) dL_law_639 rfl ?_
      refine wq_iload_n (pc := 640) dL_law_640 rfl ?_
      refine wq_iconst (v := 3) (pc := 641) dL_law_641 (by decide) ?_
      refine wq_iadd (pc := 642) dL_law_642 ?_
      refine wq_sld (pc := 643) dL_law_643 F.1 ?_
      have F := F.2
      refine wq_aload_nX (pc := 644) dL_law_644 rfl ?_
      refine wq_iload_n (pc := 645) dL_law_645 rfl ?_
      refine wq_iconst (v := 4) (pc := 646) dL_law_646 (by decide) ?_
      refine wq_iadd (pc := 647) dL_law_647 ?_
      refine wq_sld (pc := 648) dL_law_648 F.1 ?_
      have F := F.2
      refine wq_aload_nX (pc := 649) dL_law_649 rfl ?_
      refine wq_iload_n (pc := 650) dL_law_650 rfl ?_
      refine wq_iconst (v := 5) (pc := 651) dL_law_651 (by decide) ?_
      refine wq_iadd (pc := 652) dL_law_652 ?_
      refine wq_sld (pc := 653) dL_law_653 F.1 ?_
      have F := F.2
      suffices J86 : ∀ v87 : Int32, v87 = (b2i (!decide ((scr (Int32.toNatClampNeg (x3 + 5))) = 0))) → wq l N scr 662 [some (.retAddr 8), some (.ref x), some (.ref z), some (.int x3)] [.int v87, .int (scr (Int32.toNatClampNeg (x3 + 4))), .int (scr (Int32.toNatClampNeg (x3 + 3))), .int (scr (Int32.toNatClampNeg (x3 + 2))), .int (scr (Int32.toNatClampNeg (x3 + 1))), .ref z, .int r83] cs ss kd mi84 ml85 mr by
          refine wq_if_eq (tgt := 661) (pc := 654) dL_law_654 (by decide) (fun c88 => ?_) (fun c88 => ?_)
          · refine wq_iconst (v := 0) (pc := 661) dL_law_661 (by decide) ?_
            exact J86 _ (by simp only [eq_true c88, if_true, if_false, decide_true, decide_false, Bool.not_true, Bool.not_false, Bool.true_and, Bool.false_and, Bool.true_or, Bool.false_or, b2i_t, b2i_f, ite_true, ite_false, not_true_eq_false, not_false_eq_true, reduceCtorEq, decide_eq_true_eq])
          · refine wq_iconst (v := 1) (pc := 657) dL_law_657 (by decide) ?_
            refine wq_goto (tgt := 662) (pc := 658) dL_law_658 (by decide) ?_
            exact J86 _ (by simp only [c88, if_true, if_false, decide_true, decide_false, Bool.not_true, Bool.not_false, Bool.true_and, Bool.false_and, Bool.true_or, Bool.false_or, b2i_t, b2i_f, ite_true, ite_false, not_true_eq_false, not_false_eq_true, reduceCtorEq, decide_eq_true_eq])
      intro v87 ev87
      subst ev87
      refine qvI [.int (scr (Int32.toNatClampNeg (x3 + 1))), .int (scr (Int32.toNatClampNeg (x3 + 2))), .int (scr (Int32.toNatClampNeg (x3 + 3))), .int (scr (Int32.toNatClampNeg (x3 + 4))), .int (b2i (!decide ((scr (Int32.toNatClampNeg (x3 + 5))) = 0)))] [.int r83] (pc := 662) dL_law_662 ml_L_66 iv_X12_gather (TX12s_k tz) (cl_X12 rfl) rfl rfl (Nat.le_of_ble_eq_true rfl) (Nat.le_of_ble_eq_true rfl) hc (wI.mono (fun r89 mi90 ml91 F => ?_) F)
      refine wq_icmp_eq (tgt := 1352) (pc := 665) dL_law_665 (by decide) (fun c92 => ?_) (fun c92 => ?_)
      · have F := F.1 c92
        exact wq_less (L' := [some (.retAddr 8), some (.ref x), some (.ref z), some (.int x3)]) ⟨rfl, ⟨rfl, ⟨rfl, ⟨rfl, trivial⟩⟩⟩⟩ F
      · have F := F.2 c92
        refine wq_iconst (v := 0) (pc := 668) dL_law_668 (by decide) ?_
        exact F.elim
    · have F := F.2.2.2.2.2.2.2.2.2.2.2.2.1 c2
      refine wq_tableIn (tgt := 670) (pc := 33) dL_law_33 c2 (by decide) (by decide) rfl (by decide) ?_
      refine wq_aload_n (pc := 670) dL_law_670 rfl ?_
      refine wq_aload_nX (pc := 671) dL_law_671 rfl ?_
      refine wq_iload_n (pc := 672) dL_law_672 rfl ?_
      refine wq_iconst (v := 1) (pc := 673) dL_law_673 (by decide) ?_
      refine wq_iadd (pc := 674) dL_law_674 ?_
      refine wq_sld (pc := 675) dL_law_675 F.1 ?_
      have F := F.2
      refine wq_aload_nX (pc := 676) dL_law_676 rfl ?_
      refine wq_iload_n (pc := 677) dL_law_677 rfl ?_
      refine wq_iconst (v := 2) (pc := 678) dL_law_678 (by decide) ?_
      refine wq_iadd (pc := 679) dL_law_679 ?_
      refine wq_sld (pc := 680) dL_law_680 F.1 ?_
      have F := F.2
      refine wq_aload_nX (pc := 681) dL_law_681 rfl ?_
      refine wq_iload_n (pc := 682) dL_law_682 rfl ?_
      refine wq_iconst (v := 3) (pc := 683) dL_law_683 (by decide) ?_
      refine wq_iadd (pc := 684) dL_law_684 ?_
      refine wq_sld (pc := 685) dL_law_685 F.1 ?_
      have F := F.2
      refine qvI [.int (scr (Int32.toNatClampNeg (x3 + 1))), .int (scr (Int32.toNatClampNeg (x3 + 2))), .int (scr (Int32.toNatClampNeg (x3 + 3)))] [] (pc := 686) dL_law_686 ml_L_67 iv_X11_chase (TX11s_k tx) (cl_X11 rfl) rfl rfl (Nat.le_of_ble_eq_true rfl) (Nat.le_of_ble_eq_true rfl) hc (wI.mono (fun r93 mi94 ml95 F => ?_) F)
      refine wq_aload_n (pc := 689) dL_law_689 rfl ?_
      refine wq_aload_nX (pc := 690) dL_law_690 rfl ?_
      refine wq_iload_n (pc := 691) dL_law_691 rfl ?_
      refine wq_iconst (v := 1) (pc := 692) dL_law_692 (by decide) ?_
      refine wq_iadd (pc := 693) dL_law_693 ?_
      refine wq_sld (pc := 694) dL_law_694 F.1 ?_
      have F := F.2
      refine wq_aload_nX (pc := 695) dL_law_695 rfl ?_
      refine wq_iload_n (pc := 696) dL_law_696 rfl ?_
      refine wq_iconst (v := 2) (pc := 697) dL_law_697 (by decide) ?_
      refine wq_iadd (pc := 698) dL_law_698 ?_
      refine wq_sld (pc := 699) dL_law_699 F.1 ?_
      have F := F.2
      refine wq_aload_nX (pc := 700) dL_law_700 rfl ?_
      refine wq_iload_n (pc := 701) dL_law_701 rfl ?_
      refine wq_iconst (v := 3) (pc := 702) dL_law_702 (by decide) ?_
      refine wq_iadd (pc := 703) dL_law_703 ?_
      refine wq_sld (pc := 704) dL_law_704 F.1 ?_
      have F := F.2
      refine qvI [.int (scr (Int32.toNatClampNeg (x3 + 1))), .int (scr (Int32.toNatClampNeg (x3 + 2))), .int (scr (Int32.toNatClampNeg (x3 + 3)))] [.int r93] (pc := 705) dL_law_705 ml_L_70 iv_X12_chase (TX12s_k tz) (cl_X12 rfl) rfl rfl (Nat.le_of_ble_eq_true rfl) (Nat.le_of_ble_eq_true rfl) hc (wI.mono (fun r96 mi97 ml98 F => ?_) F)
      refine wq_icmp_eq (tgt := 1352) (pc := 708) dL_law_708 (by decide) (fun c99 => ?_) (fun c99 => ?_)
      · have F := F.1 c99
        exact wq_less (L' := [some (.retAddr 8), some (.ref x), some (.ref z), some (.int x3)]) ⟨rfl, ⟨rfl, ⟨rfl, ⟨rfl, trivial⟩⟩⟩⟩ F
      · have F := F.2 c99
        refine wq_iconst (v := 0) (pc := 711) dL_law_711 (by decide) ?_
        exact F.elim
    · have F := F.2.2.2.2.2.2.2.2.2.2.2.2.2.1 c2
      refine wq_tableIn (tgt := 713) (pc := 33) dL_law_33 c2 (by decide) (by decide) rfl (by decide) ?_
      refine wq_aload_n (pc := 713) dL_law_713 rfl ?_
      refine wq_aload_nX (pc := 714) dL_law_714 rfl ?_
      refine wq_iload_n (pc := 715) dL_law_715 rfl ?_
      refine wq_iconst (v := 1) (pc := 716) dL_law_716 (by decide) ?_
      refine wq_iadd (pc := 717) dL_law_717 ?_
      refine wq_sld (pc := 718) dL_law_718 F.1 ?_
      have F := F.2
      refine wq_aload_nX (pc := 719) dL_law_719 rfl ?_
      refine wq_iload_n (pc := 720) dL_law_720 rfl ?_
      refine wq_iconst (v := 2) (pc := 721) dL_law_721 (by decide) ?_
      refine wq_iadd (pc := 722) dL_law_722 ?_
      refine wq_sld (pc := 723) dL_law_723 F.1 ?_
      have F := F.2
      refine wq_aload_nX (pc := 724) dL_law_724 rfl ?_
      refine wq_iload_n (pc := 725) dL_law_725 rfl ?_
      refine wq_iconst (v := 3) (pc := 726) dL_law_726 (by decide) ?_
      refine wq_iadd (pc := 727) dL_law_727 ?_
      refine wq_sld (pc := 728) dL_law_728 F.1 ?_
      have F := F.2
      refine qvI [.int (scr (Int32.toNatClampNeg (x3 + 1))), .int (scr (Int32.toNatClampNeg (x3 + 2))), .int (scr (Int32.toNatClampNeg (x3 + 3)))] [] (pc := 729) dL_law_729 ml_L_71 iv_X11_programme (TX11s_k tx) (cl_X11 rfl) rfl rfl (Nat.le_of_ble_eq_true rfl) (Nat.le_of_ble_eq_true rfl) hc (wI.mono (fun r100 mi101 ml102 F => ?_) F)
      refine wq_aload_n (pc := 732) dL_law_732 rfl ?_
      refine wq_aload_nX (pc := 733) dL_law_733 rfl ?_
      refine wq_iload_n (pc := 734) dL_law_734 rfl ?_
      refine wq_iconst (v := 1) (pc := 735) dL_law_735 (by decide) ?_
      refine wq_iadd (pc := 736) dL_law_736 ?_
      refine wq_sld (pc := 737) dL_law_737 F.1 ?_
      have F := F.2
      refine wq_aload_nX (pc := 738) dL_law_738 rfl ?_
      refine wq_iload_n (pc := 739) dL_law_739 rfl ?_
      refine wq_iconst (v := 2) (pc := 740) dL_law_740 (by decide) ?_
      refine wq_iadd (pc := 741) dL_law_741 ?_
      refine wq_sld (pc := 742) dL_law_742 F.1 ?_
      have F := F.2
      refine wq_aload_nX (pc := 743) dL_law_743 rfl ?_
      refine wq_iload_n (pc := 744) dL_law_744 rfl ?_
      refine wq_iconst (v := 3) (pc := 745) dL_law_745 (by decide) ?_
      refine wq_iadd (pc := 746) dL_law_746 ?_
      refine wq_sld (pc := 747) dL_law_747 F.1 ?_
      have F := F.2
      refine qvI [.int (scr (Int32.toNatClampNeg (x3 + 1))), .int (scr (Int32.toNatClampNeg (x3 + 2))), .int (scr (Int32.toNatClampNeg (x3 + 3)))] [.int r100] (pc := 748) dL_law_748 ml_L_74 iv_X12_programme (TX12s_k tz) (cl_X12 rfl) rfl rfl (Nat.le_of_ble_eq_true rfl) (Nat.le_of_ble_eq_true rfl) hc (wI.mono (fun r103 mi104 ml105 F => ?_) F)
      refine wq_icmp_eq (tgt := 1352) (pc := 751) dL_law_751 (by decide) (fun c106 => ?_) (fun c106 => ?_)
      · have F := F.1 c106
        exact wq_less (L' := [some (.retAddr 8), some (.ref x), some (.ref z), some (.int x3)]) ⟨rfl, ⟨rfl, ⟨rfl, ⟨rfl, trivial⟩⟩⟩⟩ F
      · have F := F.2 c106
        refine wq_iconst (v := 0) (pc := 754) dL_law_754 (by decide) ?_
        exact F.elim
    · have F := F.2.2.2.2.2.2.2.2.2.2.2.2.2.2.1 c2
      refine wq_tableIn (tgt := 756) (pc := 33) dL_law_33 c2 (by decide) (by decide) rfl (by decide) ?_
      refine wq_aload_n (pc := 756) dL_law_756 rfl ?_
      refine wq_aload_nX (pc := 757) dL_law_757 rfl ?_
      refine wq_iload_n (pc := 758) dL_law_758 rfl ?_
      refine wq_iconst (v := 1) (pc := 759) dL_law_759 (by decide) ?_
      refine wq_iadd (pc := 760) dL_law_760 ?_
      refine wq_sld (pc := 761) dL_law_761 F.1 ?_
      have F := F.2
      refine wq_aload_nX (pc := 762) dL_law_762 rfl ?_
      refine wq_iload_n (pc := 763) dL_law_763 rfl ?_
      refine wq_iconst (v := 2) (pc := 764) dL_law_764 (by decide) ?_
      refine wq_iadd (pc := 765) dL_law_765 ?_
      refine wq_sld (pc := 766) dL_law_766 F.1 ?_
      have F := F.2
      refine wq_aload_nX (pc := 767) dL_law_767 rfl ?_
      refine wq_iload_n (pc := 768) dL_law_768 rfl ?_
      refine wq_iconst (v := 3) (pc := 769) dL_law_769 (by decide) ?_
      refine wq_iadd (pc := 770) dL_law_770 ?_
      refine wq_sld (pc := 771) dL_law_771 F.1 ?_
      have F := F.2
      suffices J107 : ∀ v108 : Int32, v108 = (b2i (!decide ((scr (Int32.toNatClampNeg (x3 + 3))) = 0))) → wq l N scr 780 [some (.retAddr 8), some (.ref x), some (.ref z), some (.int x3)] [.int v108, .int (scr (Int32.toNatClampNeg (x3 + 2))), .int (scr (Int32.toNatClampNeg (x3 + 1))), .ref x] cs ss kd mi ml mr by
          refine wq_if_eq (tgt := 779) (pc := 772) dL_law_772 (by decide) (fun c109 => ?_) (fun c109 => ?_)
          · refine wq_iconst (v := 0) (pc := 779) dL_law_779 (by decide) ?_
            exact J107 _ (by simp only [eq_true c109, if_true, if_false, decide_true, decide_false, Bool.not_true, Bool.not_false, Bool.true_and, Bool.false_and, Bool.true_or, Bool.false_or, b2i_t, b2i_f, ite_true, ite_false, not_true_eq_false, not_false_eq_true, reduceCtorEq, decide_eq_true_eq])
          · refine wq_iconst (v := 1) (pc := 775) dL_law_775 (by decide) ?_
            refine wq_goto (tgt := 780) (pc := 776) dL_law_776 (by decide) ?_
            exact J107 _ (by simp only [c109, if_true, if_false, decide_true, decide_false, Bool.not_true, Bool.not_false, Bool.true_and, Bool.false_and, Bool.true_or, Bool.false_or, b2i_t, b2i_f, ite_true, ite_false, not_true_eq_false, not_false_eq_true, reduceCtorEq, decide_eq_true_eq])
      intro v108 ev108
      subst ev108
      refine qvI [.int (scr (Int32.toNatClampNeg (x3 + 1))), .int (scr (Int32.toNatClampNeg (x3 + 2))), .int (b2i (!decide ((scr (Int32.toNatClampNeg (x3 + 3))) = 0)))] [] (pc := 780) dL_law_780 ml_L_75 iv_X11_part (TX11s_k tx) (cl_X11 rfl) rfl rfl (Nat.le_of_ble_eq_true rfl) (Nat.le_of_ble_eq_true rfl) hc (wI.mono (fun r110 mi111 ml112 F => ?_) F)
      refine wq_aload_n (pc := 783) dL_law_783 rfl ?_
      refine wq_aload_nX (pc := 784) dL_law_784 rfl ?_
      refine wq_iload_n (pc := 785) dL_law_785 rfl ?_
      refine wq_iconst (v := 1) (pc := 786) dL_law_786 (by decide) ?_
      refine wq_iadd (pc := 787) dL_law_787 ?_
      refine wq_sld (pc := 788) dL_law_788 F.1 ?_
      have F := F.2
      refine wq_aload_nX (pc := 789) dL_law_789 rfl ?_
      refine wq_iload_n (pc := 790) dL_law_790 rfl ?_
      refine wq_iconst (v := 2) (pc := 791) dL_law_791 (by decide) ?_
      refine wq_iadd (pc := 792) dL_law_792 ?_
      refine wq_sld (pc := 793) dL_law_793 F.1 ?_
      have F := F.2
      refine wq_aload_nX (pc := 794) dL_law_794 rfl ?_
      refine wq_iload_n (pc := 795) dL_law_795 rfl ?_
      refine wq_iconst (v := 3) (pc := 796) dL_law_796 (by decide) ?_
      refine wq_iadd (pc := 797) dL_law_797 ?_
      refine wq_sld (pc := 798) dL_law_798 F.1 ?_
      have F := F.2
      suffices J113 : ∀ v114 : Int32, v114 = (b2i (!decide ((scr (Int32.toNatClampNeg (x3 + 3))) = 0))) → wq l N scr 807 [some (.retAddr 8), some (.ref x), some (.ref z), some (.int x3)] [.int v114, .int (scr (Int32.toNatClampNeg (x3 + 2))), .int (scr (Int32.toNatClampNeg (x3 + 1))), .ref z, .int r110] cs ss kd mi111 ml112 mr by
          refine wq_if_eq (tgt := 806) (pc := 799) dL_law_799 (by decide) (fun c115 => ?_) (fun c115 => ?_)
          · refine wq_iconst (v := 0) (pc := 806) dL_law_806 (by decide) ?_
            exact J113 _ (by simp only [eq_true c115, if_true, if_false, decide_true, decide_false, Bool.not_true, Bool.not_false, Bool.true_and, Bool.false_and, Bool.true_or, Bool.false_or, b2i_t, b2i_f, ite_true, ite_false, not_true_eq_false, not_false_eq_true, reduceCtorEq, decide_eq_true_eq])
          · refine wq_iconst (v := 1) (pc := 802) dL_law_802 (by decide) ?_
            refine wq_goto (tgt := 807) (pc := 803) dL_law_803 (by decide) ?_
            exact J113 _ (by simp only [c115, if_true, if_false, decide_true, decide_false, Bool.not_true, Bool.not_false, Bool.true_and, Bool.false_and, Bool.true_or, Bool.false_or, b2i_t, b2i_f, ite_true, ite_false, not_true_eq_false, not_false_eq_true, reduceCtorEq, decide_eq_true_eq])
      intro v114 ev114
      subst ev114
      refine qvI [.int (scr (Int32.toNatClampNeg (x3 + 1))), .int (scr (Int32.toNatClampNeg (x3 + 2))), .int (b2i (!decide ((scr (Int32.toNatClampNeg (x3 + 3))) = 0)))] [.int r110] (pc := 807) dL_law_807 ml_L_79 iv_X12_part (TX12s_k tz) (cl_X12 rfl) rfl rfl (Nat.le_of_ble_eq_true rfl) (Nat.le_of_ble_eq_true rfl) hc (wI.mono (fun r116 mi117 ml118 F => ?_) F)
      refine wq_icmp_eq (tgt := 1352) (pc := 810) dL_law_810 (by decide) (fun c119 => ?_) (fun c119 => ?_)
      · have F := F.1 c119
        exact wq_less (L' := [some (.retAddr 8), some (.ref x), some (.ref z), some (.int x3)]) ⟨rfl, ⟨rfl, ⟨rfl, ⟨rfl, trivial⟩⟩⟩⟩ F
      · have F := F.2 c119
        refine wq_iconst (v := 0) (pc := 813) dL_law_813 (by decide) ?_
        exact F.elim
    · have F := F.2.2.2.2.2.2.2.2.2.2.2.2.2.2.2.1 c2
      refine wq_tableIn (tgt := 815) (pc := 33) dL_law_33 c2 (by decide) (by decide) rfl (by decide) ?_
      refine wq_aload_n (pc := 815) dL_law_815 rfl ?_
      refine wq_aload_nX (pc := 816) dL_law_816 rfl ?_
      refine wq_iload_n (pc := 817) dL_law_817 rfl ?_
      refine wq_iconst (v := 1) (pc := 818) dL_law_818 (by decide) ?_
      refine wq_iadd (pc := 819) dL_law_819 ?_
      refine wq_sld (pc := 820) dL_law_820 F.1 ?_
      have F := F.2
      refine qvI [.int (scr (Int32.toNatClampNeg (x3 + 1)))] [] (pc := 821) dL_law_821 ml_L_80 iv_X11_line (TX11s_k tx) (cl_X11 rfl) rfl rfl (Nat.le_of_ble_eq_true rfl) (Nat.le_of_ble_eq_true rfl) hc (wI.mono (fun r120 mi121 ml122 F => ?_) F)
      refine wq_aload_n (pc := 824) dL_law_824 rfl ?_
      refine wq_aload_nX (pc := 825) dL_law_825 rfl ?_
      refine wq_iload_n (pc := 826) dL_law_826 rfl ?_
      refine wq_iconst (v := 1) (pc := 827) dL_law_827 (by decide) ?_
      refine wq_iadd (pc := 828) dL_law_828 ?_
      refine wq_sld (pc := 829) dL_law_829 F.1 ?_
      have F := F.2
      refine qvI [.int (scr (Int32.toNatClampNeg (x3 + 1)))] [.int r120] (pc := 830) dL_law_830 ml_L_83 iv_X12_line (TX12s_k tz) (cl_X12 rfl) rfl rfl (Nat.le_of_ble_eq_true rfl) (Nat.le_of_ble_eq_true rfl) hc (wI.mono (fun r123 mi124 ml125 F => ?_) F)
      refine wq_icmp_eq (tgt := 1352) (pc := 833) dL_law_833 (by decide) (fun c126 => ?_) (fun c126 => ?_)
      · have F := F.1 c126
        exact wq_less (L' := [some (.retAddr 8), some (.ref x), some (.ref z), some (.int x3)]) ⟨rfl, ⟨rfl, ⟨rfl, ⟨rfl, trivial⟩⟩⟩⟩ F
      · have F := F.2 c126
        refine wq_iconst (v := 0) (pc := 836) dL_law_836 (by decide) ?_
        exact F.elim
    · have F := F.2.2.2.2.2.2.2.2.2.2.2.2.2.2.2.2.1 c2
      refine wq_tableIn (tgt := 838) (pc := 33) dL_law_33 c2 (by decide) (by decide) rfl (by decide) ?_
      refine wq_aload_n (pc := 838) dL_law_838 rfl ?_
      refine wq_aload_nX (pc := 839) dL_law_839 rfl ?_
      refine wq_iload_n (pc := 840) dL_law_840 rfl ?_
      refine wq_iconst (v := 1) (pc := 841) dL_law_841 (by decide) ?_
      refine wq_iadd (pc := 842) dL_law_842 ?_
      refine wq_sld (pc := 843) dL_law_843 F.1 ?_
      have F := F.2
      refine wq_aload_nX (pc := 844) dL_law_844 rfl ?_
      refine wq_iload_n (pc := 845) dL_law_845 rfl ?_
      refine wq_iconst (v := 2) (pc := 846) dL_law_846 (by decide) ?_
      refine wq_iadd (pc := 847) dL_law_847 ?_
      refine wq_sld (pc := 848) dL_law_848 F.1 ?_
      have F := F.2
      refine qvI [.int (scr (Int32.toNatClampNeg (x3 + 1))), .int (scr (Int32.toNatClampNeg (x3 + 2)))] [] (pc := 849) dL_law_849 ml_L_84 iv_X11_trial (TX11s_k tx) (cl_X11 rfl) rfl rfl (Nat.le_of_ble_eq_true rfl) (Nat.le_of_ble_eq_true rfl) hc (wI.mono (fun r127 mi128 ml129 F => ?_) F)
      refine wq_aload_n (pc := 852) dL_law_852 rfl ?_
      refine wq_aload_nX (pc := 853) dL_law_853 rfl ?_
      refine wq_iload_n (pc := 854) dL_law_854 rfl ?_
      refine wq_iconst (v := 1) (pc := 855) dL_law_855 (by decide) ?_
      refine wq_iadd (pc := 856) dL_law_856 ?_
      refine wq_sld (pc := 857) dL_law_857 F.1 ?_
      have F := F.2
      refine wq_aload_nX (pc := 858) dL_law_858 rfl ?_
      refine wq_iload_n (pc := 859) dL_law_859 rfl ?_
      refine wq_iconst (v := 2) (pc := 860) dL_law_860 (by decide) ?_
      refine wq_iadd (pc := 861) dL_law_861 ?_
      refine wq_sld (pc := 862) dL_law_862 F.1 ?_
      have F := F.2
      refine qvI [.int (scr (Int32.toNatClampNeg (x3 + 1))), .int (scr (Int32.toNatClampNeg (x3 + 2)))] [.int r127] (pc := 863) dL_law_863 ml_L_87 iv_X12_trial (TX12s_k tz) (cl_X12 rfl) rfl rfl (Nat.le_of_ble_eq_true rfl) (Nat.le_of_ble_eq_true rfl) hc (wI.mono (fun r130 mi131 ml132 F => ?_) F)
      refine wq_icmp_eq (tgt := 1352) (pc := 866) dL_law_866 (by decide) (fun c133 => ?_) (fun c133 => ?_)
      · have F := F.1 c133
        exact wq_less (L' := [some (.retAddr 8), some (.ref x), some (.ref z), some (.int x3)]) ⟨rfl, ⟨rfl, ⟨rfl, ⟨rfl, trivial⟩⟩⟩⟩ F
      · have F := F.2 c133
        refine wq_iconst (v := 0) (pc := 869) dL_law_869 (by decide) ?_
        exact F.elim
    · have F := F.2.2.2.2.2.2.2.2.2.2.2.2.2.2.2.2.2.1 c2
      refine wq_tableIn (tgt := 871) (pc := 33) dL_law_33 c2 (by decide) (by decide) rfl (by decide) ?_
      refine wq_aload_n (pc := 871) dL_law_871 rfl ?_
      refine wq_aload_nX (pc := 872) dL_law_872 rfl ?_
      refine wq_iload_n (pc := 873) dL_law_873 rfl ?_
      refine wq_iconst (v := 1) (pc := 874) dL_law_874 (by decide) ?_
      refine wq_iadd (pc := 875) dL_law_875 ?_
      refine wq_sld (pc := 876) dL_law_876 F.1 ?_
      have F := F.2
      refine wq_aload_nX (pc := 877) dL_law_877 rfl ?_
      refine wq_iload_n (pc := 878) dL_law_878 rfl ?_
      refine wq_iconst (v := 2) (pc := 879) dL_law_879 (by decide) ?_
      refine wq_iadd (pc := 880) dL_law_880 ?_
      refine wq_sld (pc := 881) dL_law_881 F.1 ?_
      have F := F.2
      refine qvI [.int (scr (Int32.toNatClampNeg (x3 + 1))), .int (scr (Int32.toNatClampNeg (x3 + 2)))] [] (pc := 882) dL_law_882 ml_L_88 iv_X11_thieves (TX11s_k tx) (cl_X11 rfl) rfl rfl (Nat.le_of_ble_eq_true rfl) (Nat.le_of_ble_eq_true rfl) hc (wI.mono (fun r134 mi135 ml136 F => ?_) F)
      refine wq_aload_n (pc := 885) dL_law_885 rfl ?_
      refine wq_aload_nX (pc := 886) dL_law_886 rfl ?_
      refine wq_iload_n (pc := 887) dL_law_887 rfl ?_
      refine wq_iconst (v := 1) (pc := 888) dL_law_888 (by decide) ?_
      refine wq_iadd (pc := 889) dL_law_889 ?_
      refine wq_sld (pc := 890) dL_law_890 F.1 ?_
      have F := F.2
      refine wq_aload_nX (pc := 891) dL_law_891 rfl ?_
      refine wq_iload_n (pc := 892) dL_law_892 rfl ?_
      refine wq_iconst (v := 2) (pc := 893) dL_law_893 (by decide) ?_
      refine wq_iadd (pc := 894) dL_law_894 ?_
      refine wq_sld (pc := 895) dL_law_895 F.1 ?_
      have F := F.2
      refine qvI [.int (scr (Int32.toNatClampNeg (x3 + 1))), .int (scr (Int32.toNatClampNeg (x3 + 2)))] [.int r134] (pc := 896) dL_law_896 ml_L_91 iv_X12_thieves (TX12s_k tz) (cl_X12 rfl) rfl rfl (Nat.le_of_ble_eq_true rfl) (Nat.le_of_ble_eq_true rfl) hc (wI.mono (fun r137 mi138 ml139 F => ?_) F)
      refine wq_icmp_eq (tgt := 1352) (pc := 899) dL_law_899 (by decide) (fun c140 => ?_) (fun c140 => ?_)
      · have F := F.1 c140
        exact wq_less (L' := [some (.retAddr 8), some (.ref x), some (.ref z), some (.int x3)]) ⟨rfl, ⟨rfl, ⟨rfl, ⟨rfl, trivial⟩⟩⟩⟩ F
      · have F := F.2 c140
        refine wq_iconst (v := 0) (pc := 902) dL_law_902 (by decide) ?_
        exact F.elim
    · have F := F.2.2.2.2.2.2.2.2.2.2.2.2.2.2.2.2.2.2.1 c2
      refine wq_tableIn (tgt := 904) (pc := 33) dL_law_33 c2 (by decide) (by decide) rfl (by decide) ?_
      refine wq_aload_n (pc := 904) dL_law_904 rfl ?_
      refine wq_aload_nX (pc := 905) dL_law_905 rfl ?_
      refine wq_iload_n (pc := 906) dL_law_906 rfl ?_
      refine wq_iconst (v := 1) (pc := 907) dL_law_907 (by decide) ?_
      refine wq_iadd (pc := 908) dL_law_908 ?_
      refine wq_sld (pc := 909) dL_law_909 F.1 ?_
      have F := F.2
      refine wq_aload_nX (pc := 910) dL_law_910 rfl ?_
      refine wq_iload_n (pc := 911) dL_law_911 rfl ?_
      refine wq_iconst (v := 2) (pc := 912) dL_law_912 (by decide) ?_
      refine wq_iadd (pc := 913) dL_law_913 ?_
      refine wq_sld (pc := 914) dL_law_914 F.1 ?_
      have F := F.2
      refine wq_aload_nX (pc := 915) dL_law_915 rfl ?_
      refine wq_iload_n (pc := 916) dL_law_916 rfl ?_
      refine wq_iconst (v := 3) (pc := 917) dL_law_917 (by decide) ?_
      refine wq_iadd (pc := 918) dL_law_918 ?_
      refine wq_sld (pc := 919) dL_law_919 F.1 ?_
      have F := F.2
      refine qvI [.int (scr (Int32.toNatClampNeg (x3 + 1))), .int (scr (Int32.toNatClampNeg (x3 + 2))), .int (scr (Int32.toNatClampNeg (x3 + 3)))] [] (pc := 920) dL_law_920 ml_L_92 iv_X11_fact (TX11s_k tx) (cl_X11 rfl) rfl rfl (Nat.le_of_ble_eq_true rfl) (Nat.le_of_ble_eq_true rfl) hc (wI.mono (fun r141 mi142 ml143 F => ?_) F)
      refine wq_aload_n (pc := 923) dL_law_923 rfl ?_
      refine wq_aload_nX (pc := 924) dL_law_924 rfl ?_
      refine wq_iload_n (pc := 925) dL_law_925 rfl ?_
      refine wq_iconst (v := 1) (pc := 926) dL_law_926 (by decide) ?_
      refine wq_iadd (pc := 927) dL_law_927 ?_
      refine wq_sld (pc := 928) dL_law_928 F.1 ?_
      have F := F.2
      refine wq_aload_nX (pc := 929) dL_law_929 rfl ?_
      refine wq_iload_n (pc := 930) dL_law_930 rfl ?_
      refine wq_iconst (v := 2) (pc := 931) dL_law_931 (by decide) ?_
      refine wq_iadd (pc := 932) dL_law_932 ?_
      refine wq_sld (pc := 933) dL_law_933 F.1 ?_
      have F := F.2
      refine wq_aload_nX (pc := 934) dL_law_934 rfl ?_
      refine wq_iload_n (pc := 935) dL_law_935 rfl ?_
      refine wq_iconst (v := 3) (pc := 936) dL_law_936 (by decide) ?_
      refine wq_iadd (pc := 937) dL_law_937 ?_
      refine wq_sld (pc := 938) dL_law_938 F.1 ?_
      have F := F.2
      refine qvI [.int (scr (Int32.toNatClampNeg (x3 + 1))), .int (scr (Int32.toNatClampNeg (x3 + 2))), .int (scr (Int32.toNatClampNeg (x3 + 3)))] [.int r141] (pc := 939) dL_law_939 ml_L_95 iv_X12_fact (TX12s_k tz) (cl_X12 rfl) rfl rfl (Nat.le_of_ble_eq_true rfl) (Nat.le_of_ble_eq_true rfl) hc (wI.mono (fun r144 mi145 ml146 F => ?_) F)
      refine wq_icmp_eq (tgt := 1352) (pc := 942) dL_law_942 (by decide) (fun c147 => ?_) (fun c147 => ?_)
      · have F := F.1 c147
        exact wq_less (L' := [some (.retAddr 8), some (.ref x), some (.ref z), some (.int x3)]) ⟨rfl, ⟨rfl, ⟨rfl, ⟨rfl, trivial⟩⟩⟩⟩ F
      · have F := F.2 c147
        refine wq_iconst (v := 0) (pc := 945) dL_law_945 (by decide) ?_
        exact F.elim
    · have F := F.2.2.2.2.2.2.2.2.2.2.2.2.2.2.2.2.2.2.2.1 c2
      refine wq_tableIn (tgt := 947) (pc := 33) dL_law_33 c2 (by decide) (by decide) rfl (by decide) ?_
      refine wq_aload_n (pc := 947) dL_law_947 rfl ?_
      refine wq_aload_nX (pc := 948) dL_law_948 rfl ?_
      refine wq_iload_n (pc := 949) dL_law_949 rfl ?_
      refine wq_iconst (v := 1) (pc := 950) dL_law_950 (by decide) ?_
      refine wq_iadd (pc := 951) dL_law_951 ?_
      refine wq_sld (pc := 952) dL_law_952 F.1 ?_
      have F := F.2
      refine wq_aload_nX (pc := 953) dL_law_953 rfl ?_
      refine wq_iload_n (pc := 954) dL_law_954 rfl ?_
      refine wq_iconst (v := 2) (pc := 955) dL_law_955 (by decide) ?_
      refine wq_iadd (pc := 956) dL_law_956 ?_
      refine wq_sld (pc := 957) dL_law_957 F.1 ?_
      have F := F.2
      refine wq_aload_nX (pc := 958) dL_law_958 rfl ?_
      refine wq_iload_n (pc := 959) dL_law_959 rfl ?_
      refine wq_iconst (v := 3) (pc := 960) dL_law_960 (by decide) ?_
      refine wq_iadd (pc := 961) dL_law_961 ?_
      refine wq_sld (pc := 962) dL_law_962 F.1 ?_
      have F := F.2
      refine qvI [.int (scr (Int32.toNatClampNeg (x3 + 1))), .int (scr (Int32.toNatClampNeg (x3 + 2))), .int (scr (Int32.toNatClampNeg (x3 + 3)))] [] (pc := 963) dL_law_963 ml_L_96 iv_X11_seen (TX11s_k tx) (cl_X11 rfl) rfl rfl (Nat.le_of_ble_eq_true rfl) (Nat.le_of_ble_eq_true rfl) hc (wI.mono (fun r148 mi149 ml150 F => ?_) F)
      refine wq_aload_n (pc := 966) dL_law_966 rfl ?_
      refine wq_aload_nX (pc := 967) dL_law_967 rfl ?_
      refine wq_iload_n (pc := 968) dL_law_968 rfl ?_
      refine wq_iconst (v := 1) (pc := 969) dL_law_969 (by decide) ?_
      refine wq_iadd (pc := 970) dL_law_970 ?_
      refine wq_sld (pc := 971) dL_law_971 F.1 ?_
      have F := F.2
      refine wq_aload_nX (pc := 972) dL_law_972 rfl ?_
      refine wq_iload_n (pc := 973) dL_law_973 rfl ?_
      refine wq_iconst (v := 2) (pc := 974) dL_law_974 (by decide) ?_
      refine wq_iadd (pc := 975) dL_law_975 ?_
      refine wq_sld (pc := 976) dL_law_976 F.1 ?_
      have F := F.2
      refine wq_aload_nX (pc := 977) dL_law_977 rfl ?_
      refine wq_iload_n (pc := 978) dL_law_978 rfl ?_
      refine wq_iconst (v := 3) (pc := 979) dL_law_979 (by decide) ?_
      refine wq_iadd (pc := 980) dL_law_980 ?_
      refine wq_sld (pc := 981) dL_law_981 F.1 ?_
      have F := F.2
      refine qvI [.int (scr (Int32.toNatClampNeg (x3 + 1))), .int (scr (Int32.toNatClampNeg (x3 + 2))), .int (scr (Int32.toNatClampNeg (x3 + 3)))] [.int r148] (pc := 982) dL_law_982 ml_L_99 iv_X12_seen (TX12s_k tz) (cl_X12 rfl) rfl rfl (Nat.le_of_ble_eq_true rfl) (Nat.le_of_ble_eq_true rfl) hc (wI.mono (fun r151 mi152 ml153 F => ?_) F)
      refine wq_icmp_eq (tgt := 1352) (pc := 985) dL_law_985 (by decide) (fun c154 => ?_) (fun c154 => ?_)
      · have F := F.1 c154
        exact wq_less (L' := [some (.retAddr 8), some (.ref x), some (.ref z), some (.int x3)]) ⟨rfl, ⟨rfl, ⟨rfl, ⟨rfl, trivial⟩⟩⟩⟩ F
      · have F := F.2 c154
        refine wq_iconst (v := 0) (pc := 988) dL_law_988 (by decide) ?_
        exact F.elim
    · have F := F.2.2.2.2.2.2.2.2.2.2.2.2.2.2.2.2.2.2.2.2.1 c2
      refine wq_tableIn (tgt := 990) (pc := 33) dL_law_33 c2 (by decide) (by decide) rfl (by decide) ?_
      refine wq_aload_n (pc := 990) dL_law_990 rfl ?_
      refine wq_aload_nX (pc := 991) dL_law_991 rfl ?_
      refine wq_iload_n (pc := 992) dL_law_992 rfl ?_
      refine wq_iconst (v := 1) (pc := 993) dL_law_993 (by decide) ?_
      refine wq_iadd (pc := 994) dL_law_994 ?_
      refine wq_sld (pc := 995) dL_law_995 F.1 ?_
      have F := F.2
      refine wq_aload_nX (pc := 996) dL_law_996 rfl ?_
      refine wq_iload_n (pc := 997) dL_law_997 rfl ?_
      refine wq_iconst (v := 2) (pc := 998) dL_law_998 (by decide) ?_
      refine wq_iadd (pc := 999) dL_law_999 ?_
      refine wq_sld (pc := 1000) dL_law_1000 F.1 ?_
      have F := F.2
      refine wq_aload_nX (pc := 1001) dL_law_1001 rfl ?_
      refine wq_iload_n (pc := 1002) dL_law_1002 rfl ?_
      refine wq_iconst (v := 3) (pc := 1003) dL_law_1003 (by decide) ?_
      refine wq_iadd (pc := 1004) dL_law_1004 ?_
      refine wq_sld (pc := 1005) dL_law_1005 F.1 ?_
      have F := F.2
      refine wq_aload_nX (pc := 1006) dL_law_1006 rfl ?_
      refine wq_iload_n (pc := 1007) dL_law_1007 rfl ?_
      refine wq_iconst (v := 4) (pc := 1008) dL_law_1008 (by decide) ?_
      refine wq_iadd (pc := 1009) dL_law_1009 ?_
      refine wq_sld (pc := 1010) dL_law_1010 F.1 ?_
      have F := F.2
      refine qvI [.int (scr (Int32.toNatClampNeg (x3 + 1))), .int (scr (Int32.toNatClampNeg (x3 + 2))), .int (scr (Int32.toNatClampNeg (x3 + 3))), .int (scr (Int32.toNatClampNeg (x3 + 4)))] [] (pc := 1011) dL_law_1011 ml_L_100 iv_X11_drawn (TX11s_k tx) (cl_X11 rfl) rfl rfl (Nat.le_of_ble_eq_true rfl) (Nat.le_of_ble_eq_true rfl) hc (wI.mono (fun r155 mi156 ml157 F => ?_) F)
      refine wq_aload_n (pc := 1014) dL_law_1014 rfl ?_
      refine wq_aload_nX (pc := 1015) dL_law_1015 rfl ?_
      refine wq_iload_n (pc := 1016) dL_law_1016 rfl ?_
      refine wq_iconst (v := 1) (pc := 1017) dL_law_1017 (by decide) ?_
      refine wq_iadd (pc := 1018) dL_law_1018 ?_
      refine wq_sld (pc := 1019) dL_law_1019 F.1 ?_
      have F := F.2
      refine wq_aload_nX (pc := 1020) dL_law_1020 rfl ?_
      refine wq_iload_n (pc := 1021) dL_law_1021 rfl ?_
      refine wq_iconst (v := 2) (pc := 1022) dL_law_1022 (by decide) ?_
      refine wq_iadd (pc := 1023) dL_law_1023 ?_
      refine wq_sld (pc := 1024) dL_law_1024 F.1 ?_
      have F := F.2
      refine wq_aload_nX (pc := 1025) dL_law_1025 rfl ?_
      refine wq_iload_n (pc := 1026) dL_law_1026 rfl ?_
      refine wq_iconst (v := 3) (pc := 1027) dL_law_1027 (by decide) ?_
      refine wq_iadd (pc := 1028) dL_law_1028 ?_
      refine wq_sld (pc := 1029) dL_law_1029 F.1 ?_
      have F := F.2
      refine wq_aload_nX (pc := 1030) dL_law_1030 rfl ?_
      refine wq_iload_n (pc := 1031) dL_law_1031 rfl ?_
      refine wq_iconst (v := 4) (pc := 1032) dL_law_1032 (by decide) ?_
      refine wq_iadd (pc := 1033) dL_law_1033 ?_
      refine wq_sld (pc := 1034) dL_law_1034 F.1 ?_
      have F := F.2
      refine qvI [.int (scr (Int32.toNatClampNeg (x3 + 1))), .int (scr (Int32.toNatClampNeg (x3 + 2))), .int (scr (Int32.toNatClampNeg (x3 + 3))), .int (scr (Int32.toNatClampNeg (x3 + 4)))] [.int r155] (pc := 1035) dL_law_1035 ml_L_103 iv_X12_drawn (TX12s_k tz) (cl_X12 rfl) rfl rfl (Nat.le_of_ble_eq_true rfl) (Nat.le_of_ble_eq_true rfl) hc (wI.mono (fun r158 mi159 ml160 F => ?_) F)
      refine wq_icmp_eq (tgt := 1352) (pc := 1038) dL_law_1038 (by decide) (fun c161 => ?_) (fun c161 => ?_)
      · have F := F.1 c161
        exact wq_less (L' := [some (.retAddr 8), some (.ref x), some (.ref z), some (.int x3)]) ⟨rfl, ⟨rfl, ⟨rfl, ⟨rfl, trivial⟩⟩⟩⟩ F
      · have F := F.2 c161
        refine wq_iconst (v := 0) (pc := 1041) dL_law_1041 (by decide) ?_
        exact F.elim
    · have F := F.2.2.2.2.2.2.2.2.2.2.2.2.2.2.2.2.2.2.2.2.2.1 c2
      refine wq_tableIn (tgt := 1043) (pc := 33) dL_law_33 c2 (by decide) (by decide) rfl (by decide) ?_
      refine wq_aload_n (pc := 1043) dL_law_1043 rfl ?_
      refine wq_aload_nX (pc := 1044) dL_law_1044 rfl ?_
      refine wq_iload_n (pc := 1045) dL_law_1045 rfl ?_
      refine wq_iconst (v := 1) (pc := 1046) dL_law_1046 (by decide) ?_
      refine wq_iadd (pc := 1047) dL_law_1047 ?_
      refine wq_sld (pc := 1048) dL_law_1048 F.1 ?_
      have F := F.2
      refine wq_aload_nX (pc := 1049) dL_law_1049 rfl ?_
      refine wq_iload_n (pc := 1050) dL_law_1050 rfl ?_
      refine wq_iconst (v := 2) (pc := 1051) dL_law_1051 (by decide) ?_
      refine wq_iadd (pc := 1052) dL_law_1052 ?_
      refine wq_sld (pc := 1053) dL_law_1053 F.1 ?_
      have F := F.2
      refine wq_aload_nX (pc := 1054) dL_law_1054 rfl ?_
      refine wq_iload_n (pc := 1055) dL_law_1055 rfl ?_
      refine wq_iconst (v := 3) (pc := 1056) dL_law_1056 (by decide) ?_
      refine wq_iadd (pc := 1057) dL_law_1057 ?_
      refine wq_sld (pc := 1058) dL_law_1058 F.1 ?_
      have F := F.2
      refine qvI [.int (scr (Int32.toNatClampNeg (x3 + 1))), .int (scr (Int32.toNatClampNeg (x3 + 2))), .int (scr (Int32.toNatClampNeg (x3 + 3)))] [] (pc := 1059) dL_law_1059 ml_L_104 iv_X11_steps (TX11s_k tx) (cl_X11 rfl) rfl rfl (Nat.le_of_ble_eq_true rfl) (Nat.le_of_ble_eq_true rfl) hc (wI.mono (fun r162 mi163 ml164 F => ?_) F)
      refine wq_aload_n (pc := 1062) dL_law_1062 rfl ?_
      refine wq_aload_nX (pc := 1063) dL_law_1063 rfl ?_
      refine wq_iload_n (pc := 1064) dL_law_1064 rfl ?_
      refine wq_iconst (v := 1) (pc := 1065) dL_law_1065 (by decide) ?_
      refine wq_iadd (pc := 1066) dL_law_1066 ?_
      refine wq_sld (pc := 1067) dL_law_1067 F.1 ?_
      have F := F.2
      refine wq_aload_nX (pc := 1068) dL_law_1068 rfl ?_
      refine wq_iload_n (pc := 1069) dL_law_1069 rfl ?_
      refine wq_iconst (v := 2) (pc := 1070) dL_law_1070 (by decide) ?_
      refine wq_iadd (pc := 1071) dL_law_1071 ?_
      refine wq_sld (pc := 1072) dL_law_1072 F.1 ?_
      have F := F.2
      refine wq_aload_nX (pc := 1073) dL_law_1073 rfl ?_
      refine wq_iload_n (pc := 1074) dL_law_1074 rfl ?_
      refine wq_iconst (v := 3) (pc := 1075) dL_law_1075 (by decide) ?_
      refine wq_iadd (pc := 1076) dL_law_1076 ?_
      refine wq_sld (pc := 1077) dL_law_1077 F.1 ?_
      have F := F.2
      refine qvI [.int (scr (Int32.toNatClampNeg (x3 + 1))), .int (scr (Int32.toNatClampNeg (x3 + 2))), .int (scr (Int32.toNatClampNeg (x3 + 3)))] [.int r162] (pc := 1078) dL_law_1078 ml_L_107 iv_X12_steps (TX12s_k tz) (cl_X12 rfl) rfl rfl (Nat.le_of_ble_eq_true rfl) (Nat.le_of_ble_eq_true rfl) hc (wI.mono (fun r165 mi166 ml167 F => ?_) F)
      refine wq_icmp_eq (tgt := 1352) (pc := 1081) dL_law_1081 (by decide) (fun c168 => ?_) (fun c168 => ?_)
      · have F := F.1 c168
        exact wq_less (L' := [some (.retAddr 8), some (.ref x), some (.ref z), some (.int x3)]) ⟨rfl, ⟨rfl, ⟨rfl, ⟨rfl, trivial⟩⟩⟩⟩ F
      · have F := F.2 c168
        refine wq_iconst (v := 0) (pc := 1084) dL_law_1084 (by decide) ?_
        exact F.elim
    · have F := F.2.2.2.2.2.2.2.2.2.2.2.2.2.2.2.2.2.2.2.2.2.2.1 c2
      refine wq_tableIn (tgt := 1086) (pc := 33) dL_law_33 c2 (by decide) (by decide) rfl (by decide) ?_
      refine wq_aload_n (pc := 1086) dL_law_1086 rfl ?_
      refine wq_aload_nX (pc := 1087) dL_law_1087 rfl ?_
      refine wq_iload_n (pc := 1088) dL_law_1088 rfl ?_
      refine wq_iconst (v := 1) (pc := 1089) dL_law_1089 (by decide) ?_
      refine wq_iadd (pc := 1090) dL_law_1090 ?_
      refine wq_sld (pc := 1091) dL_law_1091 F.1 ?_
      have F := F.2
      refine wq_aload_nX (pc := 1092) dL_law_1092 rfl ?_
      refine wq_iload_n (pc := 1093) dL_law_1093 rfl ?_
      refine wq_iconst (v := 2) (pc := 1094) dL_law_1094 (by decide) ?_
      refine wq_iadd (pc := 1095) dL_law_1095 ?_
      refine wq_sld (pc := 1096) dL_law_1096 F.1 ?_
      have F := F.2
      suffices J169 : ∀ v170 : Int32, v170 = (b2i (!decide ((scr (Int32.toNatClampNeg (x3 + 2))) = 0))) → wq l N scr 1105 [some (.retAddr 8), some (.ref x), some (.ref z), some (.int x3)] [.int v170, .int (scr (Int32.toNatClampNeg (x3 + 1))), .ref x] cs ss kd mi ml mr by
          refine wq_if_eq (tgt := 1104) (pc := 1097) dL_law_1097 (by decide) (fun c171 => ?_) (fun c171 => ?_)
          · refine wq_iconst (v := 0) (pc := 1104) dL_law_1104 (by decide) ?_
            exact J169 _ (by simp only [eq_true c171, if_true, if_false, decide_true, decide_false, Bool.not_true, Bool.not_false, Bool.true_and, Bool.false_and, Bool.true_or, Bool.false_or, b2i_t, b2i_f, ite_true, ite_false, not_true_eq_false, not_false_eq_true, reduceCtorEq, decide_eq_true_eq])
          · refine wq_iconst (v := 1) (pc := 1100) dL_law_1100 (by decide) ?_
            refine wq_goto (tgt := 1105) (pc := 1101) dL_law_1101 (by decide) ?_
            exact J169 _ (by simp only [c171, if_true, if_false, decide_true, decide_false, Bool.not_true, Bool.not_false, Bool.true_and, Bool.false_and, Bool.true_or, Bool.false_or, b2i_t, b2i_f, ite_true, ite_false, not_true_eq_false, not_false_eq_true, reduceCtorEq, decide_eq_true_eq])
      intro v170 ev170
      subst ev170
      refine qvI [.int (scr (Int32.toNatClampNeg (x3 + 1))), .int (b2i (!decide ((scr (Int32.toNatClampNeg (x3 + 2))) = 0)))] [] (pc := 1105) dL_law_1105 ml_L_108 iv_X11_blocks (TX11s_k tx) (cl_X11 rfl) rfl rfl (Nat.le_of_ble_eq_true rfl) (Nat.le_of_ble_eq_true rfl) hc (wI.mono (fun r172 mi173 ml174 F => ?_) F)
      refine wq_aload_n (pc := 1108) dL_law_1108 rfl ?_
      refine wq_aload_nX (pc := 1109) dL_law_1109 rfl ?_
      refine wq_iload_n (pc := 1110) dL_law_1110 rfl ?_
      refine wq_iconst (v := 1) (pc := 1111) dL_law_1111 (by decide) ?_
      refine wq_iadd (pc := 1112) dL_law_1112 ?_
      refine wq_sld (pc := 1113) dL_law_1113 F.1 ?_
      have F := F.2
      refine wq_aload_nX (pc := 1114) dL_law_1114 rfl ?_
      refine wq_iload_n (pc := 1115) dL_law_1115 rfl ?_
      refine wq_iconst (v := 2) (pc := 1116) dL_law_1116 (by decide) ?_
      refine wq_iadd (pc := 1117) dL_law_1117 ?_
      refine wq_sld (pc := 1118) dL_law_1118 F.1 ?_
      have F := F.2
      suffices J175 : ∀ v176 : Int32, v176 = (b2i (!decide ((scr (Int32.toNatClampNeg (x3 + 2))) = 0))) → wq l N scr 1127 [some (.retAddr 8), some (.ref x), some (.ref z), some (.int x3)] [.int v176, .int (scr (Int32.toNatClampNeg (x3 + 1))), .ref z, .int r172] cs ss kd mi173 ml174 mr by
          refine wq_if_eq (tgt := 1126) (pc := 1119) dL_law_1119 (by decide) (fun c177 => ?_) (fun c177 => ?_)
          · refine wq_iconst (v := 0) (pc := 1126) dL_law_1126 (by decide) ?_
            exact J175 _ (by simp only [eq_true c177, if_true, if_false, decide_true, decide_false, Bool.not_true, Bool.not_false, Bool.true_and, Bool.false_and, Bool.true_or, Bool.false_or, b2i_t, b2i_f, ite_true, ite_false, not_true_eq_false, not_false_eq_true, reduceCtorEq, decide_eq_true_eq])
          · refine wq_iconst (v := 1) (pc := 1122) dL_law_1122 (by decide) ?_
            refine wq_goto (tgt := 1127) (pc := 1123) dL_law_1123 (by decide) ?_
            exact J175 _ (by simp only [c177, if_true, if_false, decide_true, decide_false, Bool.not_true, Bool.not_false, Bool.true_and, Bool.false_and, Bool.true_or, Bool.false_or, b2i_t, b2i_f, ite_true, ite_false, not_true_eq_false, not_false_eq_true, reduceCtorEq, decide_eq_true_eq])
      intro v176 ev176
      subst ev176
      refine qvI [.int (scr (Int32.toNatClampNeg (x3 + 1))), .int (b2i (!decide ((scr (Int32.toNatClampNeg (x3 + 2))) = 0)))] [.int r172] (pc := 1127) dL_law_1127 ml_L_112 iv_X12_blocks (TX12s_k tz) (cl_X12 rfl) rfl rfl (Nat.le_of_ble_eq_true rfl) (Nat.le_of_ble_eq_true rfl) hc (wI.mono (fun r178 mi179 ml180 F => ?_) F)
      refine wq_icmp_eq (tgt := 1352) (pc := 1130) dL_law_1130 (by decide) (fun c181 => ?_) (fun c181 => ?_)
      · have F := F.1 c181
        exact wq_less (L' := [some (.retAddr 8), some (.ref x), some (.ref z), some (.int x3)]) ⟨rfl, ⟨rfl, ⟨rfl, ⟨rfl, trivial⟩⟩⟩⟩ F
      · have F := F.2 c181
        refine wq_iconst (v := 0) (pc := 1133) dL_law_1133 (by decide) ?_
        exact F.elim
    · have F := F.2.2.2.2.2.2.2.2.2.2.2.2.2.2.2.2.2.2.2.2.2.2.2.1 c2
      refine wq_tableIn (tgt := 1135) (pc := 33) dL_law_33 c2 (by decide) (by decide) rfl (by decide) ?_
      refine wq_aload_n (pc := 1135) dL_law_1135 rfl ?_
      refine wq_aload_nX (pc := 1136) dL_law_1136 rfl ?_
      refine wq_iload_n (pc := 1137) dL_law_1137 rfl ?_
      refine wq_iconst (v := 1) (pc := 1138) dL_law_1138 (by decide) ?_
      refine wq_iadd (pc := 1139) dL_law_1139 ?_
      refine wq_sld (pc := 1140) dL_law_1140 F.1 ?_
      have F := F.2
      refine wq_aload_nX (pc := 1141) dL_law_1141 rfl ?_
      refine wq_iload_n (pc := 1142) dL_law_1142 rfl ?_
      refine wq_iconst (v := 2) (pc := 1143) dL_law_1143 (by decide) ?_
      refine wq_iadd (pc := 1144) dL_law_1144 ?_
      refine wq_sld (pc := 1145) dL_law_1145 F.1 ?_
      have F := F.2
      refine wq_aload_nX (pc := 1146) dL_law_1146 rfl ?_
      refine wq_iload_n (pc := 1147) dL_law_1147 rfl ?_
      refine wq_iconst (v := 3) (pc := 1148) dL_law_1148 (by decide) ?_
      refine wq_iadd (pc := 1149) dL_law_1149 ?_
      refine wq_sld (pc := 1150) dL_law_1150 F.1 ?_
      have F := F.2
      refine qvI [.int (scr (Int32.toNatClampNeg (x3 + 1))), .int (scr (Int32.toNatClampNeg (x3 + 2))), .int (scr (Int32.toNatClampNeg (x3 + 3)))] [] (pc := 1151) dL_law_1151 ml_L_113 iv_X11_cordon (TX11s_k tx) (cl_X11 rfl) rfl rfl (Nat.le_of_ble_eq_true rfl) (Nat.le_of_ble_eq_true rfl) hc (wI.mono (fun r182 mi183 ml184 F => ?_) F)
      refine wq_aload_n (pc := 1154) dL_law_1154 rfl ?_
      refine wq_aload_nX (pc := 1155) dL_law_1155 rfl ?_
      refine wq_iload_n (pc := 1156) dL_law_1156 rfl ?_
      refine wq_iconst (v := 1) (pc := 1157) dL_law_1157 (by decide) ?_
      refine wq_iadd (pc := 1158) dL_law_1158 ?_
      refine wq_sld (pc := 1159) dL_law_1159 F.1 ?_
      have F := F.2
      refine wq_aload_nX (pc := 1160) dL_law_1160 rfl ?_
      refine wq_iload_n (pc := 1161) dL_law_1161 rfl ?_
      refine wq_iconst (v := 2) (pc := 1162) dL_law_1162 (by decide) ?_
      refine wq_iadd (pc := 1163) dL_law_1163 ?_
      refine wq_sld (pc := 1164) dL_law_1164 F.1 ?_
      have F := F.2
      refine wq_aload_nX (pc := 1165) dL_law_1165 rfl ?_
      refine wq_iload_n (pc := 1166) dL_law_1166 rfl ?_
      refine wq_iconst (v := 3) (pc := 1167) dL_law_1167 (by decide) ?_
      refine wq_iadd (pc := 1168) dL_law_1168 ?_
      refine wq_sld (pc := 1169) dL_law_1169 F.1 ?_
      have F := F.2
      refine qvI [.int (scr (Int32.toNatClampNeg (x3 + 1))), .int (scr (Int32.toNatClampNeg (x3 + 2))), .int (scr (Int32.toNatClampNeg (x3 + 3)))] [.int r182] (pc := 1170) dL_law_1170 ml_L_116 iv_X12_cordon (TX12s_k tz) (cl_X12 rfl) rfl rfl (Nat.le_of_ble_eq_true rfl) (Nat.le_of_ble_eq_true rfl) hc (wI.mono (fun r185 mi186 ml187 F => ?_) F)
      refine wq_icmp_eq (tgt := 1352) (pc := 1173) dL_law_1173 (by decide) (fun c188 => ?_) (fun c188 => ?_)
      · have F := F.1 c188
        exact wq_less (L' := [some (.retAddr 8), some (.ref x), some (.ref z), some (.int x3)]) ⟨rfl, ⟨rfl, ⟨rfl, ⟨rfl, trivial⟩⟩⟩⟩ F
      · have F := F.2 c188
        refine wq_iconst (v := 0) (pc := 1176) dL_law_1176 (by decide) ?_
        exact F.elim
    · have F := F.2.2.2.2.2.2.2.2.2.2.2.2.2.2.2.2.2.2.2.2.2.2.2.2.1 c2
      refine wq_tableIn (tgt := 1178) (pc := 33) dL_law_33 c2 (by decide) (by decide) rfl (by decide) ?_
      refine wq_aload_n (pc := 1178) dL_law_1178 rfl ?_
      refine wq_aload_nX (pc := 1179) dL_law_1179 rfl ?_
      refine wq_iload_n (pc := 1180) dL_law_1180 rfl ?_
      refine wq_iconst (v := 1) (pc := 1181) dL_law_1181 (by decide) ?_
      refine wq_iadd (pc := 1182) dL_law_1182 ?_
      refine wq_sld (pc := 1183) dL_law_1183 F.1 ?_
      have F := F.2
      refine wq_aload_nX (pc := 1184) dL_law_1184 rfl ?_
      refine wq_iload_n (pc := 1185) dL_law_1185 rfl ?_
      refine wq_iconst (v := 2) (pc := 1186) dL_law_1186 (by decide) ?_
      refine wq_iadd (pc := 1187) dL_law_1187 ?_
      refine wq_sld (pc := 1188) dL_law_1188 F.1 ?_
      have F := F.2
      suffices J189 : ∀ v190 : Int32, v190 = (b2i (!decide ((scr (Int32.toNatClampNeg (x3 + 2))) = 0))) → wq l N scr 1197 [some (.retAddr 8), some (.ref x), some (.ref z), some (.int x3)] [.int v190, .int (scr (Int32.toNatClampNeg (x3 + 1))), .ref x] cs ss kd mi ml mr by
          refine wq_if_eq (tgt := 1196) (pc := 1189) dL_law_1189 (by decide) (fun c191 => ?_) (fun c191 => ?_)
          · refine wq_iconst (v := 0) (pc := 1196) dL_law_1196 (by decide) ?_
            exact J189 _ (by simp only [eq_true c191, if_true, if_false, decide_true, decide_false, Bool.not_true, Bool.not_false, Bool.true_and, Bool.false_and, Bool.true_or, Bool.false_or, b2i_t, b2i_f, ite_true, ite_false, not_true_eq_false, not_false_eq_true, reduceCtorEq, decide_eq_true_eq])
          · refine wq_iconst (v := 1) (pc := 1192) dL_law_1192 (by decide) ?_
            refine wq_goto (tgt := 1197) (pc := 1193) dL_law_1193 (by decide) ?_
            exact J189 _ (by simp only [c191, if_true, if_false, decide_true, decide_false, Bool.not_true, Bool.not_false, Bool.true_and, Bool.false_and, Bool.true_or, Bool.false_or, b2i_t, b2i_f, ite_true, ite_false, not_true_eq_false, not_false_eq_true, reduceCtorEq, decide_eq_true_eq])
      intro v190 ev190
      subst ev190
      refine qvI [.int (scr (Int32.toNatClampNeg (x3 + 1))), .int (b2i (!decide ((scr (Int32.toNatClampNeg (x3 + 2))) = 0)))] [] (pc := 1197) dL_law_1197 ml_L_117 iv_X11_square (TX11s_k tx) (cl_X11 rfl) rfl rfl (Nat.le_of_ble_eq_true rfl) (Nat.le_of_ble_eq_true rfl) hc (wI.mono (fun r192 mi193 ml194 F => ?_) F)
      refine wq_aload_n (pc := 1200) dL_law_1200 rfl ?_
      refine wq_aload_nX (pc := 1201) dL_law_1201 rfl ?_
      refine wq_iload_n (pc := 1202) dL_law_1202 rfl ?_
      refine wq_iconst (v := 1) (pc := 1203) dL_law_1203 (by decide) ?_
      refine wq_iadd (pc := 1204) dL_law_1204 ?_
      refine wq_sld (pc := 1205) dL_law_1205 F.1 ?_
      have F := F.2
      refine wq_aload_nX (pc := 1206) dL_law_1206 rfl ?_
      refine wq_iload_n (pc := 1207) dL_law_1207 rfl ?_
      refine wq_iconst (v := 2) (pc := 1208) dL_law_1208 (by decide) ?_
      refine wq_iadd (pc := 1209) dL_law_1209 ?_
      refine wq_sld (pc := 1210) dL_law_1210 F.1 ?_
      have F := F.2
      suffices J195 : ∀ v196 : Int32, v196 = (b2i (!decide ((scr (Int32.toNatClampNeg (x3 + 2))) = 0))) → wq l N scr 1219 [some (.retAddr 8), some (.ref x), some (.ref z), some (.int x3)] [.int v196, .int (scr (Int32.toNatClampNeg (x3 + 1))), .ref z, .int r192] cs ss kd mi193 ml194 mr by
          refine wq_if_eq (tgt := 1218) (pc := 1211) dL_law_1211 (by decide) (fun c197 => ?_) (fun c197 => ?_)
          · refine wq_iconst (v := 0) (pc := 1218) dL_law_1218 (by decide) ?_
            exact J195 _ (by simp only [eq_true c197, if_true, if_false, decide_true, decide_false, Bool.not_true, Bool.not_false, Bool.true_and, Bool.false_and, Bool.true_or, Bool.false_or, b2i_t, b2i_f, ite_true, ite_false, not_true_eq_false, not_false_eq_true, reduceCtorEq, decide_eq_true_eq])
          · refine wq_iconst (v := 1) (pc := 1214) dL_law_1214 (by decide) ?_
            refine wq_goto (tgt := 1219) (pc := 1215) dL_law_1215 (by decide) ?_
            exact J195 _ (by simp only [c197, if_true, if_false, decide_true, decide_false, Bool.not_true, Bool.not_false, Bool.true_and, Bool.false_and, Bool.true_or, Bool.false_or, b2i_t, b2i_f, ite_true, ite_false, not_true_eq_false, not_false_eq_true, reduceCtorEq, decide_eq_true_eq])
      intro v196 ev196
      subst ev196
      refine qvI [.int (scr (Int32.toNatClampNeg (x3 + 1))), .int (b2i (!decide ((scr (Int32.toNatClampNeg (x3 + 2))) = 0)))] [.int r192] (pc := 1219) dL_law_1219 ml_L_120 iv_X12_square (TX12s_k tz) (cl_X12 rfl) rfl rfl (Nat.le_of_ble_eq_true rfl) (Nat.le_of_ble_eq_true rfl) hc (wI.mono (fun r198 mi199 ml200 F => ?_) F)
      refine wq_icmp_eq (tgt := 1352) (pc := 1222) dL_law_1222 (by decide) (fun c201 => ?_) (fun c201 => ?_)
      · have F := F.1 c201
        exact wq_less (L' := [some (.retAddr 8), some (.ref x), some (.ref z), some (.int x3)]) ⟨rfl, ⟨rfl, ⟨rfl, ⟨rfl, trivial⟩⟩⟩⟩ F
      · have F := F.2 c201
        refine wq_iconst (v := 0) (pc := 1225) dL_law_1225 (by decide) ?_
        exact F.elim
    · have F := F.2.2.2.2.2.2.2.2.2.2.2.2.2.2.2.2.2.2.2.2.2.2.2.2.2.1 c2
      refine wq_tableIn (tgt := 1227) (pc := 33) dL_law_33 c2 (by decide) (by decide) rfl (by decide) ?_
      refine wq_aload_n (pc := 1227) dL_law_1227 rfl ?_
      refine wq_aload_nX (pc := 1228) dL_law_1228 rfl ?_
      refine wq_iload_n (pc := 1229) dL_law_1229 rfl ?_
      refine wq_iconst (v := 1) (pc := 1230) dL_law_1230 (by decide) ?_
      refine wq_iadd (pc := 1231) dL_law_1231 ?_
      refine wq_sld (pc := 1232) dL_law_1232 F.1 ?_
      have F := F.2
      refine qvI [.int (scr (Int32.toNatClampNeg (x3 + 1)))] [] (pc := 1233) dL_law_1233 ml_L_121 iv_X11_silent (TX11s_k tx) (cl_X11 rfl) rfl rfl (Nat.le_of_ble_eq_true rfl) (Nat.le_of_ble_eq_true rfl) hc (wI.mono (fun r202 mi203 ml204 F => ?_) F)
      refine wq_aload_n (pc := 1236) dL_law_1236 rfl ?_
      refine wq_aload_nX (pc := 1237) dL_law_1237 rfl ?_
      refine wq_iload_n (pc := 1238) dL_law_1238 rfl ?_
      refine wq_iconst (v := 1) (pc := 1239) dL_law_1239 (by decide) ?_
      refine wq_iadd (pc := 1240) dL_law_1240 ?_
      refine wq_sld (pc := 1241) dL_law_1241 F.1 ?_
      have F := F.2
      refine qvI [.int (scr (Int32.toNatClampNeg (x3 + 1)))] [.int r202] (pc := 1242) dL_law_1242 ml_L_124 iv_X12_silent (TX12s_k tz) (cl_X12 rfl) rfl rfl (Nat.le_of_ble_eq_true rfl) (Nat.le_of_ble_eq_true rfl) hc (wI.mono (fun r205 mi206 ml207 F => ?_) F)
      refine wq_icmp_eq (tgt := 1352) (pc := 1245) dL_law_1245 (by decide) (fun c208 => ?_) (fun c208 => ?_)
      · have F := F.1 c208
        exact wq_less (L' := [some (.retAddr 8), some (.ref x), some (.ref z), some (.int x3)]) ⟨rfl, ⟨rfl, ⟨rfl, ⟨rfl, trivial⟩⟩⟩⟩ F
      · have F := F.2 c208
        refine wq_iconst (v := 0) (pc := 1248) dL_law_1248 (by decide) ?_
        exact F.elim
    · have F := F.2.2.2.2.2.2.2.2.2.2.2.2.2.2.2.2.2.2.2.2.2.2.2.2.2.2.1 c2
      refine wq_tableIn (tgt := 1250) (pc := 33) dL_law_33 c2 (by decide) (by decide) rfl (by decide) ?_
      refine wq_aload_n (pc := 1250) dL_law_1250 rfl ?_
      refine wq_aload_nX (pc := 1251) dL_law_1251 rfl ?_
      refine wq_iload_n (pc := 1252) dL_law_1252 rfl ?_
      refine wq_iconst (v := 1) (pc := 1253) dL_law_1253 (by decide) ?_
      refine wq_iadd (pc := 1254) dL_law_1254 ?_
      refine wq_sld (pc := 1255) dL_law_1255 F.1 ?_
      have F := F.2
      refine wq_aload_nX (pc := 1256) dL_law_1256 rfl ?_
      refine wq_iload_n (pc := 1257) dL_law_1257 rfl ?_
      refine wq_iconst (v := 2) (pc := 1258) dL_law_1258 (by decide) ?_
      refine wq_iadd (pc := 1259) dL_law_1259 ?_
      refine wq_sld (pc := 1260) dL_law_1260 F.1 ?_
      have F := F.2
      refine qvI [.int (scr (Int32.toNatClampNeg (x3 + 1))), .int (scr (Int32.toNatClampNeg (x3 + 2)))] [] (pc := 1261) dL_law_1261 ml_L_125 iv_X11_round (TX11s_k tx) (cl_X11 rfl) rfl rfl (Nat.le_of_ble_eq_true rfl) (Nat.le_of_ble_eq_true rfl) hc (wI.mono (fun r209 mi210 ml211 F => ?_) F)
      refine wq_aload_n (pc := 1264) dL_law_1264 rfl ?_
      refine wq_aload_nX (pc := 1265) dL_law_1265 rfl ?_
      refine wq_iload_n (pc := 1266) dL_law_1266 rfl ?_
      refine wq_iconst (v := 1) (pc := 1267) dL_law_1267 (by decide) ?_
      refine wq_iadd (pc := 1268) dL_law_1268 ?_
      refine wq_sld (pc := 1269) dL_law_1269 F.1 ?_
      have F := F.2
      refine wq_aload_nX (pc := 1270) dL_law_1270 rfl ?_
      refine wq_iload_n (pc := 1271) dL_law_1271 rfl ?_
      refine wq_iconst (v := 2) (pc := 1272) dL_law_1272 (by decide) ?_
      refine wq_iadd (pc := 1273) dL_law_1273 ?_
      refine wq_sld (pc := 1274) dL_law_1274 F.1 ?_
      have F := F.2
      refine qvI [.int (scr (Int32.toNatClampNeg (x3 + 1))), .int (scr (Int32.toNatClampNeg (x3 + 2)))] [.int r209] (pc := 1275) dL_law_1275 ml_L_128 iv_X12_round (TX12s_k tz) (cl_X12 rfl) rfl rfl (Nat.le_of_ble_eq_true rfl) (Nat.le_of_ble_eq_true rfl) hc (wI.mono (fun r212 mi213 ml214 F => ?_) F)
      refine wq_icmp_eq (tgt := 1352) (pc := 1278) dL_law_1278 (by decide) (fun c215 => ?_) (fun c215 => ?_)
      · have F := F.1 c215
        exact wq_less (L' := [some (.retAddr 8), some (.ref x), some (.ref z), some (.int x3)]) ⟨rfl, ⟨rfl, ⟨rfl, ⟨rfl, trivial⟩⟩⟩⟩ F
      · have F := F.2 c215
        refine wq_iconst (v := 0) (pc := 1281) dL_law_1281 (by decide) ?_
        exact F.elim
    · have F := F.2.2.2.2.2.2.2.2.2.2.2.2.2.2.2.2.2.2.2.2.2.2.2.2.2.2.2.1 c2
      refine wq_tableIn (tgt := 1283) (pc := 33) dL_law_33 c2 (by decide) (by decide) rfl (by decide) ?_
      refine wq_aload_n (pc := 1283) dL_law_1283 rfl ?_
      refine wq_aload_nX (pc := 1284) dL_law_1284 rfl ?_
      refine wq_iload_n (pc := 1285) dL_law_1285 rfl ?_
      refine wq_iconst (v := 1) (pc := 1286) dL_law_1286 (by decide) ?_
      refine wq_iadd (pc := 1287) dL_law_1287 ?_
      refine wq_sld (pc := 1288) dL_law_1288 F.1 ?_
      have F := F.2
      refine qvI [.int (scr (Int32.toNatClampNeg (x3 + 1)))] [] (pc := 1289) dL_law_1289 ml_L_129 iv_X11_count (TX11s_k tx) (cl_X11 rfl) rfl rfl (Nat.le_of_ble_eq_true rfl) (Nat.le_of_ble_eq_true rfl) hc (wI.mono (fun r216 mi217 ml218 F => ?_) F)
      refine wq_aload_n (pc := 1292) dL_law_1292 rfl ?_
      refine wq_aload_nX (pc := 1293) dL_law_1293 rfl ?_
      refine wq_iload_n (pc := 1294) dL_law_1294 rfl ?_
      refine wq_iconst (v := 1) (pc := 1295) dL_law_1295 (by decide) ?_
      refine wq_iadd (pc := 1296) dL_law_1296 ?_
      refine wq_sld (pc := 1297) dL_law_1297 F.1 ?_
      have F := F.2
      refine qvI [.int (scr (Int32.toNatClampNeg (x3 + 1)))] [.int r216] (pc := 1298) dL_law_1298 ml_L_132 iv_X12_count (TX12s_k tz) (cl_X12 rfl) rfl rfl (Nat.le_of_ble_eq_true rfl) (Nat.le_of_ble_eq_true rfl) hc (wI.mono (fun r219 mi220 ml221 F => ?_) F)
      refine wq_icmp_eq (tgt := 1352) (pc := 1301) dL_law_1301 (by decide) (fun c222 => ?_) (fun c222 => ?_)
      · have F := F.1 c222
        exact wq_less (L' := [some (.retAddr 8), some (.ref x), some (.ref z), some (.int x3)]) ⟨rfl, ⟨rfl, ⟨rfl, ⟨rfl, trivial⟩⟩⟩⟩ F
      · have F := F.2 c222
        refine wq_iconst (v := 0) (pc := 1304) dL_law_1304 (by decide) ?_
        exact F.elim
    · have F := F.2.2.2.2.2.2.2.2.2.2.2.2.2.2.2.2.2.2.2.2.2.2.2.2.2.2.2.2.1 c2
      refine wq_tableIn (tgt := 1306) (pc := 33) dL_law_33 c2 (by decide) (by decide) rfl (by decide) ?_
      refine wq_aload_n (pc := 1306) dL_law_1306 rfl ?_
      refine wq_aload_nX (pc := 1307) dL_law_1307 rfl ?_
      refine wq_iload_n (pc := 1308) dL_law_1308 rfl ?_
      refine wq_iconst (v := 1) (pc := 1309) dL_law_1309 (by decide) ?_
      refine wq_iadd (pc := 1310) dL_law_1310 ?_
      refine wq_sld (pc := 1311) dL_law_1311 F.1 ?_
      have F := F.2
      refine qvB [.int (scr (Int32.toNatClampNeg (x3 + 1)))] [] (pc := 1312) dL_law_1312 ml_L_133 iv_X11_image (TX11s_k tx) (cl_X11 rfl) rfl rfl (Nat.le_of_ble_eq_true rfl) (Nat.le_of_ble_eq_true rfl) hc (wB.mono (fun r223 mi224 ml225 F => ?_) F)
      refine wq_aload_n (pc := 1315) dL_law_1315 rfl ?_
      refine wq_aload_nX (pc := 1316) dL_law_1316 rfl ?_
      refine wq_iload_n (pc := 1317) dL_law_1317 rfl ?_
      refine wq_iconst (v := 1) (pc := 1318) dL_law_1318 (by decide) ?_
      refine wq_iadd (pc := 1319) dL_law_1319 ?_
      refine wq_sld (pc := 1320) dL_law_1320 F.1 ?_
      have F := F.2
      refine qvB [.int (scr (Int32.toNatClampNeg (x3 + 1)))] [.int (b2i r223)] (pc := 1321) dL_law_1321 ml_L_137 iv_X12_image (TX12s_k tz) (cl_X12 rfl) rfl rfl (Nat.le_of_ble_eq_true rfl) (Nat.le_of_ble_eq_true rfl) hc (wB.mono (fun r226 mi227 ml228 F => ?_) F)
      refine wq_icmp_eq (tgt := 1352) (pc := 1324) dL_law_1324 (by decide) (fun c229 => ?_) (fun c229 => ?_)
      · have F := F.1 c229
        exact wq_less (L' := [some (.retAddr 8), some (.ref x), some (.ref z), some (.int x3)]) ⟨rfl, ⟨rfl, ⟨rfl, ⟨rfl, trivial⟩⟩⟩⟩ F
      · have F := F.2 c229
        refine wq_iconst (v := 0) (pc := 1327) dL_law_1327 (by decide) ?_
        exact F.elim
    · have F := F.2.2.2.2.2.2.2.2.2.2.2.2.2.2.2.2.2.2.2.2.2.2.2.2.2.2.2.2.2 c2
      refine wq_tableIn (tgt := 1329) (pc := 33) dL_law_33 c2 (by decide) (by decide) rfl (by decide) ?_
      refine wq_aload_n (pc := 1329) dL_law_1329 rfl ?_
      refine wq_aload_nX (pc := 1330) dL_law_1330 rfl ?_
      refine wq_iload_n (pc := 1331) dL_law_1331 rfl ?_
      refine wq_iconst (v := 1) (pc := 1332) dL_law_1332 (by decide) ?_
      refine wq_iadd (pc := 1333) dL_law_1333 ?_
      refine wq_sld (pc := 1334) dL_law_1334 F.1 ?_
      have F := F.2
      refine qvB [.int (scr (Int32.toNatClampNeg (x3 + 1)))] [] (pc := 1335) dL_law_1335 ml_L_138 iv_X11_again (TX11s_k tx) (cl_X11 rfl) rfl rfl (Nat.le_of_ble_eq_true rfl) (Nat.le_of_ble_eq_true rfl) hc (wB.mono (fun r230 mi231 ml232 F => ?_) F)
      refine wq_aload_n (pc := 1338) dL_law_1338 rfl ?_
      refine wq_aload_nX (pc := 1339) dL_law_1339 rfl ?_
      refine wq_iload_n (pc := 1340) dL_law_1340 rfl ?_
      refine wq_iconst (v := 1) (pc := 1341) dL_law_1341 (by decide) ?_
      refine wq_iadd (pc := 1342) dL_law_1342 ?_
      refine wq_sld (pc := 1343) dL_law_1343 F.1 ?_
      have F := F.2
      refine qvB [.int (scr (Int32.toNatClampNeg (x3 + 1)))] [.int (b2i r230)] (pc := 1344) dL_law_1344 ml_L_141 iv_X12_again (TX12s_k tz) (cl_X12 rfl) rfl rfl (Nat.le_of_ble_eq_true rfl) (Nat.le_of_ble_eq_true rfl) hc (wB.mono (fun r233 mi234 ml235 F => ?_) F)
      refine wq_icmp_eq (tgt := 1352) (pc := 1347) dL_law_1347 (by decide) (fun c236 => ?_) (fun c236 => ?_)
      · have F := F.1 c236
        exact wq_less (L' := [some (.retAddr 8), some (.ref x), some (.ref z), some (.int x3)]) ⟨rfl, ⟨rfl, ⟨rfl, ⟨rfl, trivial⟩⟩⟩⟩ F
      · have F := F.2 c236
        refine wq_iconst (v := 0) (pc := 1350) dL_law_1350 (by decide) ?_
        exact F.elim
theorem w_L_law_1352 {l : Launch} {N : Nat} {scr : Nat → Int32} {cs ss : Nat} {kd : pm_K} {mr : pm_R} {x z : Nat} {x3 : Int32} {mi : pm_I} {ml : pm_L} (tx : TX11s kd mr x) (tz : TX12s kd mr z) (hc : cs ≤ 600000 ∧ ss ≤ 7302250)
    (F : c_L_law_18 l N scr cs ss kd mr x z (x3 + 6) mi ml) :
    c_L_law_1352 l N scr cs ss kd mr x z x3 mi ml := by
  show wq l N scr 1352 [some (.retAddr 8), some (.ref x), some (.ref z), some (.int x3)] [] cs ss kd mi ml mr
  refine wq_iinc (v := (x3 + 6)) (pc := 1352) dL_law_1352 rfl rfl rfl ?_
  show wq l N scr _ [some (.retAddr 8), some (.ref x), some (.ref z), some (.int (x3 + 6))] _ cs ss kd _ _ mr
  refine wq_goto (tgt := 18) (pc := 1355) dL_law_1355 (by decide) ?_
  exact wq_less (L' := [some (.retAddr 8), some (.ref x), some (.ref z), some (.int (x3 + 6))]) ⟨rfl, ⟨rfl, ⟨rfl, ⟨rfl, trivial⟩⟩⟩⟩ F
