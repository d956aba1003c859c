/-! the class's lines of a CITY -/
theorem prC.c6 {r : Nat → Int32} (h : prC r) : gN r 3 ≤ 6 ∧ gN r 4 ≤ 6 := ⟨h.2.2.2.2.1, h.2.2.2.2.2.1⟩
theorem cellF_n {r : Nat → Int32} {a b j : Nat} (h : j < 200) : cellF r a b j = r j := by
  unfold cellF; rw [up1_n _ _ (by omega), up1_n _ _ (by omega)]
theorem cellF_g {r : Nat → Int32} {a b j : Nat} (h : j < 200) : gN (cellF r a b) j = gN r j := by unfold gN; rw [cellF_n h]
section LNC
variable {l : Launch} {d h k : Nat} {kd : pm_K} {mr : pm_R} {mi : pm_I} {ml : pm_L} {t : Nat → Nat} {n s p : Nat} {F : Nat × Nat} {r : Nat → Int32}
theorem s_cityVal {K : pm_I → pm_L → Prop} (th : TX5s kd mr h) (P : tpX mi h t n) (X : stX mi h t n s F) (W : DwX mi h) (D : F.1 = 0 → DrX 0 mi ml h r)
    (k9 : ∀ mi' ml', fD h mi mi' ml ml' → outX 0 mi' ml' h t n (match wdO t n 1 s with
      | none => .inl s
      | some c => num1 t n 0 9 (nx t n s) F (fun a => up1 r (5 + c) (nI a))) → K mi' ml') : wV l M_X5_readValue (d + 7) [.ref h] kd mr mi ml K := by
  refine w_X5_readValue th (s_takeWord th P X (by decide) (fun w mi1 hw f1 X1 => ?_) (fun mi1 hw f1 X1 => ?_))
  · have w4 : w < 4 := (wd_le (by decide) hw).1
    have e4 : ((4 : Int32) ≤ nI w) = (4 ≤ w) := z_le (a := 4) (by omega) (by omega)
    refine X_num1 (k := 0) (lo := 0) (hi := 9) (r := r) (g := fun a => up1 r (5 + w) (nI a)) (K := K) th (P.fH f1) X1 (W.fH f1) (fun h0 => (D h0).fH f1) rfl rfl (by decide) (fun a mi3 ml3 _ _ W3 kk => ⟨fun g => absurd g (nI_pos (by omega)), fun _ => ?_⟩) fun mi' ml' f o => k9 mi' ml' (f1.D.tr f) ?_
    · rw [e4]
      refine ⟨fun g => absurd g (by omega), fun _ => ⟨z_in w4 (by omega), ?_⟩⟩
      rw [z_cl (by omega)]
      refine kk _ _ (fE.rf.up (by omega)) (W3.same ?_ ?_ ?_ ?_) fun h0 D3 => ?_
      · rw [pm_up_row _ _ (by omega)]
      · rw [pm_up_row _ _ (by omega)]
      · rw [pm_up_row _ _ (by omega)]
      · rw [pm_up_row _ _ (by omega)]
      · exact CC.vl (o := h + 2) D3 w4
    · rw [hw]; exact o
  · refine X_num1_sk (k := 0) (t := t) (n := n) (lo := 0) (hi := 9) (K := K) th X1 (W.fH f1) rfl (by decide) (fun a mi3 ml3 _ _ W3 kk => ⟨fun _ => kk mi3 ml3 fE.rf W3, fun g => absurd (by decide) g⟩) fun mi' ml' f o => k9 mi' ml' (f1.D.tr f) ?_
    rw [hw]; exact o
theorem s_cityPlace {w : Nat} {F0 : Nat × Nat} {s0 : Nat} {K : pm_I → pm_L → Prop} {x : Int32} (th : TX5s kd mr h) (P : tpX mi h t n) (X : stX mi h t n s F) (W : DwX mi h) (D : F.1 = 0 → DrX 0 mi ml h r ∧ prC r) (hw : w < 9) (hx : x = nI s0)
    (k9 : ∀ mi' ml', fD h mi mi' ml ml' → outX 0 mi' ml' h t n (if w < 4 then num2 t n 0 7 0 7 s (fullF r 3 6 s0 F) (fun a b => addT (cellF r a b) 3 9 w a b) else if w < 8 then num2 t n 0 7 0 7 s (fullF r 4 6 s0 F) (fun a b => addT (cellF r a b) 4 27 (w - 4) a b) else num2 t n 0 7 0 7 s F (fun a b => wallR (cellF r a b) a b)) → K mi' ml') : wV l M_X5_readPlace (d + 5) [.ref h, .int (nI w), .int x] kd mr mi ml K := by
  subst hx
  obtain ⟨⟨p, p6, hp⟩, ⟨q, q6, hq⟩, -, -⟩ := id W
  have e4 : ((4 : Int32) ≤ nI w) = (4 ≤ w) := z_le (a := 4) (by omega) (by omega)
  have e8 : ((8 : Int32) ≤ nI w) = (8 ≤ w) := z_le (a := 8) (by omega) (by omega)
  have cnt : F.1 = 0 → gN r 3 = p ∧ gN r 4 = q := fun h0 => by
    have C : CC mi ml (h + 2) r := (D h0).1
    exact ⟨gN_of (C.2.2.2.1.symm.trans hp) (by omega), gN_of (C.2.2.2.2.1.symm.trans hq) (by omega)⟩
  have sp : ∀ a b : Nat, (8 : Int32) * nI b + nI a = nI (8 * b + a) := fun a b => by rw [show (8 : Int32) * nI b = nI (8 * b) from z_mul 8 b, nI_add]
  have prs : F.1 = 0 → ∀ a b, gN (cellF r a b) 3 ≤ 6 ∧ gN (cellF r a b) 4 ≤ 6 := fun h0 a b => by
    rw [cellF_g (by omega), cellF_g (by omega)]; exact (D h0).2.c6
  have cel : ∀ {mi3 : pm_I} {ml3 : pm_L} (a b : Nat), F.1 = 0 → CC mi3 ml3 (h + 2) r → CC mi3 ml3 (h + 2) (cellF r a b) := fun a b h0 C => C.congr (fun j hj => cellF_n (by omega)) (D h0).2.c6.1 (D h0).2.c6.2
  have x1 : ∀ v, b2i v = 0 ↔ v = false := fun v => by cases v <;> decide
  -- the tails
  have ply : ∀ F', (F'.1 = 0 → F.1 = 0 ∧ gN r 3 ≠ 6) → ∀ mi2, fH h mi mi2 → stX mi2 h t n s F' → w < 4 → (∀ mi' ml', fD h mi mi' ml ml' → outX 0 mi' ml' h t n (num2 t n 0 7 0 7 s F' (fun a b => addT (cellF r a b) 3 9 w a b)) → K mi' ml') → c_X5_readPlace_67 l (d + 5) kd mr h (nI w) (b2i (!decide ((4 : Int32) ≤ nI w))) (b2i (!decide ((!decide ((4 : Int32) ≤ nI w)) = true) && (!decide ((8 : Int32) ≤ nI w)))) mi2 ml K := by
    intro F' hF' mi2 f2 X2 hw4 kk9
    have ed : decide ((4 : Int32) ≤ nI w) = false := decide_eq_false (by rw [e4]; omega)
    rw [ed]
    refine w_X5_readPlace_67 th (X_num2 (k := 0) (lo := 0) (hi := 7) (lo2 := 0) (hi2 := 7) (r := r) (g := fun a b => addT (cellF r a b) 3 9 w a b) (K := K) th (P.fH f2) X2 (W.fH f2) (fun h0 => (D (hF' h0).1).1.fH f2) rfl rfl (by decide) rfl rfl (by decide) (fun a b mi3 ml3 _ a7 _ b7 W3 kk => w_X11_spotAt ⟨fun g => absurd g (by decide), fun _ => ?_⟩) fun mi' ml' f o => kk9 mi' ml' (f2.D.tr f) o)
    rw [sp]
    obtain ⟨⟨c, c6, hc⟩, W3b, W3c, W3d⟩ := W3
    have ec : ((6 : Int32) ≤ nI c) = (6 ≤ c) := z_le (a := 6) (by omega) (by omega)
    refine w_X0_addPlayer (TX5s_a8 th) ?_
    rw [hc, ec]
    refine ⟨fun g => kk mi3 ml3 fE.rf ⟨⟨c, c6, hc⟩, W3b, W3c, W3d⟩ fun h0 D3 => ?_, fun g => ?_⟩
    · have C3 : CC mi3 ml3 (h + 2) r := D3
      have := gN_of (C3.2.2.2.1.symm.trans hc) (by omega)
      exact absurd (by omega) (hF' h0).2
    · rw [z_cl (by omega), nI_1]
      refine ⟨z_in (by omega) (by omega), z_in (by omega) (by omega), kk _ _ (((fE.rf.up (by omega)).up (by omega)).up (by omega)) ⟨⟨c + 1, by omega, pm_up_s _ _ _ _⟩, ?_, ?_, ?_⟩ fun h0 D3 => ?_⟩
      · rw [pm_up_j _ _ (by decide), pm_up_row _ _ (by omega), pm_up_row _ _ (by omega)]; exact W3b
      · rw [pm_up_row _ _ (by omega), pm_up_row _ _ (by omega), pm_up_row _ _ (by omega)]; exact W3c
      · rw [pm_up_row _ _ (by omega), pm_up_row _ _ (by omega), pm_up_row _ _ (by omega)]; exact W3d
      · have C3 : CC mi3 ml3 (h + 2) r := D3
        exact CC_player (o := h + 2) (cel a b (hF' h0).1 C3) hc (by omega) (prs (hF' h0).1 a b).2 (by omega) (by omega) (by omega)
  have psn : ∀ F', (F'.1 = 0 → F.1 = 0 ∧ gN r 4 ≠ 6) → ∀ mi2, fH h mi mi2 → stX mi2 h t n s F' → ¬ w < 4 → w < 8 → (∀ mi' ml', fD h mi mi' ml ml' → outX 0 mi' ml' h t n (num2 t n 0 7 0 7 s F' (fun a b => addT (cellF r a b) 4 27 (w - 4) a b)) → K mi' ml') → c_X5_readPlace_67 l (d + 5) kd mr h (nI w) (b2i (!decide ((4 : Int32) ≤ nI w))) (b2i (!decide ((!decide ((4 : Int32) ≤ nI w)) = true) && (!decide ((8 : Int32) ≤ nI w)))) mi2 ml K := by
    intro F' hF' mi2 f2 X2 hw4 hw8 kk9
    have ed : decide ((4 : Int32) ≤ nI w) = true := decide_eq_true (by rw [e4]; omega)
    have ed8 : decide ((8 : Int32) ≤ nI w) = false := decide_eq_false (by rw [e8]; omega)
    rw [ed, ed8]
    refine w_X5_readPlace_67 th (X_num2 (k := 0) (lo := 0) (hi := 7) (lo2 := 0) (hi2 := 7) (r := r) (g := fun a b => addT (cellF r a b) 4 27 (w - 4) a b) (K := K) th (P.fH f2) X2 (W.fH f2) (fun h0 => (D (hF' h0).1).1.fH f2) rfl rfl (by decide) rfl rfl (by decide) (fun a b mi3 ml3 _ a7 _ b7 W3 kk => w_X11_spotAt ⟨fun _ => ⟨fun g => absurd g (by decide), fun _ => ?_⟩, fun g => absurd (by decide) g⟩) fun mi' ml' f o => kk9 mi' ml' (f2.D.tr f) o)
    rw [sp, show nI w - (4 : Int32) = nI (w - 4) from z_sub (b := 4) (by omega)]
    obtain ⟨W3a, ⟨c, c6, hc⟩, W3c, W3d⟩ := W3
    have ec : ((6 : Int32) ≤ nI c) = (6 ≤ c) := z_le (a := 6) (by omega) (by omega)
    refine w_X0_addPerson (TX5s_a8 th) ?_
    rw [hc, ec]
    refine ⟨fun g => kk mi3 ml3 fE.rf ⟨W3a, ⟨c, c6, hc⟩, W3c, W3d⟩ fun h0 D3 => ?_, fun g => ?_⟩
    · have C3 : CC mi3 ml3 (h + 2) r := D3
      have := gN_of (C3.2.2.2.2.1.symm.trans hc) (by omega)
      exact absurd (by omega) (hF' h0).2
    · rw [z_cl (by omega), nI_1]
      refine ⟨z_in (by omega) (by omega), z_in (by omega) (by omega), kk _ _ (((fE.rf.up (by omega)).up (by omega)).up (by omega)) ⟨?_, ⟨c + 1, by omega, pm_up_s _ _ _ _⟩, ?_, ?_⟩ fun h0 D3 => ?_⟩
      · rw [pm_up_j _ _ (by decide), pm_up_row _ _ (by omega), pm_up_row _ _ (by omega)]; exact W3a
      · rw [pm_up_row _ _ (by omega), pm_up_row _ _ (by omega), pm_up_row _ _ (by omega)]; exact W3c
      · rw [pm_up_row _ _ (by omega), pm_up_row _ _ (by omega), pm_up_row _ _ (by omega)]; exact W3d
      · have C3 : CC mi3 ml3 (h + 2) r := D3
        exact CC_person (o := h + 2) (cel a b (hF' h0).1 C3) hc (by omega) (prs (hF' h0).1 a b).1 (by omega) (by omega) (by omega)
  refine w_X5_readPlace th ?_
  rw [hp]
  by_cases hw4 : w < 4
  · have ed : decide ((4 : Int32) ≤ nI w) = false := decide_eq_false (by rw [e4]; omega)
    have e6 : ((6 : Int32) ≤ nI p) = (6 ≤ p) := z_le (a := 6) (by omega) (by omega)
    rw [e6]
    have k9' : ∀ mi' ml', fD h mi mi' ml ml' → outX 0 mi' ml' h t n (num2 t n 0 7 0 7 s (fullF r 3 6 s0 F) (fun a b => addT (cellF r a b) 3 9 w a b)) → K mi' ml' := fun mi' ml' f o => k9 mi' ml' f (by rw [if_pos hw4]; exact o)
    refine ⟨fun g => (by rw [ed] at g; cases g), fun _ => ⟨fun g => ?_, fun g => ?_⟩⟩
    · refine w_X5_readPlace_61 th (s_note (f := 3) (p := s0) th X ⟨by decide, by decide, by decide⟩ rfl rfl fun mi2 f2 X2 => ?_)
      have eF : noteF 3 s0 F = fullF r 3 6 s0 F := by
        by_cases h0 : F.1 = 0
        · have := cnt h0
          unfold fullF; rw [if_pos (by omega)]
        · rw [fullF_n h0, noteF_n h0]
      rw [eF] at X2
      exact ply _ (fun h0 => ⟨(fullF_0 h0).1, (fullF_0 h0).2.1⟩) mi2 f2 X2 hw4 k9'
    · have eF : fullF r 3 6 s0 F = F := by
        by_cases h0 : F.1 = 0
        · have := cnt h0
          unfold fullF; rw [if_neg (by omega)]
        · exact fullF_n h0
      rw [eF] at k9'
      refine w_X5_readPlace_44 th ⟨fun _ => ply F (fun h0 => ⟨h0, by have := cnt h0; omega⟩) mi fH.rf X hw4 k9', fun z => absurd ?_ z⟩
      rw [ed]; rfl
  · have ed : decide ((4 : Int32) ≤ nI w) = true := decide_eq_true (by rw [e4]; omega)
    have ed9 : (!decide ((4 : Int32) ≤ nI w)) = false := by rw [ed]; rfl
    refine ⟨fun _ => w_X5_readPlace_44 th ?_, fun g => (by rw [ed] at g; cases g)⟩
    rw [hq]
    by_cases hw8 : w < 8
    · have ed8 : decide ((8 : Int32) ≤ nI w) = false := decide_eq_false (by rw [e8]; omega)
      have e6 : (nI q < (6 : Int32)) = (q < 6) := z_lt (b := 6) (by omega) (by omega)
      have k9' : ∀ mi' ml', fD h mi mi' ml ml' → outX 0 mi' ml' h t n (num2 t n 0 7 0 7 s (fullF r 4 6 s0 F) (fun a b => addT (cellF r a b) 4 27 (w - 4) a b)) → K mi' ml' := fun mi' ml' f o => k9 mi' ml' f (by rw [if_neg hw4, if_pos hw8]; exact o)
      rw [e6]
      refine ⟨fun g => absurd g (by rw [ed, ed8]; decide), fun _ => ⟨fun g => ?_, fun g => ?_⟩⟩
      · have eF : fullF r 4 6 s0 F = F := by
          by_cases h0 : F.1 = 0
          · have := cnt h0
            unfold fullF; rw [if_neg (by omega)]
          · exact fullF_n h0
        rw [eF] at k9'
        exact psn F (fun h0 => ⟨h0, by have := cnt h0; omega⟩) mi fH.rf X hw4 hw8 k9'
      · refine w_X5_readPlace_61 th (s_note (f := 3) (p := s0) th X ⟨by decide, by decide, by decide⟩ rfl rfl fun mi2 f2 X2 => ?_)
        have eF : noteF 3 s0 F = fullF r 4 6 s0 F := by
          by_cases h0 : F.1 = 0
          · have := cnt h0
            unfold fullF; rw [if_pos (by omega)]
          · rw [fullF_n h0, noteF_n h0]
        rw [eF] at X2
        exact psn _ (fun h0 => ⟨(fullF_0 h0).1, (fullF_0 h0).2.1⟩) mi2 f2 X2 hw4 hw8 k9'
    · have ed8 : decide ((8 : Int32) ≤ nI w) = true := decide_eq_true (by rw [e8]; omega)
      have k9' : ∀ mi' ml', fD h mi mi' ml ml' → outX 0 mi' ml' h t n (num2 t n 0 7 0 7 s F (fun a b => wallR (cellF r a b) a b)) → K mi' ml' := fun mi' ml' f o => k9 mi' ml' f (by rw [if_neg hw4, if_neg hw8]; exact o)
      rw [ed, ed8]
      refine ⟨fun _ => ?_, fun g => absurd (by decide) g⟩
      refine w_X5_readPlace_67 th (X_num2 (k := 0) (lo := 0) (hi := 7) (lo2 := 0) (hi2 := 7) (r := r) (g := fun a b => wallR (cellF r a b) a b) (K := K) th P X W (fun h0 => (D h0).1) rfl rfl (by decide) rfl rfl (by decide) (fun a b mi3 ml3 _ a7 _ b7 W3 kk => w_X11_spotAt ⟨fun _ => ⟨fun _ => ?_, fun g => absurd (by decide) g⟩, fun g => absurd (by decide) g⟩) fun mi' ml' f o => k9' mi' ml' f o)
      rw [sp]
      refine s_only rfl (by omega) fun y hy => kk _ _ (fE.rf.upL (by omega)) W3 fun h0 D3 => ?_
      have C3 : CC mi3 ml3 (h + 2) r := D3
      have P3 := (D h0).2
      exact CC_wall (o := h + 2) (cel a b h0 C3) (prs h0 a b).1 (prs h0 a b).2 (by rw [cellF_g (by omega)]; exact (P3.1 _ (by omega)).2) (by omega) (by omega) hy
theorem s_lineC {K : pm_I → pm_L → Prop} (th : TX5s kd mr h) (P : tpX mi h t n) (X : stX mi h t n s F) (W : DwX mi h) (D : F.1 = 0 → DrX 0 mi ml h r ∧ prC r)
    (k9 : ∀ mi' ml', fD h mi mi' ml ml' → outX 0 mi' ml' h t n (lnC t n s F r) → K mi' ml') : wV l M_X5_readCityLine (d + 8) [.ref h] kd mr mi ml K := by
  refine w_X5_readCityLine th (s_takeWord (d := d + 1) th P X (by decide) (fun w mi1 hw f1 X1 => ⟨fun g => absurd (Int32.toInt_inj.mp (g.trans (by decide : (-1 : Int) = (-1 : Int32).toInt))) (nI_m1' ?_), fun _ => ?_⟩) (fun mi1 hw f1 X1 => ⟨fun _ => k9 mi1 ml f1.D ⟨W.fH f1, ?_⟩, fun g => absurd (by decide) g⟩))
  · exact Nat.lt_trans (wd_le (by decide) hw).2 (by decide)
  · have w12 := (wd_le (by decide) hw).2
    rw [z_toInt (by omega)]
    have D1 : F.1 = 0 → DrX 0 mi1 ml h r := fun h0 => (D h0).1.fH f1
    have lnE : lnC t n s F r = if w = 9 then num2 t n 2 8 2 8 (nx t n s) F (fun a b => up1 (up1 r 0 (nI a)) 1 (nI b))
        else if w = 10 then num1 t n 0 4 (nx t n s) F (fun a => up1 r 2 (nI a))
        else if w = 11 then (match wdO t n 1 (nx t n s) with
          | none => .inl (nx t n s)
          | some c => num1 t n 0 9 (nx t n (nx t n s)) F (fun a => up1 r (5 + c) (nI a)))
        else if w < 4 then num2 t n 0 7 0 7 (nx t n s) (fullF r 3 6 s F) (fun a b => addT (cellF r a b) 3 9 w a b)
        else if w < 8 then num2 t n 0 7 0 7 (nx t n s) (fullF r 4 6 s F) (fun a b => addT (cellF r a b) 4 27 (w - 4) a b)
        else num2 t n 0 7 0 7 (nx t n s) F (fun a b => wallR (cellF r a b) a b) := by unfold lnC; rw [hw]; rfl
    rw [lnE] at k9
    refine ⟨fun h9 => ?_, fun h9 => ⟨fun h10 => ?_, fun h10 => ⟨fun h11 => ?_, fun h11 => ?_⟩⟩⟩
    · -- size
      have h9 : w = 9 := by omega
      rw [if_pos h9] at k9
      refine s_takeNumber (lo := 2) (hi := 8) th (P.fH f1) X1 rfl rfl (by decide) (fun mi2 hk f2 X2 => ?_) (fun mi2 hk f2 X2 => ?_)
      · -- the first is told
        have fr : fH h mi1 mi2 := f2
        have P2 : tpX (pm_up mi2 (h + 2) 0 (nI (nmV t n 2 8 (nx t n s)))) h t n := by
          have := (P.fH f1).fH f2
          unfold tpX at this ⊢
          rw [pm_up_row _ _ (by omega), pm_up_row _ _ (by omega)]; exact this
        have X2' : stX (pm_up mi2 (h + 2) 0 (nI (nmV t n 2 8 (nx t n s)))) h t n (nx t n (nx t n s)) (nmF t n 2 8 (nx t n s) F) := X2.row (pm_up_row _ _ (by omega))
        have W2 : DwX (pm_up mi2 (h + 2) 0 (nI (nmV t n 2 8 (nx t n s)))) h := by
          refine ((W.fH f1).fH f2).same ?_ ?_ ?_ ?_
          · rw [pm_up_j _ _ (by decide)]
          · rw [pm_up_j _ _ (by decide)]
          · rw [pm_up_row _ _ (by omega)]
          · rw [pm_up_row _ _ (by omega)]
        refine X_num1 (k := 0) (lo := 2) (hi := 8) (r := up1 r 0 (nI (nmV t n 2 8 (nx t n s)))) (g := fun b => up1 (up1 r 0 (nI (nmV t n 2 8 (nx t n s)))) 1 (nI b)) (K := K) th P2 X2' W2 (fun h0 => ?_) rfl rfl (by decide) (fun b mi3 ml3 _ _ W3 kk => kk _ _ (fE.rf.up (by omega)) (W3.same ?_ ?_ ?_ ?_) fun h0 D3 => ?_) fun mi' ml' f o => k9 mi' ml' (((f1.D.tr f2.D).tr (fE.rf.up (by omega) : fE h mi2 _ ml ml).D).tr f) ?_
        · have C : CC mi2 ml (h + 2) r := (D1 (nmF_0 h0).1).fH f2
          exact CC.hd C (by decide)
        · rw [pm_up_j _ _ (by decide)]
        · rw [pm_up_j _ _ (by decide)]
        · rw [pm_up_row _ _ (by omega)]
        · rw [pm_up_row _ _ (by omega)]
        · exact CC.hd (o := h + 2) D3 (by decide)
        · unfold num2
          rw [if_pos hk]; exact o
      · -- stuck
        have W2 : DwX (pm_up mi2 (h + 2) 0 (nI 2)) h := by
          refine ((W.fH f1).fH f2).same ?_ ?_ ?_ ?_
          · rw [pm_up_j _ _ (by decide)]
          · rw [pm_up_j _ _ (by decide)]
          · rw [pm_up_row _ _ (by omega)]
          · rw [pm_up_row _ _ (by omega)]
        refine X_num1_sk (k := 0) (t := t) (n := n) (lo := 2) (hi := 8) (K := K) th (X2.row (pm_up_row _ _ (by omega))) W2 rfl (by decide) (fun b mi3 ml3 _ _ W3 kk => kk _ _ (fE.rf.up (by omega)) (W3.same ?_ ?_ ?_ ?_)) fun mi' ml' f o => k9 mi' ml' (((f1.D.tr f2.D).tr (fE.rf.up (by omega) : fE h mi2 _ ml ml).D).tr f) ?_
        · rw [pm_up_j _ _ (by decide)]
        · rw [pm_up_j _ _ (by decide)]
        · rw [pm_up_row _ _ (by omega)]
        · rw [pm_up_row _ _ (by omega)]
        · unfold num2
          rw [if_neg hk]; exact o
    · have h10 : w = 10 := by omega
      rw [if_neg (by omega), if_pos h10] at k9
      refine X_num1 (k := 0) (lo := 0) (hi := 4) (r := r) (g := fun a => up1 r 2 (nI a)) (K := K) th (P.fH f1) X1 (W.fH f1) D1 rfl rfl (by decide) (fun b mi3 ml3 _ _ W3 kk => kk _ _ (fE.rf.up (by omega)) (W3.same ?_ ?_ ?_ ?_) fun h0 D3 => ?_) fun mi' ml' f o => k9 mi' ml' (f1.D.tr f) o
      · rw [pm_up_j _ _ (by decide)]
      · rw [pm_up_j _ _ (by decide)]
      · rw [pm_up_row _ _ (by omega)]
      · rw [pm_up_row _ _ (by omega)]
      · exact CC.hd (o := h + 2) D3 (by decide)
    · have h11 : w = 11 := by omega
      rw [if_neg (by omega), if_neg (by omega), if_pos h11] at k9
      exact s_cityVal th (P.fH f1) X1 (W.fH f1) D1 fun mi' ml' f o => k9 mi' ml' (f1.D.tr f) o
    · rw [if_neg (by omega), if_neg (by omega), if_neg (by omega)] at k9
      exact s_cityPlace (d := d + 2) (F0 := F) (w := w) (s0 := s) (r := r) th (P.fH f1) X1 (W.fH f1) (fun h0 => ⟨D1 h0, (D h0).2⟩) (by omega) X.1.1 fun mi' ml' f o => k9 mi' ml' (f1.D.tr f) o
  · unfold lnC
    rw [hw]; exact X1
end LNC
