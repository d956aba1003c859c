/-! the reference's lines, whole -/
section LZ3
variable {l : Launch} {d z k : Nat} {kd : pm_K} {mr : pm_R} {mi mi' : pm_I} {ml ml' : pm_L} {t : Nat → Nat} {n s p i : Nat} {F : Nat × Nat} {r : Nat → Int32} {w : Int64} {x : Int32}
theorem fails_K {K : Bool → pm_I → pm_L → Prop} (tz : TX12s kd mr z) (X : tkZ mi ml z t n s) (k9 : ∀ mi', fK z mi mi' ml ml → mi' z 16 = nI s → K false mi' ml) : wB l M_X12_fails d [.ref z] kd mr mi ml K :=
  w_X12_fails tz (k9 _ ⟨fun a g1 _ _ => pm_up_row _ _ g1, fun _ _ => rfl, fun j g => pm_up_j _ _ (by omega)⟩ (by rw [pm_up_s]; exact X.1))
theorem Z_cityLine {K : Bool → pm_I → pm_L → Prop} (tz : TX12s kd mr z) (P : tpZ mi z t n) (X : tkZ mi ml z t n s) (L : ltZ mi z F s) (W : DwZ 0 mi z) (D : F.1 = 0 → DrZ mi z r ∧ prC r) (H : wdR w t n s) (g1 : mi z 24 = 1) (hx : x = nI s)
    (k9 : ∀ b mi' ml', fK z mi mi' ml ml' → outZ 0 mi' ml' z t n (lnC t n s F r) b → K b mi' ml') : wB l M_X12_cityLine (d + 5) [.ref z, .long w, .int x] kd mr mi ml K := by
  have n600 := P.2.1
  have s600 : s ≤ 600 := by have := X.2.2.2.2.2; omega
  have e8 := wd_lit H 0 8 2002873452 (by decide) (by decide) (by decide +kernel)
  have e9 := wd_lit H 0 9 1936292453 (by decide) (by decide) (by decide +kernel)
  have e10 := wd_lit H 0 10 2003398244 (by decide) (by decide) (by decide +kernel)
  have e11 := wd_lit H 0 11 508440638821 (by decide) (by decide) (by decide +kernel)
  cases ho : wdO t n 0 s with
  | none =>
    rw [ho] at e8 e9 e10 e11
    have eL : lnC t n s F r = .inl s := by unfold lnC; rw [ho]
    rw [eL] at k9
    refine w_X12_cityLine tz (s_tuneBy H ho (s_kindBy H ho ⟨fun y => absurd rfl y, fun _ => ⟨fun y => absurd rfl y, fun _ => ⟨fun y => absurd (e9.mp y) (by decide), fun _ => ⟨fun y => absurd (e8.mp y) (by decide), fun _ => ⟨fun y => absurd (e10.mp y) (by decide), fun _ => ⟨fun y => absurd (e11.mp y) (by decide), fun _ => fails_K tz X fun mi' f e => k9 false mi' ml f ⟨rfl, e⟩⟩⟩⟩⟩⟩⟩))
  | some w0 =>
    rw [ho] at e8 e9 e10 e11
    obtain ⟨-, w12⟩ := wd_le (by decide) ho
    have hk1 := wd_tk ho
    have hs : s < n := tk_lt (t := t) (by omega)
    have ns := st1 (t := t) (n := n) (s := s) (by omega)
    have eL : lnC t n s F r = if w0 = 9 then num2 t n 2 8 2 8 (nx t n s) F (fun a b => up1 (up1 r 0 (nI a)) 1 (nI b))
        else if w0 = 10 then num1 t n 0 4 (nx t n s) F (fun a => up1 r 2 (nI a))
        else if w0 = 11 then (match wdO t n 1 (nx t n s) with
          | none => .inl (nx t n s)
          | some c => num1 t n 0 9 (nx t n (nx t n s)) F (fun a => up1 r (5 + c) (nI a)))
        else if w0 < 4 then num2 t n 0 7 0 7 (nx t n s) (fullF r 3 6 s F) (fun a b => addT (cellF r a b) 3 9 w0 a b)
        else if w0 < 8 then num2 t n 0 7 0 7 (nx t n s) (fullF r 4 6 s F) (fun a b => addT (cellF r a b) 4 27 (w0 - 4) a b)
        else num2 t n 0 7 0 7 (nx t n s) F (fun a b => wallR (cellF r a b) a b) := by unfold lnC; rw [ho]; rfl
    rw [eL] at k9
    have WW := W
    unfold DwZ at WW
    rw [if_pos rfl] at WW
    obtain ⟨⟨p3, a3, b3⟩, p4, a4, b4⟩ := WW
    have m3 : ∀ v, v < 12 → ¬ nI v = (-1 : Int32) := fun v hv => nI_m1' (by omega)
    by_cases c4 : w0 < 4
    · rw [if_neg (by omega), if_neg (by omega), if_neg (by omega), if_pos c4] at k9
      have et : tnI (some w0) = nI w0 := if_pos c4
      have ek : kdI (some w0) = -1 := if_neg (by omega)
      refine w_X12_cityLine tz (s_tuneBy H ho (s_kindBy H ho ?_))
      rw [et, ek]
      refine ⟨fun _ => w_X12_cityLine_61 tz ⟨fun y => absurd y (m3 _ w12), fun _ => s_fullZ (cn := 3) (most := 6) (c := p3) (r := r) tz L rfl rfl hx (by omega) b3 (by omega) (by omega) s600 (fun h0 => (((D h0).1).1 3 (by omega)).symm.trans b3) fun mi1 f1 L1 => w_X12_cityLine_75 tz ⟨fun _ => w_X12_cityLine_89 tz (s_tok (d := d + 3) tz (P.fK (ml := ml) (ml' := ml) f1.K) (X.cg (fun j _ _ _ => f1.2 j (by omega) (by omega)) rfl) hs fun mi2 ml2 f2 X2 => ⟨fun _ => w_X12_cityLine_105 tz ⟨fun y => absurd y (m3 _ w12), fun _ => Z_oneLine (cn := 3) (at9 := 9) (q := w0) (r := r) tz ((P.fK (ml := ml) (ml' := ml) f1.K).fT f2) X2 ((L1.cg (f2.2.1 17 (by omega)) (f2.2.1 18 (by omega))).mono (by omega)) ((W.cg (f1.1 _ (by omega))).cg (f2.1 _ (by omega))) (fun h0 => ?_) (Or.inl ⟨rfl, rfl⟩) c4 rfl rfl rfl fun b mi' ml' f o => k9 b mi' ml' ((fV.K (ml := ml) f1).tr (f2.K.tr f)) o⟩, fun y => absurd y (m3 _ w12)⟩), fun y => absurd rfl y⟩⟩, fun y => absurd y (m3 _ w12)⟩
      obtain ⟨z1, z2, -⟩ := fullF_0 h0
      exact ⟨((D z1).1.fV f1).fT f2, z2⟩
    · by_cases c8 : w0 < 8
      · rw [if_neg (by omega), if_neg (by omega), if_neg (by omega), if_neg c4, if_pos c8] at k9
        have et : tnI (some w0) = -1 := if_neg c4
        have ek : kdI (some w0) = nI (w0 - 4) := if_pos ⟨by omega, c8⟩
        refine w_X12_cityLine tz (s_tuneBy H ho (s_kindBy H ho ?_))
        rw [et, ek]
        refine ⟨fun y => absurd rfl y, fun _ => ⟨fun _ => w_X12_cityLine_61 tz ⟨fun _ => w_X12_cityLine_75 tz ⟨fun y => absurd y (m3 _ (by omega)), fun _ => s_fullZ (cn := 4) (most := 6) (c := p4) (r := r) tz L rfl rfl hx (by omega) b4 (by omega) (by omega) s600 (fun h0 => (((D h0).1).1 4 (by omega)).symm.trans b4) fun mi1 f1 L1 => w_X12_cityLine_89 tz (s_tok (d := d + 3) tz (P.fK (ml := ml) (ml' := ml) f1.K) (X.cg (fun j _ _ _ => f1.2 j (by omega) (by omega)) rfl) hs fun mi2 ml2 f2 X2 => ⟨fun y => absurd rfl y, fun _ => ⟨fun y => absurd y (m3 _ (by omega)), fun _ => w_X12_cityLine_105 tz ⟨fun _ => Z_oneLine (cn := 4) (at9 := 27) (q := w0 - 4) (r := r) tz ((P.fK (ml := ml) (ml' := ml) f1.K).fT f2) X2 ((L1.cg (f2.2.1 17 (by omega)) (f2.2.1 18 (by omega))).mono (by omega)) ((W.cg (f1.1 _ (by omega))).cg (f2.1 _ (by omega))) (fun h0 => ?_) (Or.inr ⟨rfl, rfl⟩) (by omega) rfl rfl rfl fun b mi' ml' f o => k9 b mi' ml' ((fV.K (ml := ml) f1).tr (f2.K.tr f)) o, fun y => absurd rfl y⟩⟩⟩)⟩, fun y => absurd rfl y⟩, fun y => absurd y (m3 _ (by omega))⟩⟩
        obtain ⟨z1, z2, -⟩ := fullF_0 h0
        exact ⟨((D z1).1.fV f1).fT f2, z2⟩
      · have et : tnI (some w0) = -1 := if_neg c4
        have ek : kdI (some w0) = -1 := if_neg (by omega)
        refine w_X12_cityLine tz (s_tuneBy H ho (s_kindBy H ho ?_))
        rw [et, ek]
        have h61 : c_X12_cityLine_61 l (d + 5) kd mr z w x (-1) (-1) mi ml K := by
          refine w_X12_cityLine_61 tz ⟨fun _ => w_X12_cityLine_75 tz ⟨fun _ => w_X12_cityLine_89 tz (s_tok (d := d + 3) tz P X hs fun mi2 ml2 f2 X2 => ⟨fun y => absurd rfl y, fun _ => ⟨fun _ => ?_, fun y => absurd rfl y⟩⟩), fun y => absurd rfl y⟩, fun y => absurd rfl y⟩
          have P2 := P.fT f2
          have L2 : ltZ mi2 z F (nx t n s) := (L.cg (f2.2.1 17 (by omega)) (f2.2.1 18 (by omega))).mono (by omega)
          have W2 : DwZ 0 mi2 z := W.cg (f2.1 _ (by omega))
          refine ⟨fun n9 => ⟨fun n8 => ⟨fun n10 => ?_, fun h10 => ?_⟩, fun h8 => ?_⟩, fun h9 => ?_⟩
          · have q9 : w0 ≠ 9 := fun q => n9 (e9.mpr (by rw [q]))
            have q8 : w0 ≠ 8 := fun q => n8 (e8.mpr (by rw [q]))
            have q10 : w0 ≠ 10 := fun q => n10 (e10.mpr (by rw [q]))
            have q11 : w0 = 11 := by omega
            rw [if_neg q9, if_neg q10, if_pos q11] at k9
            exact Z_valueLine tz P2 X2 L2 W2 (fun h0 => (D h0).1.fT f2) fun b mi' ml' f o => k9 b mi' ml' (f2.K.tr f) o
          · have q10 : w0 = 10 := Option.some.inj (e10.mp h10)
            rw [if_neg (by omega), if_pos q10] at k9
            exact Z_windLine (d := d + 1) tz P2 X2 L2 W2 (fun h0 => (D h0).1.fT f2) fun b mi' ml' f o => k9 b mi' ml' (f2.K.tr f) o
          · have q8 : w0 = 8 := Option.some.inj (e8.mp h8)
            rw [if_neg (by omega), if_neg (by omega), if_neg (by omega), if_neg c4, if_neg c8] at k9
            exact Z_wallLine tz P2 X2 L2 W2 (fun h0 => ⟨(D h0).1.fT f2, (D h0).2⟩) ((f2.2.1 24 (by omega)).trans g1) fun b mi' ml' f o => k9 b mi' ml' (f2.K.tr f) o
          · have q9 : w0 = 9 := Option.some.inj (e9.mp h9)
            rw [if_pos q9] at k9
            exact Z_sizeLine (d := d + 1) tz P2 X2 L2 W2 (fun h0 => (D h0).1.fT f2) fun b mi' ml' f o => k9 b mi' ml' (f2.K.tr f) o
        refine ⟨fun y => absurd rfl y, fun _ => ⟨fun y => absurd rfl y, fun _ => ⟨fun _ => h61, fun n9 => ⟨fun _ => h61, fun n8 => ⟨fun _ => h61, fun n10 => ⟨fun _ => h61, fun n11 => ?_⟩⟩⟩⟩⟩⟩
        have q9 : w0 ≠ 9 := fun q => n9 (e9.mpr (by rw [q]))
        have q8 : w0 ≠ 8 := fun q => n8 (e8.mpr (by rw [q]))
        have q10 : w0 ≠ 10 := fun q => n10 (e10.mpr (by rw [q]))
        have q11 : w0 ≠ 11 := fun q => n11 (e11.mpr (by rw [q]))
        omega
theorem DwZ_k {cn fr most : Nat} (hk : (k = 1 ∧ cn = 0 ∧ fr = 1 ∧ most = 40) ∨ (k = 2 ∧ cn = 2 ∧ fr = 3 ∧ most = 12) ∨ (k = 3 ∧ cn = 0 ∧ fr = 1 ∧ most = 10)) : DwZ k mi z ↔ ∃ p, p ≤ most ∧ mi (z + 10) cn = nI p := by
  unfold DwZ
  rcases hk with ⟨rfl, rfl, rfl, rfl⟩ | ⟨rfl, rfl, rfl, rfl⟩ | ⟨rfl, rfl, rfl, rfl⟩
  · rw [if_neg (by omega), if_pos rfl]
  · rw [if_neg (by omega), if_neg (by omega), if_pos rfl]
  · rw [if_neg (by omega), if_neg (by omega), if_neg (by omega)]
theorem Z_keep {cn fr most : Nat} {G : Prop} {u v w x y x3 : Int32} {K : pm_I → pm_L → Prop} (tz : TX12s kd mr z) (hk : (k = 1 ∧ cn = 0 ∧ fr = 1 ∧ most = 40) ∨ (k = 2 ∧ cn = 2 ∧ fr = 3 ∧ most = 12) ∨ (k = 3 ∧ cn = 0 ∧ fr = 1 ∧ most = 10)) (W : DwZ k mi z) (D : G → DrZ mi z r) (hu : u = nI cn) (hv : v = nI fr) (hw : w = nI most) (h0 : mi (z + 11) 0 = x) (h1 : mi (z + 11) 1 = y) (h2 : mi (z + 11) 2 = x3)
    (k9 : ∀ mi', fSn z mi mi' ml ml → DwZ k mi' z → (G → DrZ mi' z (keepR r cn fr most x y x3)) → K mi' ml) : wV l M_X12_keep d [.ref z, .int u, .int v, .int w] kd mr mi ml K := by
  obtain ⟨c, hc, ec⟩ := (DwZ_k hk).mp W
  have hb : cn < fr ∧ fr + 3 * most ≤ 121 ∧ most ≤ 40 ∧ fr ≤ 3 := by omega
  refine s_keepZ tz hu hv hw hb.1 hb.2.1 ec hc h0 h1 h2 fun mi' a1 a2 a3 => k9 mi' ⟨fun a _ g2 _ => a1 a g2, fun _ => rfl, fun j _ => by rw [a1 _ (by omega)]⟩ ((DwZ_k hk).mpr a2) fun g => ?_
  obtain ⟨d1, d2, d3, d4⟩ := D g
  have gc : gN r cn = c := gN_of ((d1 cn (by omega)).symm.trans ec) (by omega)
  have far : ∀ i, 200 ≤ i → keepR r cn fr most x y x3 i = r i := fun i hi => by
    by_cases q : c = most
    · unfold keepR; rw [gc, if_pos q]
    · exact (keepR_at (x := x) (y := y) (z := x3) gc q hb.1 (by omega)).2.2.2.2.2 i (by omega) (by omega) (by omega) (by omega)
  exact ⟨a3 r d1, by rw [a1 z (by omega), far _ (by omega)]; exact d2, by rw [a1 z (by omega), far _ (by omega)]; exact d3, by rw [a1 z (by omega), far _ (by omega)]; exact d4⟩
theorem in35 : ∀ w, w < 7 → (!decide (nI w < (3 : Int32)) && (!decide ((5 : Int32) < nI w))) = decide (3 ≤ w ∧ w ≤ 5) := by decide +kernel
theorem Z_nightLine {K : Bool → pm_I → pm_L → Prop} (tz : TX12s kd mr z) (P : tpZ mi z t n) (X : tkZ mi ml z t n s) (L : ltZ mi z F s) (W : DwZ 1 mi z) (D : F.1 = 0 → DrZ mi z r) (H : wdR w t n s) (hx : x = nI s)
    (k9 : ∀ b mi' ml', fK z mi mi' ml ml' → outZ 1 mi' ml' z t n (lnN t n s F r) b → K b mi' ml') : wB l M_X12_nightLine (d + 3) [.ref z, .long w, .int x] kd mr mi ml K := by
  have n600 := P.2.1
  have s600 : s ≤ 600 := by have := X.2.2.2.2.2; omega
  cases ho : wdO t n 2 s with
  | none =>
    have eL : lnN t n s F r = .inl s := by unfold lnN; rw [ho]
    rw [eL] at k9
    exact w_X12_nightLine tz (s_deedBy H ho ⟨fun y => absurd rfl y, fun _ => fails_K tz X fun mi' f e => k9 false mi' ml f ⟨rfl, e⟩⟩)
  | some w0 =>
    obtain ⟨w7, -⟩ := wd_le (by decide) ho
    have w7 : w0 < 7 := w7
    have hk1 := wd_tk ho
    have hs : s < n := tk_lt (t := t) (by omega)
    have ns := st1 (t := t) (n := n) (s := s) (by omega)
    have eL : lnN t n s F r = if w0 = 6 then .inr (nx t n s, fullF r 0 40 s F, keepR r 0 1 40 (nI w0) (-1) (-1))
      else if w0 < 3 then num1 t n 0 5 (nx t n s) (fullF r 0 40 s F) (fun a => keepR r 0 1 40 (nI w0) (nI a) (-1))
      else num2 t n 0 5 0 3 (nx t n s) (fullF r 0 40 s F) (fun a b => keepR r 0 1 40 (nI w0) (nI a) (nI b)) := by unfold lnN; rw [ho]
    rw [eL] at k9
    have hkk : ((1 : Nat) = 1 ∧ (0 : Nat) = 0 ∧ (1 : Nat) = 1 ∧ (40 : Nat) = 40) ∨ ((1 : Nat) = 2 ∧ (0 : Nat) = 2 ∧ (1 : Nat) = 3 ∧ (40 : Nat) = 12) ∨ ((1 : Nat) = 3 ∧ (0 : Nat) = 0 ∧ (1 : Nat) = 1 ∧ (40 : Nat) = 10) := Or.inl ⟨rfl, rfl, rfl, rfl⟩
    obtain ⟨c, hc, ec⟩ := (DwZ_k hkk).mp W
    have tail : ∀ (G : Prop) (mi1 : pm_I) (ml1 : pm_L) (y y2 : Int32), DwZ 1 mi1 z → (G → DrZ mi1 z r) → mi1 (z + 11) 1 = y → mi1 (z + 11) 2 = y2 → (∀ mi2, fSn z mi1 mi2 ml1 ml1 → DwZ 1 mi2 z → (G → DrZ mi2 z (keepR r 0 1 40 (nI w0) y y2)) → K true mi2 ml1) → c_X12_nightLine_82 l (d + 3) kd mr z (nI w0) mi1 ml1 K := by
      intro G mi1 ml1 y y2 W1 D1 h1 h2 kk
      refine w_X12_nightLine_82 tz (Z_keep (k := 1) (cn := 0) (fr := 1) (most := 40) (G := G) (r := r) (x := nI w0) (y := y) (x3 := y2) tz hkk (W1.cg (pm_up_row _ _ (by omega))) (fun g => (D1 g).cg (pm_up_row _ _ (by omega)) (by rw [pm_up_row _ _ (by omega)]) (by rw [pm_up_row _ _ (by omega)]) (by rw [pm_up_row _ _ (by omega)])) rfl rfl rfl (pm_up_s _ _ _ _) ?_ ?_ fun mi2 f2 W2 D2 => kk mi2 ((fSn.rf.up (Or.inr rfl)).tr f2) W2 D2)
      · rw [pm_up_j _ _ (by decide)]; exact h1
      · rw [pm_up_j _ _ (by decide)]; exact h2
    have e6 : (nI w0 = (6 : Int32)) = (w0 = 6) := z_eq (b := 6) (by omega) (by omega)
    refine w_X12_nightLine tz (s_deedBy (d := d + 1) H ho ⟨fun _ => s_fullZ (cn := 0) (most := 40) (c := c) (r := r) tz L rfl rfl hx (by omega) ec (by omega) (by omega) s600 (fun h0 => ((D h0).1 0 (by omega)).symm.trans ec) fun mi1 f1 L1 => s_tok (d := d + 1) tz (P.fK (ml := ml) (ml' := ml) f1.K) (X.cg (fun j _ _ _ => f1.2 j (by omega) (by omega)) rfl) hs fun mi2 ml2 f2 X2 => ?_, fun y => absurd y (nI_m1' (by omega))⟩)
    show (ddI (some w0) = 6 → _) ∧ (¬ ddI (some w0) = 6 → _)
    have ed : ddI (some w0) = nI w0 := rfl
    rw [ed, e6]
    have P2 : tpZ mi2 z t n := (P.fK (ml := ml) (ml' := ml) f1.K).fT f2
    have L2 : ltZ mi2 z (fullF r 0 40 s F) (nx t n s) := (L1.cg (f2.2.1 17 (by omega)) (f2.2.1 18 (by omega))).mono (by omega)
    have W2 : DwZ 1 mi2 z := (W.cg (f1.1 _ (by omega))).cg (f2.1 _ (by omega))
    have D2 : (fullF r 0 40 s F).1 = 0 → DrZ mi2 z r := fun h0 => ((D (fullF_0 h0).1).fV f1).fT f2
    have fK2 : fK z mi mi2 ml ml2 := (fV.K (ml := ml) f1).tr f2.K
    have x1 : Int32.toNatClampNeg 1 = 1 := rfl
    have x2 : Int32.toNatClampNeg 2 = 2 := rfl
    rw [x1, x2]
    have r1 : pm_up (pm_up mi2 (z + 11) 1 (-1 : Int32)) (z + 11) 2 (-1) (z + 11) 1 = -1 := by rw [pm_up_j _ _ (by decide), pm_up_s]
    have r2 : pm_up (pm_up mi2 (z + 11) 1 (-1 : Int32)) (z + 11) 2 (-1) (z + 11) 2 = -1 := pm_up_s _ _ _ _
    have fA : fSn z mi2 (pm_up (pm_up mi2 (z + 11) 1 (-1 : Int32)) (z + 11) 2 (-1)) ml2 ml2 := (fSn.rf.up (Or.inr rfl)).up (Or.inr rfl)
    have r0 : ∀ a, a ≠ z + 11 → pm_up (pm_up mi2 (z + 11) 1 (-1 : Int32)) (z + 11) 2 (-1) a = mi2 a := fun a ha => by rw [pm_up_row _ _ ha, pm_up_row _ _ ha]
    generalize pm_up (pm_up mi2 (z + 11) 1 (-1 : Int32)) (z + 11) 2 (-1) = mi3 at *
    have P3 : tpZ mi3 z t n := P2.cg (by rw [r0 _ (by omega)]) (r0 _ (by omega))
    have X3 : tkZ mi3 ml2 z t n (nx t n s) := X2.fSn fA
    have L3 := L2.fSn fA
    have W3 : DwZ 1 mi3 z := W2.cg (r0 _ (by omega))
    have D3 : (fullF r 0 40 s F).1 = 0 → DrZ mi3 z r := fun h0 => (D2 h0).cg (r0 _ (by omega)) (by rw [r0 _ (by omega)]) (by rw [r0 _ (by omega)]) (by rw [r0 _ (by omega)])
    have fK3 : fK z mi mi3 ml ml2 := fK2.tr fA.K
    have to82 : ∀ (mi4 : pm_I) (ml4 : pm_L), ¬ (3 ≤ w0 ∧ w0 ≤ 5) → c_X12_nightLine_82 l (d + 3) kd mr z (nI w0) mi4 ml4 K → c_X12_nightLine_60 l (d + 3) kd mr z (nI w0) mi4 ml4 K := fun mi4 ml4 hn h82 => by
      refine w_X12_nightLine_60 tz (w_X12_in ?_)
      rw [in35 w0 w7, decide_eq_false hn]
      exact ⟨fun _ => h82, fun y => (by cases y)⟩
    refine ⟨fun q6 => ?_, fun q6 => ?_⟩
    · rw [if_pos q6] at k9
      exact to82 mi3 ml2 (by omega) (tail ((fullF r 0 40 s F).1 = 0) mi3 ml2 (-1) (-1) W3 D3 r1 r2 fun mi5 f5 W5 D5 => k9 true mi5 ml2 (fK3.tr f5.K) ⟨rfl, X3.fSn f5, L3.fSn f5, W5, D5⟩)
    · rw [if_neg q6] at k9
      by_cases q3 : w0 < 3
      · rw [if_pos q3] at k9
        refine Z_num1 (d := d) (k := 1) (K := K) (j := 1) (lo := 0) (hi := 5) (g := fun a => keepR r 0 1 40 (nI w0) (nI a) (-1)) tz P3 X3 L3 rfl (by decide) rfl rfl (by decide) (fun mi1 ml1 h => ⟨fun _ => h, fun y => (by cases y)⟩) (fun a mi4 ml4 a100 ea f h0 _ _ kk => ⟨fun y => (by cases y), fun _ => to82 mi4 ml4 (by omega) (tail _ mi4 ml4 (nI a) (-1) (W3.cg (f.1 _ (by omega) (by omega))) (fun g => (D3 (h0 g).1).fJ f) ea ((f.2.2.1 2 (by decide)).trans r2) fun mi5 f5 W5 D5 => kk mi5 ml4 f5 W5 D5)⟩) fun b mi' ml' f o => k9 b mi' ml' (fK3.tr f) o
      · rw [if_neg q3] at k9
        refine Z_num2 (d := d) (k := 1) (K := K) (j := 1) (j2 := 2) (lo := 0) (hi := 5) (lo2 := 0) (hi2 := 3) (u2 := 2) (v2 := 0) (w2 := 3) (C := fun r23 mi24 ml25 => (r23 = true → c_X12_nightLine_82 l (d + 3) kd mr z (nI w0) mi24 ml25 K) ∧ (r23 = false → K false mi24 ml25)) (g := fun a b => keepR r 0 1 40 (nI w0) (nI a) (nI b)) tz P3 X3 L3 rfl (by decide) rfl rfl (by decide) rfl (by decide) rfl rfl (by decide) (by decide) (fun mi1 ml1 h => ⟨fun _ => h, fun y => (by cases y)⟩) (fun mi1 ml1 h => ⟨fun y => (by cases y), fun _ => ?_⟩) (fun mi1 ml1 h => ⟨fun y => (by cases y), fun _ => h⟩) (fun a b mi4 ml4 a100 b100 ea eb f h0 _ kk => ⟨fun _ => tail _ mi4 ml4 (nI a) (nI b) (W3.cg (f.1 _ (by omega) (by omega))) (fun g => (D3 (h0 g).1).fJ f) ea eb fun mi5 f5 W5 D5 => kk mi5 ml4 f5 W5 D5, fun y => (by cases y)⟩) fun b mi' ml' f o => k9 b mi' ml' (fK3.tr f) o
        refine w_X12_nightLine_60 tz (w_X12_in ?_)
        rw [in35 w0 w7, decide_eq_true (show 3 ≤ w0 ∧ w0 ≤ 5 by omega)]
        exact ⟨fun y => (by cases y), fun _ => h⟩
theorem Z_sightLine {K : Bool → pm_I → pm_L → Prop} (tz : TX12s kd mr z) (P : tpZ mi z t n) (X : tkZ mi ml z t n s) (L : ltZ mi z F s) (W : DwZ 3 mi z) (D : F.1 = 0 → DrZ mi z r) (H : wdR w t n s) (hx : x = nI s)
    (k9 : ∀ b mi' ml', fK z mi mi' ml ml' → outZ 3 mi' ml' z t n (lnS t n s F r) b → K b mi' ml') : wB l M_X12_sightLine (d + 3) [.ref z, .long w, .int x] kd mr mi ml K := by
  have n600 := P.2.1
  have s600 : s ≤ 600 := by have := X.2.2.2.2.2; omega
  have e0 := wd_lit H 4 0 487301145972 (by decide) (by decide) (by decide +kernel)
  have e1 := wd_lit H 4 1 1819243876 (by decide) (by decide) (by decide +kernel)
  cases ho : wdO t n 4 s with
  | none =>
    rw [ho] at e0 e1
    have eL : lnS t n s F r = .inl s := by unfold lnS; rw [ho]
    rw [eL] at k9
    exact w_X12_sightLine tz ⟨fun y => absurd (e1.mp y) (by decide), fun _ => ⟨fun y => absurd (e0.mp y) (by decide), fun _ => fails_K tz X fun mi' f e => k9 false mi' ml f ⟨rfl, e⟩⟩⟩
  | some w0 =>
    rw [ho] at e0 e1
    obtain ⟨w2, -⟩ := wd_le (by decide) ho
    have w2 : w0 < 2 := w2
    have hk1 := wd_tk ho
    have hs : s < n := tk_lt (t := t) (by omega)
    have ns := st1 (t := t) (n := n) (s := s) (by omega)
    have eL : lnS t n s F r = num2 t n 0 7 0 7 (nx t n s) (fullF r 0 10 s F) (fun a b => keepR r 0 1 10 (nI w0) (nI a) (nI b)) := by unfold lnS; rw [ho]
    rw [eL] at k9
    have hkk : ((3 : Nat) = 1 ∧ (0 : Nat) = 0 ∧ (1 : Nat) = 1 ∧ (10 : Nat) = 40) ∨ ((3 : Nat) = 2 ∧ (0 : Nat) = 2 ∧ (1 : Nat) = 3 ∧ (10 : Nat) = 12) ∨ ((3 : Nat) = 3 ∧ (0 : Nat) = 0 ∧ (1 : Nat) = 1 ∧ (10 : Nat) = 10) := Or.inr (Or.inr ⟨rfl, rfl, rfl, rfl⟩)
    obtain ⟨c, hc, ec⟩ := (DwZ_k hkk).mp W
    have ed : b2i (decide (lg_cmp w 1819243876 = 0)) = nI w0 := by
      rcases (show w0 = 0 ∨ w0 = 1 by omega) with rfl | rfl
      · rw [decide_eq_false (fun q => absurd (e1.mp q) (by decide))]; rfl
      · rw [decide_eq_true (e1.mpr rfl)]; rfl
    have h21 : c_X12_sightLine_21 l (d + 3) kd mr z w x mi ml K := by
      refine w_X12_sightLine_21 tz (s_fullZ (cn := 0) (most := 10) (c := c) (r := r) tz L rfl rfl hx (by omega) ec (by omega) (by omega) s600 (fun h0 => ((D h0).1 0 (by omega)).symm.trans ec) fun mi1 f1 L1 => s_tok (d := d + 1) tz (P.fK (ml := ml) (ml' := ml) f1.K) (X.cg (fun j _ _ _ => f1.2 j (by omega) (by omega)) rfl) hs fun mi2 ml2 f2 X2 => ?_)
      have P2 : tpZ mi2 z t n := (P.fK (ml := ml) (ml' := ml) f1.K).fT f2
      have L2 : ltZ mi2 z (fullF r 0 10 s F) (nx t n s) := (L1.cg (f2.2.1 17 (by omega)) (f2.2.1 18 (by omega))).mono (by omega)
      have W2 : DwZ 3 mi2 z := (W.cg (f1.1 _ (by omega))).cg (f2.1 _ (by omega))
      have D2 : (fullF r 0 10 s F).1 = 0 → DrZ mi2 z r := fun h0 => ((D (fullF_0 h0).1).fV f1).fT f2
      have fK2 : fK z mi mi2 ml ml2 := (fV.K (ml := ml) f1).tr f2.K
      refine Z_num2 (d := d) (k := 3) (K := K) (j := 1) (j2 := 2) (lo := 0) (hi := 7) (lo2 := 0) (hi2 := 7) (g := fun a b => keepR r 0 1 10 (nI w0) (nI a) (nI b)) tz P2 X2 L2 rfl (by decide) rfl rfl (by decide) rfl (by decide) rfl rfl (by decide) (by decide) (fun mi1 ml1 h => ⟨fun _ => h, fun y => (by cases y)⟩) (fun mi1 ml1 h => ⟨fun y => (by cases y), fun _ => h⟩) (fun mi1 ml1 h => ⟨fun y => (by cases y), fun _ => h⟩) (fun a b mi4 ml4 a100 b100 ea eb f h0 _ kk => ⟨fun _ => ?_, fun y => (by cases y)⟩) fun b mi' ml' f o => k9 b mi' ml' (fK2.tr f) o
      rw [ed]
      refine Z_keep (k := 3) (cn := 0) (fr := 1) (most := 10) (r := r) (x := nI w0) (y := nI a) (x3 := nI b) tz hkk ((W2.cg (f.1 _ (by omega) (by omega))).cg (pm_up_row _ _ (by omega))) (fun g => ((D2 (h0 g).1).fJ f).cg (pm_up_row _ _ (by omega)) (by rw [pm_up_row _ _ (by omega)]) (by rw [pm_up_row _ _ (by omega)]) (by rw [pm_up_row _ _ (by omega)])) rfl rfl rfl (pm_up_s _ _ _ _) ?_ ?_ fun mi5 f5 W5 D5 => kk mi5 ml4 ((fSn.rf.up (Or.inr rfl)).tr f5) W5 D5
      · rw [pm_up_j _ _ (by decide)]; exact ea
      · rw [pm_up_j _ _ (by decide)]; exact eb
    refine w_X12_sightLine tz ⟨fun _ => h21, fun n1 => ⟨fun _ => h21, fun n0 => ?_⟩⟩
    rcases (show w0 = 0 ∨ w0 = 1 by omega) with rfl | rfl
    · exact absurd (e0.mpr rfl) n0
    · exact absurd (e1.mpr rfl) n1
theorem Z_trialLine {K : Bool → pm_I → pm_L → Prop} (tz : TX12s kd mr z) (P : tpZ mi z t n) (X : tkZ mi ml z t n s) (L : ltZ mi z F s) (W : DwZ 2 mi z) (D : F.1 = 0 → DrZ mi z r) (H : wdR w t n s) (hx : x = nI s)
    (k9 : ∀ b mi' ml', fK z mi mi' ml ml' → outZ 2 mi' ml' z t n (lnT t n s F r) b → K b mi' ml') : wB l M_X12_trialLine (d + 3) [.ref z, .long w, .int x] kd mr mi ml K := by
  have n600 := P.2.1
  have s600 : s ≤ 600 := by have := X.2.2.2.2.2; omega
  have e0 := wd_lit H 3 0 110386806875507 (by decide) (by decide) (by decide +kernel)
  have e1 := wd_lit H 3 1 1935767923 (by decide) (by decide) (by decide +kernel)
  have e2 := wd_lit H 3 2 130220881569139 (by decide) (by decide) (by decide +kernel)
  have e3 := wd_lit H 3 3 32765899181548915 (by decide) (by decide) (by decide +kernel)
  cases ho : wdO t n 3 s with
  | none =>
    rw [ho] at e0 e1 e2 e3
    have eL : lnT t n s F r = .inl s := by unfold lnT; rw [ho]
    rw [eL] at k9
    exact w_X12_trialLine tz ⟨fun y => absurd (e1.mp y) (by decide), fun _ => ⟨fun y => absurd (e0.mp y) (by decide), fun _ => ⟨fun y => absurd (e2.mp y) (by decide), fun _ => ⟨fun y => absurd (e3.mp y) (by decide), fun _ => fails_K tz X fun mi' f e => k9 false mi' ml f ⟨rfl, e⟩⟩⟩⟩⟩
  | some w0 =>
    rw [ho] at e0 e1 e2 e3
    obtain ⟨w4, -⟩ := wd_le (by decide) ho
    have w4 : w0 < 4 := w4
    have hk1 := wd_tk ho
    have hs : s < n := tk_lt (t := t) (by omega)
    have ns := st1 (t := t) (n := n) (s := s) (by omega)
    have eL : lnT t n s F r = if w0 = 2 then num1 t n 1 8 (nx t n s) F (fun a => up1 r 0 (nI a))
      else if w0 = 3 then num1 t n 0 8 (nx t n s) F (fun a => up1 r 1 (nI a))
      else num2 t n 0 7 0 7 (nx t n s) (fullF r 2 12 s F) (fun a b => keepR (up1 r 202 (grI (r 202) (grI (nI a) (nI b)))) 2 3 12 (nI w0) (nI a) (nI b)) := by unfold lnT; rw [ho]
    rw [eL] at k9
    have hkk : ((2 : Nat) = 1 ∧ (2 : Nat) = 0 ∧ (3 : Nat) = 1 ∧ (12 : Nat) = 40) ∨ ((2 : Nat) = 2 ∧ (2 : Nat) = 2 ∧ (3 : Nat) = 3 ∧ (12 : Nat) = 12) ∨ ((2 : Nat) = 3 ∧ (2 : Nat) = 0 ∧ (3 : Nat) = 1 ∧ (12 : Nat) = 10) := Or.inr (Or.inl ⟨rfl, rfl, rfl, rfl⟩)
    obtain ⟨c, hc, ec⟩ := (DwZ_k hkk).mp W
    have d0 : decide (lg_cmp w 110386806875507 = 0) = decide (w0 = 0) := decide_eq_decide.mpr (e0.trans ⟨fun q => Option.some.inj q, fun q => congrArg some q⟩)
    have d1 : decide (lg_cmp w 1935767923 = 0) = decide (w0 = 1) := decide_eq_decide.mpr (e1.trans ⟨fun q => Option.some.inj q, fun q => congrArg some q⟩)
    have d2 : decide (lg_cmp w 130220881569139 = 0) = decide (w0 = 2) := decide_eq_decide.mpr (e2.trans ⟨fun q => Option.some.inj q, fun q => congrArg some q⟩)
    have h37 : c_X12_trialLine_37 l (d + 3) kd mr z w x mi ml K := by
      refine w_X12_trialLine_37 tz ?_
      rw [d1, d0]
      by_cases hw1 : w0 < 2
      · have es : (decide (w0 = 1) || decide (w0 = 0)) = true := by
          rcases (show w0 = 0 ∨ w0 = 1 by omega) with rfl | rfl <;> rfl
        have eb1 : b2i (decide (w0 = 1)) = nI w0 := by
          rcases (show w0 = 0 ∨ w0 = 1 by omega) with rfl | rfl <;> rfl
        rw [if_neg (by omega), if_neg (by omega)] at k9
        rw [es]
        refine ⟨fun y => (by cases y), fun _ => s_fullZ (cn := 2) (most := 12) (c := c) (r := r) tz L rfl rfl hx (by omega) ec (by omega) (by omega) s600 (fun h0 => ((D h0).1 2 (by omega)).symm.trans ec) fun mi1 f1 L1 => w_X12_trialLine_73 tz (s_tok (d := d + 1) tz (P.fK (ml := ml) (ml' := ml) f1.K) (X.cg (fun j _ _ _ => f1.2 j (by omega) (by omega)) rfl) hs fun mi2 ml2 f2 X2 => ⟨fun _ => ?_, fun y => absurd y (by decide)⟩)⟩
        have P2 : tpZ mi2 z t n := (P.fK (ml := ml) (ml' := ml) f1.K).fT f2
        have L2 : ltZ mi2 z (fullF r 2 12 s F) (nx t n s) := (L1.cg (f2.2.1 17 (by omega)) (f2.2.1 18 (by omega))).mono (by omega)
        have W2 : DwZ 2 mi2 z := (W.cg (f1.1 _ (by omega))).cg (f2.1 _ (by omega))
        have D2 : (fullF r 2 12 s F).1 = 0 → DrZ mi2 z r := fun h0 => ((D (fullF_0 h0).1).fV f1).fT f2
        have fK2 : fK z mi mi2 ml ml2 := (fV.K (ml := ml) f1).tr f2.K
        refine Z_num2 (d := d) (k := 2) (K := K) (j := 1) (j2 := 2) (lo := 0) (hi := 7) (lo2 := 0) (hi2 := 7) (g := fun a b => keepR (up1 r 202 (grI (r 202) (grI (nI a) (nI b)))) 2 3 12 (nI w0) (nI a) (nI b)) tz P2 X2 L2 rfl (by decide) rfl rfl (by decide) rfl (by decide) rfl rfl (by decide) (by decide) (fun mi1 ml1 h => ⟨fun _ => h, fun y => (by cases y)⟩) (fun mi1 ml1 h => ⟨fun y => (by cases y), fun _ => h⟩) (fun mi1 ml1 h => ⟨fun y => (by cases y), fun _ => h⟩) (fun a b mi4 ml4 a100 b100 ea eb f h0 _ kk => ⟨fun _ => w_X12_greater (w_X12_greater ?_), fun y => (by cases y)⟩) fun b mi' ml' f o => k9 b mi' ml' (fK2.tr f) o
        have ea' : mi4 (z + 11) (Int32.toNatClampNeg 1) = nI a := ea
        have eb' : mi4 (z + 11) (Int32.toNatClampNeg 2) = nI b := eb
        rw [d1, eb1, ea', eb']
        have W4 : DwZ 2 mi4 z := W2.cg (f.1 _ (by omega) (by omega))
        refine Z_keep (k := 2) (cn := 2) (fr := 3) (most := 12) (r := up1 r 202 (grI (r 202) (grI (nI a) (nI b)))) (x := nI w0) (y := nI a) (x3 := nI b) tz hkk (W4.cg (by rw [pm_up_row _ _ (by omega), pm_up_row _ _ (by omega)])) (fun g => ?_) rfl rfl rfl (pm_up_s _ _ _ _) ?_ ?_ fun mi5 f5 W5 D5 => kk mi5 ml4 (((fSn.rf.uz (by omega)).up (Or.inr rfl)).tr f5) W5 D5
        · obtain ⟨q1, q2, q3, q4⟩ := (D2 (h0 g).1).fJ f
          refine ⟨fun i hi => ?_, ?_, ?_, ?_⟩
          · rw [pm_up_row _ _ (by omega), pm_up_row _ _ (by omega), up1_n _ _ (by omega)]; exact q1 i hi
          · rw [pm_up_row _ _ (by omega), pm_up_j _ _ (by decide), up1_n _ _ (by decide)]; exact q2
          · rw [pm_up_row _ _ (by omega), pm_up_j _ _ (by decide), up1_n _ _ (by decide)]; exact q3
          · rw [pm_up_row _ _ (by omega), pm_up_s, up1_s, q4]; rfl
        · rw [pm_up_j _ _ (by decide), pm_up_row _ _ (by omega)]; exact ea
        · rw [pm_up_j _ _ (by decide), pm_up_row _ _ (by omega)]; exact eb
      · have es : (decide (w0 = 1) || decide (w0 = 0)) = false := by
          rw [decide_eq_false (by omega), decide_eq_false (by omega)]; rfl
        rw [es]
        refine ⟨fun _ => w_X12_trialLine_73 tz (s_tok (d := d + 1) tz P X hs fun mi2 ml2 f2 X2 => ⟨fun y => absurd rfl y, fun _ => ?_⟩), fun y => (by cases y)⟩
        rw [d2]
        have P2 : tpZ mi2 z t n := P.fT f2
        have L2 : ltZ mi2 z F (nx t n s) := (L.cg (f2.2.1 17 (by omega)) (f2.2.1 18 (by omega))).mono (by omega)
        have W2 : DwZ 2 mi2 z := W.cg (f2.1 _ (by omega))
        rcases (show w0 = 2 ∨ w0 = 3 by omega) with rfl | rfl
        · rw [if_pos rfl] at k9
          refine Z_num1 (d := d) (k := 2) (K := K) (j := 0) (lo := 1) (hi := 8) (g := fun a => up1 r 0 (nI a)) tz P2 X2 L2 rfl (by decide) rfl rfl (by decide) (fun mi1 ml1 h => ⟨fun y => (by cases y), fun _ => h⟩) (fun a mi4 ml4 a100 ea f h0 _ _ kk => ⟨fun _ => ⟨z_in (a := 0) (by omega) (by omega), ?_⟩, fun y => (by cases y)⟩) fun b mi' ml' f o => k9 b mi' ml' (f2.K.tr f) o
          have ea' : mi4 (z + 11) (Int32.toNatClampNeg 0) = nI a := ea
          rw [ea']
          exact kk _ _ (fSn.rf.up (Or.inl rfl)) ((W2.cg (f.1 _ (by omega) (by omega))).up (i := 0) (fun y => by omega) (fun _ => by decide) (fun _ y => absurd rfl y)) fun y => (((D (h0 y).1).fT f2).fJ f).up (i := 0) (by decide)
        · rw [if_neg (by omega), if_pos rfl] at k9
          refine Z_num1 (d := d) (k := 2) (K := K) (j := 0) (lo := 0) (hi := 8) (g := fun a => up1 r 1 (nI a)) tz P2 X2 L2 rfl (by decide) rfl rfl (by decide) (fun mi1 ml1 h => ⟨fun y => (by cases y), fun _ => h⟩) (fun a mi4 ml4 a100 ea f h0 _ _ kk => ⟨fun _ => ⟨z_in (a := 1) (by omega) (by omega), ?_⟩, fun y => (by cases y)⟩) fun b mi' ml' f o => k9 b mi' ml' (f2.K.tr f) o
          have ea' : mi4 (z + 11) (Int32.toNatClampNeg 0) = nI a := ea
          rw [ea']
          exact kk _ _ (fSn.rf.up (Or.inl rfl)) ((W2.cg (f.1 _ (by omega) (by omega))).up (i := 1) (fun y => by omega) (fun _ => by decide) (fun _ y => absurd rfl y)) fun y => (((D (h0 y).1).fT f2).fJ f).up (i := 1) (by decide)
    refine w_X12_trialLine tz ⟨fun _ => h37, fun n1 => ⟨fun _ => h37, fun n0 => ⟨fun _ => h37, fun n2 => ⟨fun _ => h37, fun n3 => ?_⟩⟩⟩⟩
    rcases (show w0 = 0 ∨ w0 = 1 ∨ w0 = 2 ∨ w0 = 3 by omega) with rfl | rfl | rfl | rfl
    · exact absurd (e0.mpr rfl) n0
    · exact absurd (e1.mpr rfl) n1
    · exact absurd (e2.mpr rfl) n2
    · exact absurd (e3.mpr rfl) n3
end LZ3
