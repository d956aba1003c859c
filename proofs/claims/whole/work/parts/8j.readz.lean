/-! the reference's whole reading -/
theorem lnsF_end {k n : Nat} {t : Nat → Nat} : ∀ (q s : Nat) (F : Nat × Nat) (r : Nat → Int32) (s' : Nat) (F' : Nat × Nat) (r' : Nat → Int32), n ≤ s + q → s ≤ n → lnsF k t n q s F r = .inr (s', F', r') → s' = n := by
  intro q
  induction q with
  | zero =>
    intro s F r s' F' r' h1 h2 e
    have e : (.inr (s, F, r) : LRT) = .inr (s', F', r') := e
    cases e; omega
  | succ q ih =>
    intro s F r s' F' r' h1 h2 e
    have e : (if tkK t n s = 0 then .inr (s, F, r) else match semR t n (lnA k t n s F r) with
      | .inl p => .inl p
      | .inr (s2, F2, r2) => lnsF k t n q s2 F2 r2 : LRT) = .inr (s', F', r') := e
    split at e
    · rename_i h0
      have := tkK_0.mp h0
      cases e; omega
    · cases eS : semR t n (lnA k t n s F r) with
      | inl p => rw [eS] at e; cases e
      | inr v =>
        obtain ⟨s2, F2, r2⟩ := v
        rw [eS] at e
        have := semR_s eS
        exact ih s2 F2 r2 s' F' r' (by omega) (by omega) e
theorem lnsF_pr {k n : Nat} {t : Nat → Nat} (hk : k < 4) : ∀ (q s : Nat) (F : Nat × Nat) (r : Nat → Int32) (s' : Nat) (F' : Nat × Nat) (r' : Nat → Int32), lnsF k t n q s F r = .inr (s', F', r') → (F.1 = 0 → prA k r) → F'.1 = 0 → prA k r' := by
  intro q
  induction q with
  | zero =>
    intro s F r s' F' r' e hP h0
    have e : (.inr (s, F, r) : LRT) = .inr (s', F', r') := e
    cases e; exact hP h0
  | succ q ih =>
    intro s F r s' F' r' e hP h0
    have e : (if tkK t n s = 0 then .inr (s, F, r) else match semR t n (lnA k t n s F r) with
      | .inl p => .inl p
      | .inr (s2, F2, r2) => lnsF k t n q s2 F2 r2 : LRT) = .inr (s', F', r') := e
    split at e
    · cases e; exact hP h0
    · cases eS : semR t n (lnA k t n s F r) with
      | inl p => rw [eS] at e; cases e
      | inr v =>
        obtain ⟨s2, F2, r2⟩ := v
        rw [eS] at e
        exact ih s2 F2 r2 s' F' r' e (semR_pr hk eS hP) h0
section RDZ
variable {l : Launch} {d z k : Nat} {kd : pm_K} {mr : pm_R} {mi mi' : pm_I} {ml ml' : pm_L} {t : Nat → Nat} {n s p i : Nat} {F : Nat × Nat} {r : Nat → Int32} {w : Int64} {x u : Int32}
theorem Z_lineOf {K : Bool → pm_I → pm_L → Prop} (tz : TX12s kd mr z) (P : tpZ mi z t n) (X : tkZ mi ml z t n s) (L : ltZ mi z F s) (W : DwZ k mi z) (D : F.1 = 0 → DrZ mi z r ∧ prA k r) (H : wdR w t n s) (g1 : mi z 24 = 1) (hk : k < 4) (hu : u = nI k) (hx : x = nI s)
    (k9 : ∀ b mi' ml', fK z mi mi' ml ml' → outZ k mi' ml' z t n (lnA k t n s F r) b → K b mi' ml') : wB l M_X12_lineOf (d + 6) [.ref z, .int u, .long w, .int x] kd mr mi ml K := by
  subst hu
  have ti : (nI k).toInt = (k : Int) := z_toInt (by omega)
  refine w_X12_lineOf tz ?_
  rw [ti]
  refine ⟨fun y => ?_, fun y => ?_, fun y => ?_, fun y => ?_⟩
  · have k3 : k = 3 := by omega
    subst k3
    exact Z_sightLine (d := d + 2) tz P X L W (fun h0 => (D h0).1) H hx fun b mi1 ml1 f o => k9 b mi1 ml1 f o
  · have k0 : k = 0 := by omega
    subst k0
    exact Z_cityLine tz P X L W D H g1 hx fun b mi1 ml1 f o => k9 b mi1 ml1 f o
  · have k1 : k = 1 := by omega
    subst k1
    exact Z_nightLine (d := d + 2) tz P X L W (fun h0 => (D h0).1) H hx fun b mi1 ml1 f o => k9 b mi1 ml1 f o
  · have k2 : k = 2 := by omega
    subst k2
    exact Z_trialLine (d := d + 2) tz P X L W (fun h0 => (D h0).1) H hx fun b mi1 ml1 f o => k9 b mi1 ml1 f o
theorem Z_lines {mi0 : pm_I} {ml0 : pm_L} {R : LRT} {K : Bool → pm_I → pm_L → Prop} (tz : TX12s kd mr z) (hk : k < 4)
    (k9 : ∀ b mi' ml', fK z mi0 mi' ml0 ml' → outZ k mi' ml' z t n R b → K b mi' ml') : ∀ (q s : Nat) (F : Nat × Nat) (r : Nat → Int32) (mi : pm_I) (ml : pm_L), n ≤ s + q → lnsF k t n q s F r = R → fK z mi0 mi ml0 ml → tpZ mi z t n → tkZ mi ml z t n s → ltZ mi z F s → DwZ k mi z → (F.1 = 0 → DrZ mi z r ∧ prA k r) → c_X12_lines_2 l (d + 7) kd mr z (nI k) 1 mi ml K := by
  have stop : ∀ (mi : pm_I) (ml : pm_L), K false mi ml → c_X12_lines_2 l (d + 7) kd mr z (nI k) 0 mi ml K := fun mi ml h => w_X12_lines_2 tz ⟨fun _ => ⟨false, rfl, h⟩, fun y => absurd rfl y⟩
  have stop63 : ∀ (mi : pm_I) (ml : pm_L), K false mi ml → c_X12_lines_63 l (d + 7) kd mr z (nI k) 0 mi ml K := fun mi ml h => w_X12_lines_63 tz ⟨fun _ => w_X12_lines_71 tz (stop mi ml h), fun y => absurd rfl y⟩
  intro q
  induction q with
  | zero =>
    intro s F r mi ml hn hl f P X L W D
    have s0 : tkK t n s = 0 := tkK_0.mpr (by omega)
    have e0 : mi z 13 = 0 := by rw [X.2.2.1, s0]; rfl
    refine w_X12_lines_2 tz ⟨fun y => absurd y (by decide), fun _ => ⟨fun _ => ⟨true, rfl, k9 true mi ml f ?_⟩, fun y => absurd e0 y⟩⟩
    rw [← hl]
    exact ⟨rfl, X, L, W, fun h0 => (D h0).1⟩
  | succ q ih =>
    intro s F r mi ml hn hl f P X L W D
    have n600 := P.2.1
    have eU : lnsF k t n (q + 1) s F r = if tkK t n s = 0 then .inr (s, F, r) else match semR t n (lnA k t n s F r) with
      | .inl p => .inl p
      | .inr (s2, F2, r2) => lnsF k t n q s2 F2 r2 := rfl
    have z5 := zk_eq (tkK t n s) tkK_5
    have e0 : (mi z 13 = (0 : Int32)) = (tkK t n s = 0) := by rw [X.2.2.1]; exact propext z5.1
    have e2 : (mi z 13 = (2 : Int32)) = (tkK t n s = 1) := by rw [X.2.2.1]; exact propext z5.2.1
    refine w_X12_lines_2 tz ⟨fun y => absurd y (by decide), fun _ => ⟨fun g0 => ⟨true, rfl, k9 true mi ml f ?_⟩, fun g0 => ?_⟩⟩
    · rw [e0] at g0
      rw [← hl, eU, if_pos g0]
      exact ⟨rfl, X, L, W, fun h0 => (D h0).1⟩
    · rw [e0] at g0
      rw [eU, if_neg g0] at hl
      have hs : s < n := tk_lt g0
      have H : wdR (if mi z 13 = 2 then ml z 15 else (0 : Int64)) t n s := by
        by_cases g1 : tkK t n s = 1
        · rw [if_pos (by rw [e2]; exact g1)]
          exact wdR_of (fun _ => X.2.2.2.2.1 g1) fun y => absurd g1 y
        · rw [if_neg (by rw [e2]; exact g1)]
          exact wdR_of (fun y => absurd y g1) fun _ => rfl
      generalize (if mi z 13 = 2 then ml z 15 else (0 : Int64)) = wd at H
      have f1 : fK z mi (pm_up mi z 24 1) ml ml := ⟨fun a g _ _ => pm_up_row _ _ g, fun _ _ => rfl, fun j g => pm_up_j _ _ (by omega)⟩
      have P1 : tpZ (pm_up mi z 24 1) z t n := P.fK (ml := ml) (ml' := ml) f1
      have X1 : tkZ (pm_up mi z 24 1) ml z t n s := X.cg (fun j _ _ _ => pm_up_j _ _ (by omega)) rfl
      have L1 : ltZ (pm_up mi z 24 1) z F s := L.cg (pm_up_j _ _ (by decide)) (pm_up_j _ _ (by decide))
      have W1 : DwZ k (pm_up mi z 24 1) z := W.cg (pm_up_row _ _ (by omega))
      have D1 : F.1 = 0 → DrZ (pm_up mi z 24 1) z r ∧ prA k r := fun h0 => ⟨(D h0).1.cg (pm_up_row _ _ (by omega)) (pm_up_j _ _ (by decide)) (pm_up_j _ _ (by decide)) (pm_up_j _ _ (by decide)), (D h0).2⟩
      refine Z_lineOf tz P1 X1 L1 W1 D1 H (pm_up_s _ _ _ _) hk rfl X.1 fun b mi2 ml2 f2 o => ?_
      have f02 : fK z mi0 mi2 ml0 ml2 := f.tr (f1.tr f2)
      have P2 : tpZ mi2 z t n := P1.fK f2
      generalize hR : lnA k t n s F r = R1 at o
      cases R1 with
      | inl p =>
        obtain ⟨rfl, o2⟩ := (show b = false ∧ mi2 z 16 = nI p from o)
        refine ⟨fun _ => stop63 mi2 ml2 (k9 false mi2 ml2 f02 ?_), fun y => (by cases y)⟩
        rw [← hl, hR]
        exact ⟨rfl, o2⟩
      | inr v =>
        obtain ⟨s1, F1, r1⟩ := v
        obtain ⟨rfl, X2, L2, W2, D2⟩ := (show b = true ∧ tkZ mi2 ml2 z t n s1 ∧ ltZ mi2 z F1 s1 ∧ DwZ k mi2 z ∧ (F1.1 = 0 → DrZ mi2 z r1) from o)
        have e4 : (mi2 z 13 = (4 : Int32)) = (tkK t n s1 = 3) := by rw [X2.2.2.1]; exact propext (zk_eq _ tkK_5).2.2.2
        refine ⟨fun y => (by cases y), fun _ => ?_⟩
        rw [e4]
        refine ⟨fun g3 => w_X12_lines_63 tz ⟨fun y => absurd y (by decide), fun _ => s_tok (d := d + 5) tz P2 X2 (tk_lt (t := t) (n := n) (s := s1) (by omega)) fun mi3 ml3 f3 X3 => w_X12_lines_71 tz ?_⟩, fun g3 => fails_K tz X2 fun mi3 f3 e => stop63 mi3 ml2 (k9 false mi3 ml2 (f02.tr f3) ?_)⟩
        · have eS : semR t n (lnA k t n s F r) = .inr (nx t n s1, F1, r1) := by rw [hR]; exact if_pos g3
          rw [eS] at hl
          have q1 := semR_s eS
          have ns := st1 (t := t) (n := n) (s := s1) (by omega)
          exact ih (nx t n s1) F1 r1 mi3 ml3 (by omega) hl (f02.tr f3.K) (P2.fT f3) X3 ((L2.cg (f3.2.1 17 (by omega)) (f3.2.1 18 (by omega))).mono (by omega)) (W2.cg (f3.1 _ (by omega))) fun h0 => ⟨(D2 h0).fT f3, semR_pr hk eS (fun z0 => (D z0).2) h0⟩
        · have eS : semR t n (lnA k t n s F r) = .inl s1 := by rw [hR]; exact if_neg g3
          rw [← hl, eS]
          exact ⟨rfl, e⟩
theorem s_blankZ {K : pm_I → pm_L → Prop} (tz : TX12s kd mr z) (hu : u = nI k) (hk : k < 4) (k9 : ∀ mi', (∀ a, a ≠ z + 10 → mi' a = mi a) → (∀ i, i < 121 → mi' (z + 10) i = blkR k i) → K mi' ml) : wV l M_X12_blank d [.ref z, .int u] kd mr mi ml K := by
  subst hu
  have ek0 : (nI k = (0 : Int32)) = (k = 0) := z_eq (b := 0) (by omega) (by omega)
  have ek2 : (nI k = (2 : Int32)) = (k = 2) := z_eq (b := 2) (by omega) (by omega)
  have b2 : ∀ mi1 : pm_I, (∀ a, a ≠ z + 10 → mi1 a = mi a) → (k ≠ 2 → ∀ i, i < 121 → mi1 (z + 10) i = blkR k i) → (k = 2 → ∀ i, i < 121 → mi1 (z + 10) i = 0) → c_X12_blank_70 l d kd mr z (nI k) mi1 ml K := by
    intro mi1 f h1 h2
    refine w_X12_blank_70 tz ?_
    rw [ek2]
    refine ⟨fun q => k9 mi1 f (h1 q), fun q => k9 _ (fun a ha => by rw [pm_up_row _ _ ha, pm_up_row _ _ ha]; exact f a ha) fun i hi => ?_⟩
    subst q
    show pm_up (pm_up mi1 (z + 10) 0 4) (z + 10) 1 (-1) (z + 10) i = blkR 2 i
    by_cases q1 : i = 1
    · subst q1; rw [pm_up_s]; rfl
    · rw [pm_up_j _ _ q1]
      by_cases q0 : i = 0
      · subst q0; rw [pm_up_s]; rfl
      · rw [pm_up_j _ _ q0, h2 rfl i hi]
        unfold blkR
        rw [if_neg (by omega), if_neg (by omega), if_pos rfl, if_neg q0, if_neg q1]
  have b5 : ∀ (q c : Nat) (mi1 : pm_I), c + q = 4 → k = 0 → (∀ a, a ≠ z + 10 → mi1 a = mi a) → (∀ i, i < 121 → mi1 (z + 10) i = if i < 2 then 6 else if i = 2 then 4 else if 5 ≤ i ∧ i < 5 + c then 3 else 0) → c_X12_blank_50 l d kd mr z (nI k) (nI c) mi1 ml K := by
    intro q
    induction q with
    | zero =>
      intro c mi1 hc k0 f h1
      have : c = 4 := by omega
      subst this
      refine w_X12_blank_50 tz ⟨fun _ => b2 mi1 f (fun _ i hi => ?_) fun y => by omega, fun y => absurd (by decide) y⟩
      have eb : blkR 0 i = if i < 2 then 6 else if i = 2 then 4 else if 5 ≤ i ∧ i < 9 then 3 else 0 := by
        unfold blkR
        rw [if_neg (show ¬ (200 ≤ i ∧ i ≤ 202) by omega), if_pos rfl]
      rw [h1 i hi, k0, eb]
    | succ q ih =>
      intro c mi1 hc k0 f h1
      refine w_X12_blank_50 tz ⟨fun y => absurd y (nI_ge (b := 4) (by omega) (by omega)), fun _ => ?_⟩
      have i5 : (5 : Int32) + nI c = nI (5 + c) := nI_add 5 c
      rw [i5, z_cl (by omega), nI_1]
      refine ⟨z_in (by omega) (by omega), ih (c + 1) _ (by omega) k0 (fun a ha => by rw [pm_up_row _ _ ha]; exact f a ha) fun i hi => ?_⟩
      by_cases q : i = 5 + c
      · subst q
        rw [pm_up_s, if_neg (by omega), if_neg (by omega), if_pos (by omega)]
      · rw [pm_up_j _ _ q, h1 i hi]
        by_cases a1 : i < 2
        · rw [if_pos a1, if_pos a1]
        · rw [if_neg a1, if_neg a1]
          by_cases a2 : i = 2
          · rw [if_pos a2, if_pos a2]
          · rw [if_neg a2, if_neg a2]
            by_cases a3 : 5 ≤ i ∧ i < 5 + c
            · rw [if_pos a3, if_pos (by omega)]
            · rw [if_neg a3, if_neg (by omega)]
  have b0 : ∀ (q c : Nat) (mi1 : pm_I), c + q = 121 → (∀ a, a ≠ z + 10 → mi1 a = mi a) → (∀ i, i < c → mi1 (z + 10) i = 0) → c_X12_blank_2 l d kd mr z (nI k) (nI c) mi1 ml K := by
    intro q
    induction q with
    | zero =>
      intro c mi1 hc f h1
      have : c = 121 := by omega
      subst this
      refine w_X12_blank_2 tz ⟨fun _ => ?_, fun y => absurd (by decide) y⟩
      rw [ek0]
      refine ⟨fun n0 => b2 mi1 f (fun n2 i hi => ?_) fun _ i hi => h1 i hi, fun k0 => b5 4 0 _ (by omega) k0 (fun a ha => by rw [pm_up_row _ _ ha, pm_up_row _ _ ha, pm_up_row _ _ ha]; exact f a ha) fun i hi => ?_⟩
      · rw [h1 i hi]
        unfold blkR
        rw [if_neg (by omega), if_neg n0, if_neg n2]
      · show pm_up (pm_up (pm_up mi1 (z + 10) 0 6) (z + 10) 1 6) (z + 10) 2 4 (z + 10) i = _
        by_cases q2 : i = 2
        · subst q2; rw [pm_up_s, if_neg (by omega), if_pos rfl]
        · rw [pm_up_j _ _ q2]
          by_cases q1 : i = 1
          · subst q1; rw [pm_up_s, if_pos (by omega)]
          · rw [pm_up_j _ _ q1]
            by_cases q0 : i = 0
            · subst q0; rw [pm_up_s, if_pos (by omega)]
            · rw [pm_up_j _ _ q0, h1 i hi, if_neg (by omega), if_neg q2, if_neg (by omega)]
    | succ q ih =>
      intro c mi1 hc f h1
      refine w_X12_blank_2 tz ⟨fun y => absurd y (nI_ge (b := 121) (by omega) (by omega)), fun _ => ?_⟩
      rw [z_cl (by omega), nI_1]
      refine ⟨z_in (by omega) (by omega), ih (c + 1) _ (by omega) (fun a ha => by rw [pm_up_row _ _ ha]; exact f a ha) fun i hi => ?_⟩
      by_cases q : i = c
      · subst q; rw [pm_up_s]
      · rw [pm_up_j _ _ q]; exact h1 i (by omega)
  exact w_X12_blank tz (b0 121 0 mi (by omega) (fun _ _ => rfl) fun i hi => absurd hi (Nat.not_lt_zero i))
theorem s_walledZ {K : Bool → pm_I → pm_L → Prop} (tz : TX12s kd mr z) (D : ∀ i, i < 53 → mi (z + 10) i = r i) (P : prC r) (kt : wldR r → K true mi ml) (kf : ¬ wldR r → K false mi ml) : wB l M_X12_isWalled (d + 1) [.ref z] kd mr mi ml K := by
  obtain ⟨p1, p2, p3, p4, p5, p6, p7, p8, p9, -, -⟩ := P
  have lit : ∀ i, i < 53 → mi (z + 10) i = nI (gN r i) := fun i hi => (D i hi).trans (p1 i hi).1
  have t3 : mi (z + 10) (Int32.toNatClampNeg 3) = nI (gN r 3) := lit 3 (by omega)
  have t4 : mi (z + 10) (Int32.toNatClampNeg 4) = nI (gN r 4) := lit 4 (by omega)
  have loop : ∀ (q c : Nat), c + q = 6 → (∀ p, p < c → ¬ (p < gN r 3 ∧ (gN r (45 + gN r (21 + p))).testBit (gN r (15 + p)) = true) ∧ ¬ (p < gN r 4 ∧ (gN r (45 + gN r (39 + p))).testBit (gN r (33 + p)) = true)) → c_X12_isWalled_2 l (d + 1) kd mr z (nI c) mi ml K := by
    intro q
    induction q with
    | zero =>
      intro c hc hno
      have : c = 6 := by omega
      subst this
      refine w_X12_isWalled_2 tz ⟨fun _ => kf ?_, fun y => absurd (by decide) y⟩
      rintro (⟨p, h1, h2⟩ | ⟨p, h1, h2⟩)
      · exact (hno p (by omega)).1 ⟨h1, h2⟩
      · exact (hno p (by omega)).2 ⟨h1, h2⟩
    | succ q ih =>
      intro c hc hno
      have i21 : (21 : Int32) + nI c = nI (21 + c) := nI_add 21 c
      have i15 : (15 : Int32) + nI c = nI (15 + c) := nI_add 15 c
      have i39 : (39 : Int32) + nI c = nI (39 + c) := nI_add 39 c
      have i33 : (33 : Int32) + nI c = nI (33 + c) := nI_add 33 c
      have on : ¬ (c < gN r 3 ∧ (gN r (45 + gN r (21 + c))).testBit (gN r (15 + c)) = true) → ¬ (c < gN r 4 ∧ (gN r (45 + gN r (39 + c))).testBit (gN r (33 + c)) = true) → c_X12_isWalled_94 l (d + 1) kd mr z (nI c) mi ml K := fun h1 h2 => by
        refine w_X12_isWalled_94 tz ?_
        rw [nI_1]
        refine ih (c + 1) (by omega) fun p hp => ?_
        by_cases e : p = c
        · subst e; exact ⟨h1, h2⟩
        · exact hno p (by omega)
      have second : ¬ (c < gN r 3 ∧ (gN r (45 + gN r (21 + c))).testBit (gN r (15 + c)) = true) → c_X12_isWalled_50 l (d + 1) kd mr z (nI c) mi ml K := fun h1 => by
        refine w_X12_isWalled_50 tz ?_
        rw [t4, z_le (by omega) (by omega)]
        refine ⟨fun g => on h1 fun y => by omega, fun g => ?_⟩
        have b := p9 c (by omega)
        rw [i39, i33, z_cl (show 39 + c < 2147483648 by omega), z_cl (show 33 + c < 2147483648 by omega), lit (39 + c) (by omega)]
        have i45 : (45 : Int32) + nI (gN r (39 + c)) = nI (45 + gN r (39 + c)) := nI_add 45 _
        rw [i45, z_cl (show 45 + gN r (39 + c) < 2147483648 by omega)]
        refine ⟨z_in (by omega) (by omega), z_in (by omega) (by omega), z_in (by omega) (by omega), s_has (lit (45 + gN r (39 + c)) (by omega)) (lit (33 + c) (by omega)) (p1 _ (by omega)).2 b.2.1 ⟨fun e => on h1 fun y => ?_, fun e => kt (Or.inr ⟨c, by omega, e⟩)⟩⟩
        rw [y.2] at e; cases e
      refine w_X12_isWalled_2 tz ⟨fun y => absurd y (nI_ge (b := 6) (by omega) (by omega)), fun _ => ?_⟩
      rw [t3, z_le (by omega) (by omega)]
      refine ⟨fun g => second fun y => by omega, fun g => ?_⟩
      have b := p8 c (by omega)
      rw [i21, i15, z_cl (show 21 + c < 2147483648 by omega), z_cl (show 15 + c < 2147483648 by omega), lit (21 + c) (by omega)]
      have i45 : (45 : Int32) + nI (gN r (21 + c)) = nI (45 + gN r (21 + c)) := nI_add 45 _
      rw [i45, z_cl (show 45 + gN r (21 + c) < 2147483648 by omega)]
      refine ⟨z_in (by omega) (by omega), z_in (by omega) (by omega), z_in (by omega) (by omega), s_has (lit (45 + gN r (21 + c)) (by omega)) (lit (15 + c) (by omega)) (p1 _ (by omega)).2 b.2.1 ⟨fun e => kt (Or.inl ⟨c, by omega, e⟩), fun e => second fun y => ?_⟩⟩
      rw [y.2] at e; cases e
  exact w_X12_isWalled tz (loop 6 0 (by omega) fun p hp => absurd hp (Nat.not_lt_zero p))
theorem far_le : ∀ m, m < 9 → ∀ w, w < 9 → (nI w ≤ nI m - 1 ↔ w < m) ∧ (nI m - 1 < nI w ↔ m ≤ w) := by decide +kernel
theorem s_atEnd {K : pm_I → pm_L → Prop} (tz : TX12s kd mr z) (X : tkZ mi ml z t n s) (hs : s = n) (n600 : n ≤ 600) (L : ltZ mi z F n) (h0 : F.1 = 0) (hu : u = nI k) (hk : k < 4) (D : DrZ mi z r) (R : prA k r)
    (k9 : ∀ mi' e, fV z mi mi' → endE k r e → e < 6 → mi' z 17 = nI e → (e ≠ 0 → mi' z 18 = nI n) → K mi' ml) : wV l M_X12_atEnd (d + 2) [.ref z, .int u] kd mr mi ml K := by
  subst hu; subst hs
  have ek0 : (nI k = (0 : Int32)) = (k = 0) := z_eq (b := 0) (by omega) (by omega)
  have ek2 : (nI k = (2 : Int32)) = (k = 2) := z_eq (b := 2) (by omega) (by omega)
  obtain ⟨d1, d2, d3, d4⟩ := D
  have none_ : endE k r 0 → K mi ml := fun hE => k9 mi 0 fV.rf hE (by omega) (by rw [L.1, h0]) (fun y => absurd rfl y)
  have told_ : ∀ e, endE k r e → e = 4 ∨ e = 5 → wV l M_X12_later (d + 1) [.ref z, .int (nI e), .int (mi z 12)] kd mr mi ml K := fun e hE he => by
    refine s_later (f := e) (p := s) tz L ⟨by omega, by omega, by omega⟩ rfl X.1 n600 fun mi' f L' => ?_
    have eF : noteF e s F = (e, s) := if_pos h0
    rw [eF] at L'
    exact k9 mi' e f hE (by omega) L'.1 fun _ => (L'.2.2.2 (by show e ≠ 0; omega)).1
  have t48 : endE k r 4 → c_X12_atEnd_48 l (d + 2) kd mr z mi ml K := fun hE => w_X12_atEnd_48 tz (told_ 4 hE (Or.inl rfl))
  refine w_X12_atEnd tz ?_
  rw [ek0]
  refine ⟨fun n0 => w_X12_atEnd_30 tz ?_, fun k0 => ?_⟩
  · rw [ek2]
    have t60 : endE k r 0 → c_X12_atEnd_60 l (d + 2) kd mr z (nI k) mi ml K := fun hE => by
      refine w_X12_atEnd_60 tz ?_
      rw [ek0]
      exact ⟨fun _ => none_ hE, fun y => absurd y n0⟩
    refine ⟨fun n2 => t60 (by unfold endE; rw [if_neg n0, if_neg n2]), fun k2 => ?_⟩
    subst k2
    have R : prT r := R
    obtain ⟨p1, p2, p3, p4, p5, p6, p7, m, m8, q1, q2, q3⟩ := R
    have t0 : mi (z + 10) (Int32.toNatClampNeg 0) = nI (gN r 0) := (d1 0 (by omega)).trans p3
    rw [t0, d4, q1]
    have fl := (far_le m (by omega) (gN r 0) (by omega)).2
    rw [fl]
    refine ⟨fun g => t60 ?_, fun g => t48 ?_⟩
    · unfold endE; rw [if_neg (by omega), if_pos rfl]; exact Or.inr ⟨inV_up m _ q2 g, rfl⟩
    · unfold endE; rw [if_neg (by omega), if_pos rfl]; exact Or.inl ⟨fun y => g (q3 _ y), rfl⟩
  · subst k0
    have R : prC r := R
    have RR := R
    obtain ⟨p1, p2, p3, -, -, -, -, -, -, ⟨m, m8, q1, q2, q3⟩, m', m8', q1', q2', q3'⟩ := RR
    have t0 : mi (z + 10) (Int32.toNatClampNeg 0) = nI (gN r 0) := (d1 0 (by omega)).trans (p1 0 (by omega)).1
    have t1 : mi (z + 10) (Int32.toNatClampNeg 1) = nI (gN r 1) := (d1 1 (by omega)).trans (p1 1 (by omega)).1
    have fl := (far_le m (by omega) (gN r 0) (by omega)).1
    have fl' := (far_le m' (by omega) (gN r 1) (by omega)).1
    have E : ∀ e, ((¬ (inC r (gN r 0) ∧ inR r (gN r 1)) ∧ e = 4) ∨ ((inC r (gN r 0) ∧ inR r (gN r 1)) ∧ wldR r ∧ e = 5) ∨ ((inC r (gN r 0) ∧ inR r (gN r 1)) ∧ ¬ wldR r ∧ e = 0)) → endE 0 r e := fun e he => by unfold endE; rw [if_pos rfl]; exact he
    rw [t0, t1, d2, d3, q1, q1', fl, fl']
    refine ⟨fun g => t48 (E 4 (Or.inl ⟨fun y => ?_, rfl⟩)), fun g => ⟨fun g' => t48 (E 4 (Or.inl ⟨fun y => ?_, rfl⟩)), fun g' => w_X12_atEnd_30 tz ⟨fun _ => w_X12_atEnd_60 tz ⟨fun y => absurd rfl y, fun _ => ?_⟩, fun y => absurd y (by decide)⟩⟩⟩
    · have := q3 _ y.1; omega
    · have := q3' _ y.2; omega
    · have hin : inC r (gN r 0) ∧ inR r (gN r 1) := ⟨inC_up m _ q2 (by omega), inR_up m' _ q2' (by omega)⟩
      exact s_walledZ tz (fun i hi => d1 i (by omega)) R (fun y => ⟨fun y2 => (by cases y2), fun _ => told_ 5 (E 5 (Or.inr (Or.inl ⟨hin, y, rfl⟩))) (Or.inr rfl)⟩) (fun y => ⟨fun _ => none_ (E 0 (Or.inr (Or.inr ⟨hin, y, rfl⟩))), fun y2 => (by cases y2)⟩)
theorem blk_W (hk : k < 4) (h : ∀ i, i < 121 → mi (z + 10) i = blkR k i) : DwZ k mi z := by
  unfold DwZ
  rcases (show k = 0 ∨ k = 1 ∨ k = 2 ∨ k = 3 by omega) with rfl | rfl | rfl | rfl
  · rw [if_pos rfl]; exact ⟨⟨0, by omega, h 3 (by omega)⟩, 0, by omega, h 4 (by omega)⟩
  · rw [if_neg (by omega), if_pos rfl]; exact ⟨0, by omega, h 0 (by omega)⟩
  · rw [if_neg (by omega), if_neg (by omega), if_pos rfl]; exact ⟨0, by omega, h 2 (by omega)⟩
  · rw [if_neg (by omega), if_neg (by omega), if_neg (by omega)]; exact ⟨0, by omega, h 0 (by omega)⟩
theorem s_readZ {K : Bool → pm_I → pm_L → Prop} (tz : TX12s kd mr z) (P : tpZ mi z t n) (hk : k < 4) (hu : u = nI k)
    (k9 : ∀ mi' ml' r f p, fK z mi mi' ml ml' → txR k t n f p r → (f = 0 → ∀ i, i < 121 → mi' (z + 10) i = r i) → K (decide (f = 0)) (pm_up (pm_up mi' (z + 3) 0 f) (z + 4) 0 p) ml') : wB l M_X12_readText (d + 8) [.ref z, .int u] kd mr mi ml K := by
  subst hu
  have n600 := P.2.1
  refine w_X12_readText tz (s_blankZ tz rfl hk fun mi1 a1 a2 => ?_)
  have b0 : ∀ a, a ≠ z → pm_up (pm_up (pm_up (pm_up (pm_up mi1 z 21 (-1 : Int32)) z 22 (-1)) z 23 (-1)) z 10 0) z 17 0 a = mi1 a := fun a ha => by rw [pm_up_row _ _ ha, pm_up_row _ _ ha, pm_up_row _ _ ha, pm_up_row _ _ ha, pm_up_row _ _ ha]
  have b1 : ∀ j, j ≠ 21 → j ≠ 22 → j ≠ 23 → j ≠ 10 → j ≠ 17 → pm_up (pm_up (pm_up (pm_up (pm_up mi1 z 21 (-1 : Int32)) z 22 (-1)) z 23 (-1)) z 10 0) z 17 0 z j = mi z j := fun j h1 h2 h3 h4 h5 => by rw [pm_up_j _ _ h5, pm_up_j _ _ h4, pm_up_j _ _ h3, pm_up_j _ _ h2, pm_up_j _ _ h1, a1 z (by omega)]
  have b2 : pm_up (pm_up (pm_up (pm_up (pm_up mi1 z 21 (-1 : Int32)) z 22 (-1)) z 23 (-1)) z 10 0) z 17 0 z 21 = -1 ∧ pm_up (pm_up (pm_up (pm_up (pm_up mi1 z 21 (-1 : Int32)) z 22 (-1)) z 23 (-1)) z 10 0) z 17 0 z 22 = -1 ∧ pm_up (pm_up (pm_up (pm_up (pm_up mi1 z 21 (-1 : Int32)) z 22 (-1)) z 23 (-1)) z 10 0) z 17 0 z 23 = -1 ∧ pm_up (pm_up (pm_up (pm_up (pm_up mi1 z 21 (-1 : Int32)) z 22 (-1)) z 23 (-1)) z 10 0) z 17 0 z 10 = 0 ∧ pm_up (pm_up (pm_up (pm_up (pm_up mi1 z 21 (-1 : Int32)) z 22 (-1)) z 23 (-1)) z 10 0) z 17 0 z 17 = 0 := by
    refine ⟨?_, ?_, ?_, ?_, ?_⟩ <;> simp [pm_up]
  generalize pm_up (pm_up (pm_up (pm_up (pm_up mi1 z 21 (-1 : Int32)) z 22 (-1)) z 23 (-1)) z 10 0) z 17 0 = mi2 at *
  have f2 : fK z mi mi2 ml ml := ⟨fun a g1 g2 _ => by rw [b0 a g1, a1 a g2], fun _ _ => rfl, fun j g => b1 j (by omega) (by omega) (by omega) (by omega) (by omega)⟩
  have P2 : tpZ mi2 z t n := P.fK (ml := ml) (ml' := ml) f2
  refine s_token (d := d + 6) (p := 0) tz P2 (Nat.zero_le n) fT.rf b2.2.2.2.1 fun mi3 ml3 f3 X3 => w_X12_lines tz ?_
  have row3 : ∀ i, i < 121 → mi3 (z + 10) i = blkR k i := fun i hi => by rw [f3.1 _ (by omega), b0 _ (by omega)]; exact a2 i hi
  have L3 : ltZ mi3 z (0, 0) (tkS t n 0) := ⟨by rw [f3.2.1 17 (by omega)]; exact b2.2.2.2.2, by decide, by decide, fun y => absurd rfl y⟩
  have far : blkR k 200 = -1 ∧ blkR k 201 = -1 ∧ blkR k 202 = -1 := ⟨if_pos (by decide), if_pos (by decide), if_pos (by decide)⟩
  have D3 : DrZ mi3 z (blkR k) := ⟨row3, by rw [f3.2.1 21 (by omega), far.1]; exact b2.1, by rw [f3.2.1 22 (by omega), far.2.1]; exact b2.2.1, by rw [f3.2.1 23 (by omega), far.2.2]; exact b2.2.2.1⟩
  have tS := tkS_le (t := t) (n := n) (p := 0) (Nat.zero_le n)
  refine Z_lines (d := d) (mi0 := mi3) (ml0 := ml3) (t := t) (n := n) (R := lnsF k t n 601 (tkS t n 0) (0, 0) (blkR k)) tz hk (fun b mi4 ml4 f4 o => ?_) 601 (tkS t n 0) (0, 0) (blkR k) mi3 ml3 (by omega) rfl fK.rf (P2.fT f3) X3 L3 (blk_W hk row3) fun _ => ⟨D3, blkR_pr hk⟩
  have fA : fK z mi mi4 ml ml4 := f2.tr (f3.K.tr f4)
  have tx : ∀ r f p, (match lnsF k t n 601 (tkS t n 0) (0, 0) (blkR k) with
    | .inl q => f = 1 ∧ p = nI q
    | .inr (_, F, r') => if F.1 = 0 then ∃ e, endE k r' e ∧ e < 6 ∧ f = nI e ∧ (e = 0 → p = -1 ∧ r = r' ∧ okA k r') ∧ (e ≠ 0 → p = nI n) else f = nI F.1 ∧ F.1 < 6 ∧ p = nI F.2) → txR k t n f p r := fun _ _ _ h => h
  have en := lnsF_end (k := k) (t := t) (n := n) 601 (tkS t n 0) (0, 0) (blkR k)
  have pr := lnsF_pr (k := k) (t := t) (n := n) hk 601 (tkS t n 0) (0, 0) (blkR k)
  generalize hR : lnsF k t n 601 (tkS t n 0) (0, 0) (blkR k) = R at o tx en pr
  cases R with
  | inl p =>
    obtain ⟨rfl, o2⟩ := (show b = false ∧ mi4 z 16 = nI p from o)
    refine ⟨fun _ => w_X12_readText_56 tz ?_, fun y => (by cases y)⟩
    have := k9 mi4 ml4 (blkR k) 1 (nI p) fA (tx _ _ _ ⟨rfl, rfl⟩) (fun y => absurd y (by decide))
    show K (decide ((if (0 : Int32) = 0 then (1 : Int32) else mi4 z 17) = 0)) (pm_up (pm_up mi4 (z + 3) 0 (if (0 : Int32) = 0 then (1 : Int32) else mi4 z 17)) (z + 4) 0 (if (0 : Int32) = 0 then mi4 z 16 else (if mi4 z 17 ≤ 0 then (-1 : Int32) else mi4 z 18))) ml4
    rw [if_pos rfl, if_pos rfl, o2]; exact this
  | inr v =>
    obtain ⟨s1, F1, r1⟩ := v
    obtain ⟨rfl, X4, L4, W4, D4⟩ := (show b = true ∧ tkZ mi4 ml4 z t n s1 ∧ ltZ mi4 z F1 s1 ∧ DwZ k mi4 z ∧ (F1.1 = 0 → DrZ mi4 z r1) from o)
    have s1n : s1 = n := en s1 F1 r1 (by omega) tS.2 rfl
    have e17 : (mi4 z 17 = (0 : Int32)) = (F1.1 = 0) := by rw [L4.1]; exact z_eq (b := 0) (by have := L4.2.2.1; omega) (by omega)
    have out : ∀ (mi5 : pm_I) (e p : Nat), e < 6 → mi5 z 17 = nI e → (e ≠ 0 → mi5 z 18 = nI p) → K (decide (nI e = 0)) (pm_up (pm_up mi5 (z + 3) 0 (nI e)) (z + 4) 0 (if e = 0 then (-1 : Int32) else nI p)) ml4 → c_X12_readText_56 l (d + 8) kd mr z 1 mi5 ml4 K := fun mi5 e p e6 h1 h2 kk => by
      refine w_X12_readText_56 tz ?_
      rw [if_neg (show ¬ (1 : Int32) = 0 by decide), if_neg (show ¬ (1 : Int32) = 0 by decide), h1]
      have el : (nI e ≤ (0 : Int32)) = (e ≤ 0) := z_le (b := 0) (by omega) (by omega)
      by_cases q : e = 0
      · rw [if_pos q] at kk
        rw [if_pos (by rw [el]; omega)]; exact kk
      · rw [if_neg q] at kk
        rw [if_neg (by rw [el]; omega), h2 q]; exact kk
    refine ⟨fun y => (by cases y), fun _ => ?_⟩
    rw [e17]
    refine ⟨fun g => out mi4 F1.1 F1.2 L4.2.2.1 L4.1 (fun y => (L4.2.2.2 y).1) ?_, fun g => s_atEnd (d := d + 5) tz X4 s1n n600 (s1n ▸ L4) g rfl hk (D4 g) (pr s1 F1 r1 rfl (fun _ => blkR_pr hk) g) fun mi5 e f5 hE e6 g17 g18 => out mi5 e n e6 g17 g18 ?_⟩
    · rw [if_neg g]
      refine k9 mi4 ml4 (blkR k) (nI F1.1) (nI F1.2) fA (tx _ _ _ ?_) fun y => ?_
      · dsimp only
        rw [if_neg g]; exact ⟨rfl, L4.2.2.1, rfl⟩
      · have y : nI F1.1 = nI 0 := y
        rw [z_eq (by have := L4.2.2.1; omega) (by omega)] at y
        exact absurd y g
    · have fB : fK z mi mi5 ml ml4 := fA.tr (fV.K (ml := ml4) f5)
      refine k9 mi5 ml4 r1 (nI e) _ fB (tx _ _ _ ?_) fun _ => ((D4 g).fV f5).1
      dsimp only
      rw [if_pos g]
      refine ⟨e, hE, e6, rfl, fun q => ?_, fun q => if_neg q⟩
      subst q
      exact ⟨rfl, rfl, endE_ok (pr s1 F1 r1 rfl (fun _ => blkR_pr hk) g) hE⟩
end RDZ
