/-! the class's reading: lines, all -/
section RDX2
variable {l : Launch} {d h a2 k : Nat} {kd : pm_K} {mr : pm_R} {mi : pm_I} {ml : pm_L} {t : Nat → Nat} {n s p : Nat} {F : Nat × Nat} {r : Nat → Int32}
theorem prA_cnt (hk : k < 4) (P : prA k r) : (k = 0 → prC r) ∧ (k = 1 → gN r 0 ≤ 40) ∧ (k = 2 → gN r 2 ≤ 12) ∧ (k = 3 → gN r 0 ≤ 10) := by
  unfold prA at P
  rcases (show k = 0 ∨ k = 1 ∨ k = 2 ∨ k = 3 by omega) with rfl | rfl | rfl | rfl
  · exact ⟨fun _ => P, fun z => by omega, fun z => by omega, fun z => by omega⟩
  · exact ⟨fun z => by omega, fun _ => P.2.1, fun z => by omega, fun z => by omega⟩
  · exact ⟨fun z => by omega, fun z => by omega, fun _ => P.2.1, fun z => by omega⟩
  · exact ⟨fun z => by omega, fun z => by omega, fun z => by omega, fun _ => P.2.1⟩
theorem X_lines {u : Int32} {mi0 : pm_I} {ml0 : pm_L} {K : pm_I → pm_L → Prop} (th : TX5s kd mr h) (ka2 : kd[a2]? = some (3, 600)) (hk : k < 4) (hu : u = nI k)
    (k9 : ∀ mi' ml', fD h mi0 mi' ml0 ml' → outX k mi' ml' h t n (lnsF k t n 601 s F r) → c_X5_read_163 l (d + 9) kd mr h a2 600 u mi' ml' K) :
    ∀ (q : Nat) (s' : Nat) (F' : Nat × Nat) (r' : Nat → Int32) (mi : pm_I) (ml : pm_L), q ≤ 601 → lnsF k t n q s' F' r' = lnsF k t n 601 s F r → fD h mi0 mi ml0 ml → tpX mi h t n → stX mi h t n s' F' → DwX mi h → (F'.1 = 0 → DrX k mi ml h r' ∧ prA k r') → c_X5_read_78 l (d + 9) kd mr h a2 600 u (nI (601 - q)) mi ml K := by
  subst hu
  have stuck : ∀ (x : Nat) (p : Nat) (mi : pm_I) (ml : pm_L), skX mi h p → c_X5_read_163 l (d + 9) kd mr h a2 600 (nI k) mi ml K → c_X5_read_78 l (d + 9) kd mr h a2 600 (nI k) (nI x) mi ml K := fun x p mi ml X kk => by
    refine w_X5_read_78 th ka2 ⟨fun _ => kk, fun _ => ⟨fun _ => kk, fun _ => ⟨fun _ => kk, fun z => absurd X.1 z⟩⟩⟩
  intro q
  induction q with
  | zero =>
    intro s' F' r' mi ml _ hl f P X W D
    refine w_X5_read_78 th ka2 ⟨fun _ => k9 mi ml f ?_, fun z => absurd (by decide) z⟩
    rw [← hl]
    exact ⟨W, X, fun h0 => (D h0).1⟩
  | succ q ih =>
    intro s' F' r' mi ml hq hl f P X W D
    have e0 : (mi h 4 = (0 : Int32)) = (tkK t n s' = 0) := by rw [X.1.2.2.1]; exact z_eq (b := 0) (by have := tkK_5 (t := t) (n := n) (s := s'); omega) (by omega)
    have e6 : ((600 : Int32) < nI (601 - (q + 1))) = (600 < 601 - (q + 1)) := z_lt (a := 600) (by omega) (by omega)
    have eU : lnsF k t n (q + 1) s' F' r' = if tkK t n s' = 0 then .inr (s', F', r') else match semR t n (lnA k t n s' F' r') with
      | .inl p => .inl p
      | .inr (s2, F2, r2) => lnsF k t n q s2 F2 r2 := rfl
    refine w_X5_read_78 th ka2 ?_
    rw [e0, e6]
    refine ⟨fun z => by omega, fun _ => ⟨fun g => k9 mi ml f ?_, fun g => ⟨fun z => absurd z X.n1, fun _ => ?_⟩⟩⟩
    · rw [← hl, eU, if_pos g]
      exact ⟨W, X, fun h0 => (D h0).1⟩
    · rw [eU, if_neg g] at hl
      have ex : nI (601 - (q + 1)) + 1 = nI (601 - q) := by rw [nI_1]; congr 1; omega
      have D1 : F'.1 = 0 → DrX k mi ml h r' := fun h0 => (D h0).1
      -- behind the line
      have go : ∀ mi1 ml1, fD h mi mi1 ml ml1 → outX k mi1 ml1 h t n (lnA k t n s' F' r') → c_X5_read_153 l (d + 9) kd mr h a2 600 (nI k) (nI (601 - (q + 1))) mi1 ml1 K := by
        intro mi1 ml1 f1 o
        refine w_X5_read_153 th ka2 ?_
        rw [ex]
        have P1 := P.fD f1
        generalize hR : lnA k t n s' F' r' = R at o
        obtain ⟨W1, o⟩ := o
        cases R with
        | inl p =>
          have o : skX mi1 h p := o
          refine s_takeSemi_sk (d := d + 7) th o (stuck _ p mi1 ml1 o (k9 mi1 ml1 (f.tr f1) ?_))
          rw [← hl, hR]
          exact ⟨W1, o⟩
        | inr v =>
          obtain ⟨s1, F1, r1⟩ := v
          obtain ⟨X1, D1⟩ := (show stX mi1 h t n s1 F1 ∧ (F1.1 = 0 → DrX k mi1 ml1 h r1) from o)
          refine s_takeSemi (d := d + 5) th P1 X1 (fun mi2 hk3 f2 X2 => ?_) (fun mi2 hk3 f2 X2 => stuck _ s1 mi2 ml1 X2 (k9 mi2 ml1 ((f.tr f1).tr f2.D) ?_))
          · have eS : semR t n (lnA k t n s' F' r') = .inr (nx t n s1, F1, r1) := by rw [hR]; exact if_pos hk3
            rw [eS] at hl
            exact ih (nx t n s1) F1 r1 mi2 ml1 (by omega) hl ((f.tr f1).tr f2.D) (P1.fH f2) X2 (W1.fH f2) fun h0 => ⟨(D1 h0).fH f2, semR_pr hk eS (fun z0 => (D z0).2) h0⟩
          · have eS : semR t n (lnA k t n s' F' r') = .inl s1 := by rw [hR]; exact if_neg hk3
            rw [← hl, eS]
            exact ⟨W1.fH f2, X2⟩
      have ti : (nI k).toInt = (k : Int) := z_toInt (by omega)
      rw [ti]
      have pc : F'.1 = 0 → (k = 0 → prC r') ∧ (k = 1 → gN r' 0 ≤ 40) ∧ (k = 2 → gN r' 2 ≤ 12) ∧ (k = 3 → gN r' 0 ≤ 10) := fun h0 => prA_cnt hk (D h0).2
      refine ⟨fun z => ?_, fun z => ?_, fun z => ?_, fun z => ?_⟩
      · have k3 : k = 3 := by omega
        subst k3
        exact s_lineS (d := d + 1) th P X W (fun h0 => ⟨D1 h0, (pc h0).2.2.2 rfl⟩) fun mi1 ml1 f1 o => go mi1 ml1 f1 o
      · have k0 : k = 0 := by omega
        subst k0
        exact s_lineC th P X W (fun h0 => ⟨D1 h0, (pc h0).1 rfl⟩) fun mi1 ml1 f1 o => go mi1 ml1 f1 o
      · have k1 : k = 1 := by omega
        subst k1
        exact s_lineN (d := d + 1) th P X W (fun h0 => ⟨D1 h0, (pc h0).2.1 rfl⟩) fun mi1 ml1 f1 o => go mi1 ml1 f1 o
      · have k2 : k = 2 := by omega
        subst k2
        exact s_lineT (d := d + 1) th P X W (fun h0 => ⟨D1 h0, (pc h0).2.2.1 rfl⟩) fun mi1 ml1 f1 o => go mi1 ml1 f1 o
/-- a draft that is blank -/
theorem blk_D (hk : k < 4) (c : mi (h + 2) 0 = 6 ∧ mi (h + 2) 1 = 6 ∧ mi (h + 2) 2 = 4 ∧ mi (h + 2) 4 = 0 ∧ mi (h + 2) 5 = 0) (v : ∀ c, c < 4 → mi (h + 7) c = 3) (w : ml (h + 2) 3 = 0) (n8 : mi (h + 8) 3 = 0) (t0 : mi (h + 12) 0 = 4 ∧ mi (h + 12) 1 = -1) (n13 : mi (h + 13) 3 = 0) : DwX mi h ∧ DrX k mi ml h (blkR k) := by
  obtain ⟨c0, c1, c2, c3, c4⟩ := c
  refine ⟨⟨⟨0, by omega, c3⟩, ⟨0, by omega, c4⟩, ⟨0, by omega, n8⟩, ⟨0, by omega, n13⟩⟩, ?_⟩
  unfold DrX
  rcases (show k = 0 ∨ k = 1 ∨ k = 2 ∨ k = 3 by omega) with rfl | rfl | rfl | rfl
  · rw [if_pos rfl]
    have g3 : gN (blkR 0) 3 = 0 := by decide
    have g4 : gN (blkR 0) 4 = 0 := by decide
    have gv : ∀ c, c < 4 → blkR 0 (5 + c) = 3 := by decide +kernel
    have gw : ∀ y, y < 8 → gN (blkR 0) (45 + y) = 0 := by decide +kernel
    refine ⟨c0, c1, c2, c3, c4, fun p hp => by omega, fun p hp => by omega, fun c hc => ?_, fun s hs => ?_⟩
    · rw [gv c hc]; exact v c hc
    · rw [w, bl_0, gw _ (by omega), Nat.zero_testBit]
  · rw [if_neg (by omega), if_neg (by omega)]
    exact ⟨0, by omega, n8, by decide, fun i hi => absurd hi (Nat.not_lt_zero i)⟩
  · rw [if_neg (by omega), if_pos rfl]
    exact ⟨t0.1, t0.2, 0, by omega, n13, by decide, fun i hi => absurd hi (Nat.not_lt_zero i)⟩
  · rw [if_neg (by omega), if_neg (by omega)]
    exact ⟨0, by omega, n8, by decide, fun i hi => absurd hi (Nat.not_lt_zero i)⟩
theorem s_read {u v : Int32} {K : pm_I → pm_L → Prop} (th : TX5s kd mr h) (ka2 : kd[a2]? = some (3, 600)) (ha : a2 < h) (hk : k < 4) (hu : u = nI k) (hv : v = nI n) (hn : n ≤ 600) (ht : ∀ i, i < n → (mi a2 i &&& 255) = nI (t i) ∧ t i < 256)
    (k9 : ∀ mi' ml' r f p, frN h 16 mi mi' ml ml' → txR k t n f p r → mi' h 6 = f → mi' h 7 = p → (f = 0 → DrX k mi' ml' h r) → K mi' ml') : wV l M_X5_read (d + 9) [.ref h, .int u, .ref a2, .int v] kd mr mi ml K := by
  subst hu; subst hv
  have e1 : (if (600 : Int32) < Int32.ofNat 600 then (600 : Int32) else Int32.ofNat 600) = nI 600 := by decide
  have e2 : (if nI 600 < nI n then nI 600 else nI n) = nI n := if_neg (by rw [z_lt (by omega) (by omega)]; omega)
  have e3 : (if (0 : Int32) < nI n then nI n else (0 : Int32)) = nI n := by
    have : ((0 : Int32) < nI n) = (0 < n) := z_lt (a := 0) (by omega) (by omega)
    simp only [this]
    by_cases q : 0 < n
    · rw [if_pos q]
    · rw [if_neg q, show n = 0 by omega]; rfl
  refine w_X5_read th ka2 ?_
  rw [e1, e2, e3]
  refine ⟨⟨by decide, by decide, nI_pos (by omega), by rw [z_cl (by omega)]; exact (by omega : 0 + n ≤ 600), by rw [z_cl (by omega)]; exact (by omega : 0 + n ≤ 600)⟩, fun mi1 em => ?_⟩
  have em : mi1 = pm_ur (pm_up mi h 1 (nI n)) (h + 1) (va_cpy (pm_up mi h 1 (nI n) a2) (pm_up mi h 1 (nI n) (h + 1)) 0 0 n) := by rw [em, z_cl (by omega)]; rfl
  have q1 : mi1 h 1 = nI n := by rw [em, pm_ur_k _ _ (by omega), pm_up_s]
  have q2 : ∀ a, a ≠ h → a ≠ h + 1 → mi1 a = mi a := fun a g1 g2 => by rw [em, pm_ur_k _ _ g2, pm_up_row _ _ g1]
  have q3 : ∀ i, i < n → mi1 (h + 1) i = mi a2 i := fun i hi => by rw [em, pm_ur_s, va_cpy0, if_pos hi, pm_up_row _ _ (by omega)]
  clear em
  have k7 : kd[h + 2 + 5]? = some (1, 4) := TX0s_a10 (TX5s_a8 th)
  refine w_X0_reset (TX5s_a8 th) (s_fill k7 (by omega) (w_X10_reset (TX5s_a10 th) ?_))
  generalize hA : pm_up (pm_up (pm_up mi1 h 3 0) h 6 0) h 7 (-1) = miA
  have A0 : ∀ a, a ≠ h → miA a = mi1 a := fun a g => by rw [← hA, pm_up_row _ _ g, pm_up_row _ _ g, pm_up_row _ _ g]
  have A1 : miA h 1 = nI n ∧ miA h 3 = 0 ∧ miA h 6 = 0 ∧ miA h 7 = -1 := by
    rw [← hA]
    refine ⟨?_, ?_, ?_, pm_up_s _ _ _ _⟩
    · rw [pm_up_j _ _ (by decide), pm_up_j _ _ (by decide), pm_up_j _ _ (by decide)]; exact q1
    · rw [pm_up_j _ _ (by decide), pm_up_j _ _ (by decide), pm_up_s]
    · rw [pm_up_j _ _ (by decide), pm_up_s]
  clear hA
  generalize hB : pm_up (pm_up (pm_up (pm_up (pm_up miA (h + 2) 0 6) (h + 2) 1 6) (h + 2) 2 4) (h + 2) 4 0) (h + 2) 5 0 = miB
  have B0 : ∀ a, a ≠ h + 2 → miB a = miA a := fun a g => by rw [← hB, pm_up_row _ _ g, pm_up_row _ _ g, pm_up_row _ _ g, pm_up_row _ _ g, pm_up_row _ _ g]
  have B1 : miB (h + 2) 0 = 6 ∧ miB (h + 2) 1 = 6 ∧ miB (h + 2) 2 = 4 ∧ miB (h + 2) 4 = 0 ∧ miB (h + 2) 5 = 0 := by
    rw [← hB]
    refine ⟨?_, ?_, ?_, ?_, ?_⟩ <;> simp [pm_up]
  clear hB
  generalize hC : (pm_ur miB (h + 2 + 5) fun i => if i < 4 then (3 : Int32) else miB (h + 2 + 5) i) = miC
  have C0 : ∀ a, a ≠ h + 7 → miC a = miB a := fun a g => by rw [← hC, pm_ur_k _ _ (by omega)]
  have C1 : ∀ c, c < 4 → miC (h + 7) c = 3 := fun c hc => by rw [← hC, show h + 7 = h + 2 + 5 by omega, pm_ur_s, if_pos hc]
  clear hC
  generalize hD : pm_up (pm_up (pm_up (pm_up miC (h + 8) 3 0) (h + 12) 0 4) (h + 12) 1 (-1)) (h + 12 + 1) 3 0 = miD
  have D0 : ∀ a, a ≠ h + 8 → a ≠ h + 12 → a ≠ h + 13 → miD a = miC a := fun a g1 g2 g3 => by rw [← hD, pm_up_row _ _ (by omega), pm_up_row _ _ g2, pm_up_row _ _ g2, pm_up_row _ _ g1]
  have D1 : miD (h + 8) 3 = 0 ∧ miD (h + 12) 0 = 4 ∧ miD (h + 12) 1 = -1 ∧ miD (h + 13) 3 = 0 := by
    rw [← hD]
    refine ⟨?_, ?_, ?_, pm_up_s _ _ _ _⟩
    · rw [pm_up_row _ _ (by omega), pm_up_row _ _ (by omega), pm_up_row _ _ (by omega), pm_up_s]
    · rw [pm_up_row _ _ (by omega), pm_up_j _ _ (by decide), pm_up_s]
    · rw [pm_up_row _ _ (by omega), pm_up_s]
  clear hD
  generalize hL : pm_up ml (h + 2) 3 (0 : Int64) = mlD
  have L0 : ∀ a, a ≠ h + 2 → mlD a = ml a := fun a g => by rw [← hL, pm_up_row _ _ g]
  have L1 : mlD (h + 2) 3 = 0 := by rw [← hL, pm_up_s]
  clear hL
  have rowh : miD h = miA h := by rw [D0 h (by omega) (by omega) (by omega), C0 h (by omega), B0 h (by omega)]
  have P : tpX miD h t n := by
    refine ⟨by rw [rowh]; exact A1.1, hn, fun i hi => ?_⟩
    rw [D0 (h + 1) (by omega) (by omega) (by omega), C0 (h + 1) (by omega), B0 (h + 1) (by omega), A0 (h + 1) (by omega), q3 i hi]
    exact ht i hi
  obtain ⟨W, D⟩ := blk_D (mi := miD) (ml := mlD) (h := h) hk (by rw [D0 (h + 2) (by omega) (by omega) (by omega), C0 (h + 2) (by omega)]; exact B1) (fun c hc => by rw [D0 (h + 7) (by omega) (by omega) (by omega)]; exact C1 c hc) L1 D1.1 ⟨D1.2.1, D1.2.2.1⟩ D1.2.2.2
  have f0 : frN h 16 mi miD ml mlD := fun a ha => ⟨by rw [D0 a (by omega) (by omega) (by omega), C0 a (by omega), B0 a (by omega), A0 a (by omega), q2 a (by omega) (by omega)], L0 a (by omega)⟩
  refine s_goOn (d := d + 6) (p := 0) th P (by rw [rowh]; exact A1.2.1) (Nat.zero_le n) fun miE fE gk => ?_
  have X : stX miE h t n (tkS t n 0) (0, 0) := by
    refine ⟨gk, ?_, by decide, by decide, fun z => absurd rfl z, fun _ => ?_⟩
    · rw [fE.2 6 (by omega), rowh]; exact A1.2.2.1
    · rw [fE.2 7 (by omega), rowh]; exact A1.2.2.2
  have PE := P.fG fE
  have goF : ∀ mi', fH h miE mi' ∨ True → True := fun _ _ => trivial
  have frT : ∀ mi' ml', fD h miE mi' mlD ml' → frN h 16 mi mi' ml ml' := fun mi' ml' f a ha => ⟨by rw [(f.1 a (by omega)).1, fE.1 a (by omega), (f0 a ha).1], by rw [(f.1 a (by omega)).2, (f0 a ha).2]⟩
  refine X_lines (mi0 := miE) (ml0 := mlD) (s := tkS t n 0) (F := (0, 0)) (r := blkR k) (t := t) (n := n) th ka2 hk rfl (fun mi' ml' f o => ?_) 601 _ _ _ miE mlD (Nat.le_refl _) rfl fD.rf PE X (W.fH fE.H) fun _ => ⟨D.fH fE.H, blkR_pr hk⟩
  have P' := PE.fD f
  have fT := frT mi' ml' f
  have tx : ∀ r f p, (match lnsF k t n 601 (tkS t n 0) (0, 0) (blkR k) with
    | .inl q => f = 1 ∧ p = nI q
    | .inr (_, F, r') => if F.1 = 0 then ∃ e, endE k r' e ∧ e < 6 ∧ f = nI e ∧ (e = 0 → p = -1 ∧ r = r' ∧ okA k r') ∧ (e ≠ 0 → p = nI n) else f = nI F.1 ∧ F.1 < 6 ∧ p = nI F.2) → txR k t n f p r := fun _ _ _ h => h
  have prE : ∀ (q s' : Nat) (F' : Nat × Nat) (r' : Nat → Int32) s1 F1 r1, lnsF k t n q s' F' r' = .inr (s1, F1, r1) → (F'.1 = 0 → prA k r') → F1.1 = 0 → prA k r1 := by
    intro q
    induction q with
    | zero =>
      intro s' F' r' s1 F1 r1 e hP h0
      have e : (.inr (s', F', r') : LRT) = .inr (s1, F1, r1) := e
      cases e; exact hP h0
    | succ q ih =>
      intro s' F' r' s1 F1 r1 e hP h0
      have e : (if tkK t n s' = 0 then .inr (s', F', r') else match semR t n (lnA k t n s' F' r') with
        | .inl p => .inl p
        | .inr (s2, F2, r2) => lnsF k t n q s2 F2 r2 : LRT) = .inr (s1, F1, r1) := e
      split at e
      · cases e; exact hP h0
      · cases eS : semR t n (lnA k t n s' F' r') with
        | inl p => rw [eS] at e; cases e
        | inr v =>
          obtain ⟨s2, F2, r2⟩ := v
          rw [eS] at e
          exact ih s2 F2 r2 s1 F1 r1 e (semR_pr hk eS hP) h0
  generalize hR : lnsF k t n 601 (tkS t n 0) (0, 0) (blkR k) = R at o tx
  obtain ⟨W', o⟩ := o
  cases R with
  | inl p =>
    have o : skX mi' h p := o
    refine w_X5_read_163 th ka2 ⟨fun _ => k9 mi' ml' (blkR k) 1 (nI p) fT (tx _ _ _ ⟨rfl, rfl⟩) o.1 o.2 fun z => absurd z (by decide), fun z => absurd (o.1.symm.trans z) (by decide)⟩
  | inr v =>
    obtain ⟨s1, F1, r1⟩ := v
    obtain ⟨X', D'⟩ := (show stX mi' h t n s1 F1 ∧ (F1.1 = 0 → DrX k mi' ml' h r1) from o)
    have X2 := X'.2.1
    have X4 := X'.2.2.2.1
    have X5 := X'.2.2.2.2.1
    have e0 : (mi' h 6 = (0 : Int32)) = (F1.1 = 0) := by rw [X2]; exact z_eq (b := 0) (by omega) (by omega)
    refine w_X5_read_163 th ka2 ?_
    rw [e0]
    refine ⟨fun g => k9 mi' ml' (blkR k) _ _ fT (tx _ _ _ ?_) X2 (X5 g) fun z => ?_, fun g => s_check (d := d + 6) th P' X' g rfl hk (D' g) (prE 601 _ _ _ s1 F1 r1 hR (fun _ => blkR_pr hk) g) fun mi2 e f2 hE e6 g6 g70 g71 => ?_⟩
    · dsimp only
      rw [if_neg g]; exact ⟨rfl, X4, rfl⟩
    · have z : nI F1.1 = nI 0 := z
      rw [z_eq (by omega) (by omega)] at z
      exact absurd z g
    · have f3 : frN h 16 mi mi2 ml ml' := fun a ha => ⟨by rw [f2.1 a (by omega), (fT a ha).1], (fT a ha).2⟩
      have pr := prE 601 _ _ _ s1 F1 r1 hR (fun _ => blkR_pr hk) g
      by_cases q : e = 0
      · subst q
        refine k9 mi2 ml' r1 (nI 0) (-1) f3 (tx _ _ _ ?_) g6 (g70 rfl) fun _ => (D' g).fH f2
        dsimp only
        rw [if_pos g]
        exact ⟨0, hE, by omega, rfl, fun _ => ⟨rfl, rfl, endE_ok pr hE⟩, fun z => absurd rfl z⟩
      · refine k9 mi2 ml' r1 (nI e) (nI n) f3 (tx _ _ _ ?_) g6 (g71 q) fun z => ?_
        · dsimp only
          rw [if_pos g]
          exact ⟨e, hE, e6, rfl, fun z => absurd z q, fun _ => rfl⟩
        · have z : nI e = nI 0 := z
          rw [z_eq (by omega) (by omega)] at z
          exact absurd z q
end RDX2
