/-! drawn -/
def nxS (x : Int32) : Int32 := x * 1103515245 + 12345
def dB (x : Int32) (n : Nat) : Nat := (x.toBitVec.toNat / 65536) % n
def knd (d8 : Nat) : Nat := if d8 < 3 then d8 else if d8 < 5 then 3 else if d8 = 5 then 4 else if d8 = 6 then 5 else 6
/-- one deed drawn -/
noncomputable def drS (r : Nat → Int32) (p : Int32 × PS) : Int32 × PS :=
  if knd (dB (nxS p.1) 8) = 6 then (nxS p.1, (actS r 6 0 0 p.2).2)
  else if (if knd (dB (nxS p.1) 8) = 4 then gN r 4 else gN r 3) = 0 then (nxS p.1, p.2)
  else if knd (dB (nxS p.1) 8) < 3 then (nxS (nxS p.1), (actS r (knd (dB (nxS p.1) 8)) (dB (nxS (nxS p.1)) (if knd (dB (nxS p.1) 8) = 4 then gN r 4 else gN r 3)) 0 p.2).2)
  else (nxS (nxS (nxS p.1)), (actS r (knd (dB (nxS p.1) 8)) (dB (nxS (nxS p.1)) (if knd (dB (nxS p.1) 8) = 4 then gN r 4 else gN r 3)) (dB (nxS (nxS (nxS p.1))) 4) p.2).2)
theorem dr_6 {r : Nat → Int32} {x0 y : Int32} {e : Nat} {st : PS} (hy : y = nxS x0) (he : e = dB y 8) (h6 : knd e = 6) : drS r (x0, st) = (y, (actS r 6 0 0 st).2) := by
  subst hy; subst he
  unfold drS
  dsimp only
  rw [if_pos h6]
theorem dr_0 {r : Nat → Int32} {x0 y : Int32} {e : Nat} {st : PS} (hy : y = nxS x0) (he : e = dB y 8) (h6 : ¬ knd e = 6) (hm : (if knd e = 4 then gN r 4 else gN r 3) = 0) : drS r (x0, st) = (y, st) := by
  subst hy; subst he
  unfold drS
  dsimp only
  rw [if_neg h6, if_pos hm]
theorem dr_3 {r : Nat → Int32} {x0 y y2 : Int32} {e who : Nat} {st : PS} (hy : y = nxS x0) (he : e = dB y 8) (h6 : ¬ knd e = 6) (hm : ¬ (if knd e = 4 then gN r 4 else gN r 3) = 0) (hy2 : y2 = nxS y) (hw : who = dB y2 (if knd e = 4 then gN r 4 else gN r 3)) (h3 : knd e < 3) : drS r (x0, st) = (y2, (actS r (knd e) who 0 st).2) := by
  subst hy; subst he; subst hy2; subst hw
  unfold drS
  dsimp only
  rw [if_neg h6, if_neg hm, if_pos h3]
theorem dr_4 {r : Nat → Int32} {x0 y y2 y3 : Int32} {e who w : Nat} {st : PS} (hy : y = nxS x0) (he : e = dB y 8) (h6 : ¬ knd e = 6) (hm : ¬ (if knd e = 4 then gN r 4 else gN r 3) = 0) (hy2 : y2 = nxS y) (hw : who = dB y2 (if knd e = 4 then gN r 4 else gN r 3)) (h3 : ¬ knd e < 3) (hy3 : y3 = nxS y2) (hd : w = dB y3 4) : drS r (x0, st) = (y3, (actS r (knd e) who w st).2) := by
  subst hy; subst he; subst hy2; subst hw; subst hy3; subst hd
  unfold drS
  dsimp only
  rw [if_neg h6, if_neg hm, if_neg h3]
def itN {α : Type} (f : α → α) : Nat → α → α
  | 0, p => p
  | n + 1, p => itN f n (f p)
theorem itN_0 {α : Type} (f : α → α) (p : α) : itN f 0 p = p := rfl
theorem itN_s {α : Type} (f : α → α) (n : Nat) (p : α) : itN f (n + 1) p = itN f n (f p) := rfl
theorem u16_n (x : Int32) : (x.toUInt32 >>> (Int32.toUInt32 16 &&& Int32.toUInt32 31)).toInt32 = nI (x.toBitVec.toNat / 65536) ∧ x.toBitVec.toNat / 65536 < 65536 := by
  have hx := x.toBitVec.isLt
  refine ⟨?_, by omega⟩
  apply Int32.toBitVec_inj.mp
  have h2 : ((Int32.toUInt32 16 &&& Int32.toUInt32 31).toBitVec % 32).toNat = 16 := by decide
  have e1 : ((x.toUInt32 >>> (Int32.toUInt32 16 &&& Int32.toUInt32 31)).toInt32).toBitVec = x.toBitVec >>> 16 := by
    have : ((x.toUInt32 >>> (Int32.toUInt32 16 &&& Int32.toUInt32 31)).toInt32).toBitVec = (x.toUInt32 >>> (Int32.toUInt32 16 &&& Int32.toUInt32 31)).toBitVec := rfl
    rw [this, UInt32.toBitVec_shiftRight, BitVec.ushiftRight_eq', h2]
    rfl
  rw [e1]
  apply BitVec.eq_of_toNat_eq
  rw [BitVec.toNat_ushiftRight, Nat.shiftRight_eq_div_pow]
  have : (nI (x.toBitVec.toNat / 65536)).toBitVec.toNat = x.toBitVec.toNat / 65536 % 2 ^ 32 := rfl
  rw [this]
  omega
theorem dB_lt (x : Int32) {n : Nat} (h : 0 < n) : dB x n < n := Nat.mod_lt _ h
theorem kn_X : ∀ d8, d8 < 8 → (if nI d8 ≤ 3 then nI d8 else nI d8 - 1) = nI (knd d8) := by decide
theorem kn_Z : ∀ d8, d8 < 8 → (¬ d8 = 7 → (if 3 ≤ nI d8 then (if 5 ≤ nI d8 then (if nI d8 = 5 then (4 : Int32) else (5 : Int32)) else (3 : Int32)) else nI d8) = nI (knd d8)) ∧ (d8 = 7 ↔ knd d8 = 6) ∧ knd d8 ≤ 6 := by decide
section DRW
variable {l : Launch} {d h o x z T kn : Nat} {kd : pm_K} {mr : pm_R} {mi : pm_I} {ml : pm_L} {k m mn : Nat} {r q : Nat → Int32} {st : PS}
theorem s_seedX {x0 : Int32} {K : Int32 → pm_I → pm_L → Prop} (k9 : ∀ y, y = nxS x0 → K y mi ml) : wI l M_X3_nextSeed d [.int x0] kd mr mi ml K := w_X3_nextSeed (k9 _ rfl)
theorem s_drawnX {n : Nat} {x0 y : Int32} {K : Int32 → pm_I → pm_L → Prop} (hy : y = nI n) (hn : 0 < n) (hn2 : n < 100) (k9 : ∀ e, e = dB x0 n → e < n → K (nI e) mi ml) : wI l M_X3_drawnBelow d [.int x0, .int y] kd mr mi ml K := by
  subst hy
  obtain ⟨e1, e2⟩ := u16_n x0
  refine w_X3_drawnBelow ⟨fun _ => ⟨nI_ne0 hn (by omega), ?_⟩, fun h => absurd (nI_le (a := 1) (by omega) (by omega)) h⟩
  rw [e1, z_rem (by omega) (by omega)]
  exact k9 _ rfl (dB_lt x0 hn)
theorem dW.any {a p w : Nat} (ha : a ≤ 6) (hp : p < 64) (hw : w < 4) : dW a p w (nI p) (nI w) := ⟨ha, Or.inr ⟨rfl, hp, Or.inr ⟨rfl, hw⟩⟩⟩
theorem s_oneDrawn {x0 : Int32} {K : Int32 → pm_I → pm_L → Prop} (th : TX3s kd mr h) (to : TX0s kd mr o) (C : CC mi ml o r) (O : okC r) (ho : o + 5 < h) (P : PX r h mi st)
    (k9 : ∀ y st' mi' ml', drS r (x0, st) = (y, st') → chX h mi mi' ml ml' → PX r h mi' st' → K y mi' ml') : wI l M_X3_playOneDrawn (d + 6) [.ref h, .ref o, .int x0] kd mr mi ml K := by
  have h3 := O.2.2.2.2.1
  have h4 := O.2.2.2.2.2.1
  refine w_X3_playOneDrawn th to (s_seedX fun y1 hy1 => s_drawnX (n := 8) rfl (by omega) (by omega) fun e he he8 => ?_)
  obtain ⟨-, -, k6⟩ := kn_Z e he8
  have ex := kn_X e he8
  have hy1' := hy1
  have he' := he
  clear hy1 he
  rw [ex, C.nq O, C.np O]
  have fin6 : knd e = 6 → drS r (x0, st) = (y1, (actS r 6 0 0 st).2) := dr_6 hy1' he'
  have fin0 : ¬ knd e = 6 → (if knd e = 4 then gN r 4 else gN r 3) = 0 → drS r (x0, st) = (y1, st) := fun a b => dr_0 hy1' he' a b
  have fin3 : ∀ y2 who, ¬ knd e = 6 → ¬ (if knd e = 4 then gN r 4 else gN r 3) = 0 → y2 = nxS y1 → who = dB y2 (if knd e = 4 then gN r 4 else gN r 3) → knd e < 3 → drS r (x0, st) = (y2, (actS r (knd e) who 0 st).2) := fun y2 who a b c d e => dr_3 hy1' he' a b c d e
  have fin4 : ∀ y2 y3 who w, ¬ knd e = 6 → ¬ (if knd e = 4 then gN r 4 else gN r 3) = 0 → y2 = nxS y1 → who = dB y2 (if knd e = 4 then gN r 4 else gN r 3) → ¬ knd e < 3 → y3 = nxS y2 → w = dB y3 4 → drS r (x0, st) = (y3, (actS r (knd e) who w st).2) := fun y2 y3 who w a b c d e f g => dr_4 hy1' he' a b c d e f g
  clear hy1' he' ex he8
  generalize knd e = kk at *
  have q6 : (nI kk = 6) = (kk = 6) := z_eq (b := 6) (by omega) (by omega)
  have q4 : (nI kk = 4) = (kk = 4) := z_eq (b := 4) (by omega) (by omega)
  have q3 : (nI kk < 3) = (kk < 3) := z_lt (b := 3) (by omega) (by omega)
  have em : (if nI kk = 4 then nI (gN r 4) else nI (gN r 3)) = nI (if kk = 4 then gN r 4 else gN r 3) := by
    simp only [q4]
    split <;> rfl
  rw [em, q6]
  have hmm : (if kk = 4 then gN r 4 else gN r 3) ≤ 6 := by split <;> omega
  clear em q4
  generalize (if kk = 4 then gN r 4 else gN r 3) = mm at *
  have qm : (nI mm = 0) = (mm = 0) := z_eq (b := 0) (by omega) (by omega)
  rw [qm]
  refine ⟨fun z6 => ⟨fun zm => s_seedX fun y2 hy2 => s_drawnX (n := mm) rfl (by omega) (by omega) fun who hwho hlt => ?_, fun zm => ?_⟩, fun z6 => ?_⟩
  · rw [q3]
    refine ⟨fun z3 => w_X3_playOneDrawn_109 th to ?_, fun z3 => s_seedX fun y3 hy3 => s_drawnX (n := 4) rfl (by omega) (by omega) fun w hw hw4 => w_X3_playOneDrawn_109 th to ?_⟩
    · have f := fin3 y2 who z6 zm hy2 hwho z3
      clear hy2 hwho
      exact s_actX th to C O ho P (a := kk) (p := who) (w := 0) ⟨by omega, Or.inr ⟨rfl, by omega, Or.inl z3⟩⟩ fun mi' ml' c P' => k9 _ _ mi' ml' f c P'
    · have f := fin4 y2 y3 who w z6 zm hy2 hwho z3 hy3 hw
      clear hy2 hwho hy3 hw
      exact s_actX th to C O ho P (a := kk) (p := who) (w := w) (dW.any k6 (by omega) hw4) fun mi' ml' c P' => k9 _ _ mi' ml' f c P'
  · exact k9 _ _ mi ml (fin0 z6 zm) chX.rf P
  · have f := fin6 z6
    rw [z6]
    exact s_actX th to C O ho P (a := 6) (p := 0) (w := 0) ⟨by omega, Or.inl rfl⟩ fun mi' ml' c P' => k9 _ _ mi' ml' f c P'
/-- the reference's world while it draws -/
def JD (r : Nat → Int32) (z k : Nat) (mi0 : pm_I) (ml0 : pm_L) (mi : pm_I) (ml : pm_L) (p : Int32 × PS) : Prop := frZ z mi0 mi ml0 ml ∧ Hd mi z k r ∧ PZ r z mi p.2 ∧ mi z 50 = p.1
theorem PZ.seed {v : Int32} (P : PZ r z mi st) : PZ r z (pm_up mi z 50 v) st := PW.same P (pm_up_row _ _ (by omega)) (pm_up_row _ _ (by omega)) (pm_up_row _ _ (by omega)) (pm_up_row _ _ (by omega)) (pm_up_j _ _ (by decide)) (pm_up_j _ _ (by decide)) (pm_up_j _ _ (by decide))
theorem Hd.seed {v : Int32} (H : Hd mi z k r) : Hd (pm_up mi z 50 v) z k r := H.up (Or.inr (Or.inr (by omega))) (by omega)
theorem s_drawZ {n : Nat} {x0 y : Int32} {K : Int32 → pm_I → pm_L → Prop} (tz : TX12s kd mr z) (hx : mi z 50 = x0) (hy : y = nI n) (hn : 0 < n) (hn2 : n < 100) (k9 : ∀ y e, y = nxS x0 → e = dB y n → e < n → K (nI e) (pm_up mi z 50 y) ml) : wI l M_X12_draw d [.ref z, .int y] kd mr mi ml K := by
  subst hy
  obtain ⟨e1, e2⟩ := u16_n (nxS x0)
  refine w_X12_draw tz ⟨nI_ne0 hn (by omega), ?_⟩
  rw [hx]
  have key : ∀ y, y = nxS x0 → (y.toUInt32 >>> (Int32.toUInt32 16 &&& Int32.toUInt32 31)).toInt32 = nI (y.toBitVec.toNat / 65536) ∧ y.toBitVec.toNat / 65536 < 65536 := fun y hy => u16_n y
  have go : ∀ y, y = nxS x0 → K ((y.toUInt32 >>> (Int32.toUInt32 16 &&& Int32.toUInt32 31)).toInt32 - (y.toUInt32 >>> (Int32.toUInt32 16 &&& Int32.toUInt32 31)).toInt32 / nI n * nI n) (pm_up mi z 50 y) ml := by
    intro y hy
    obtain ⟨g1, g2⟩ := u16_n y
    rw [g1, z_rem (by omega) (by omega)]
    exact k9 y _ hy rfl (dB_lt y hn)
  exact go _ rfl
theorem s_drawDeed {x0 : Int32} {mi0 : pm_I} {ml0 : pm_L} {K : pm_I → pm_L → Prop} (tz : TX12s kd mr z) (O : okC r) (J : JD r z k mi0 ml0 mi ml (x0, st))
    (k9 : ∀ y st' mi', drS r (x0, st) = (y, st') → JD r z k mi0 ml0 mi' ml (y, st') → K mi' ml) : wV l M_X12_drawDeed (d + 7) [.ref z] kd mr mi ml K := by
  have h3 := O.2.2.2.2.1
  have h4 := O.2.2.2.2.2.1
  obtain ⟨F, H, P, S⟩ := J
  have F : frZ z mi0 mi ml0 ml := F
  have P : PZ r z mi st := P
  have S : mi z 50 = x0 := S
  have fs : ∀ (mi : pm_I) v, frZ z mi (pm_up mi z 50 v) ml ml := fun mi v => frZ.upI (Or.inl rfl)
  refine w_X12_drawDeed tz (s_drawZ (n := 8) tz S rfl (by omega) (by omega) fun y1 e hy1' he' he8 => ?_)
  obtain ⟨kz, k7, k6⟩ := kn_Z e he8
  have F1 := F.tr (fs mi y1)
  have H1 : Hd (pm_up mi z 50 y1) z k r := H.seed
  have P1 : PZ r z (pm_up mi z 50 y1) st := P.seed
  have S1 : pm_up mi z 50 y1 z 50 = y1 := pm_up_s _ _ _ _
  have a29 : pm_up mi z 50 y1 z 29 = nI (gN r 4) := H1.2.2.2.2.2.1
  have a28 : pm_up mi z 50 y1 z 28 = nI (gN r 3) := H1.2.2.2.2.1
  have q7 : (nI e = 7) = (e = 7) := z_eq (b := 7) (by omega) (by omega)
  have fin6 : knd e = 6 → drS r (x0, st) = (y1, (actS r 6 0 0 st).2) := dr_6 hy1' he'
  have fin0 : ¬ knd e = 6 → (if knd e = 4 then gN r 4 else gN r 3) = 0 → drS r (x0, st) = (y1, st) := fun a b => dr_0 hy1' he' a b
  have fin3 : ∀ y2 who, ¬ knd e = 6 → ¬ (if knd e = 4 then gN r 4 else gN r 3) = 0 → y2 = nxS y1 → who = dB y2 (if knd e = 4 then gN r 4 else gN r 3) → knd e < 3 → drS r (x0, st) = (y2, (actS r (knd e) who 0 st).2) := fun y2 who a b c d e => dr_3 hy1' he' a b c d e
  have fin4 : ∀ y2 y3 who w, ¬ knd e = 6 → ¬ (if knd e = 4 then gN r 4 else gN r 3) = 0 → y2 = nxS y1 → who = dB y2 (if knd e = 4 then gN r 4 else gN r 3) → ¬ knd e < 3 → y3 = nxS y2 → w = dB y3 4 → drS r (x0, st) = (y3, (actS r (knd e) who w st).2) := fun y2 y3 who w a b c d e f g => dr_4 hy1' he' a b c d e f g
  clear hy1' he'
  rw [q7, a29, a28]
  generalize pm_up mi z 50 y1 = mi1 at *
  -- what follows, once the kind is known
  have done : ∀ (p w : Nat) (xp xw x' : Int32) (mi2 : pm_I), frZ z mi0 mi2 ml0 ml → Hd mi2 z k r → PZ r z mi2 st → mi2 z 50 = x' → dW (knd e) p w xp xw → (∀ mi', JD r z k mi0 ml0 mi' ml (x', (actS r (knd e) p w st).2) → K mi' ml) → c_X12_drawDeed_94 l (d + 7) kd mr z xw xp (nI (knd e)) mi2 ml K := by
    intro p w xp xw x' mi2 g1 g2 g3 g4 g5 g6
    refine w_X12_drawDeed_94 tz (s_doesZ tz g2 O g3 g5 fun mi' c P' => g6 mi' ⟨g1.tr c.fr, g2.chZ c, P', ?_⟩)
    exact (c.2.1 50 (by omega)).trans g4
  refine ⟨fun z7 => ?_, fun z7 => ?_⟩
  · have z6 : ¬ knd e = 6 := fun e => z7 (k7.mpr e)
    rw [kz z7]
    clear kz k7 fin6 q7 he8
    generalize knd e = kk at *
    have q4 : (nI kk = 4) = (kk = 4) := z_eq (b := 4) (by omega) (by omega)
    have q3 : ((3 : Int32) ≤ nI kk) = (3 ≤ kk) := z_le (a := 3) (by omega) (by omega)
    have em : (if nI kk = 4 then nI (gN r 4) else nI (gN r 3)) = nI (if kk = 4 then gN r 4 else gN r 3) := by
      simp only [q4]
      split <;> rfl
    rw [em, q3]
    have hmm : (if kk = 4 then gN r 4 else gN r 3) ≤ 6 := by split <;> omega
    clear em q4
    generalize (if kk = 4 then gN r 4 else gN r 3) = mm at *
    have qm : (nI mm ≤ 0) = (mm ≤ 0) := z_le (b := 0) (by omega) (by omega)
    rw [qm]
    refine ⟨fun zm => k9 _ _ mi1 (fin0 z6 (by omega)) ⟨F1, H1, P1, S1⟩, fun zm => s_drawZ (n := mm) tz S1 rfl (by omega) (by omega) fun y2 who hy2 hwho hlt => ?_⟩
    have S2 : pm_up mi1 z 50 y2 z 50 = y2 := pm_up_s _ _ _ _
    refine ⟨fun z3 => s_drawZ (n := 4) tz S2 rfl (by omega) (by omega) fun y3 w hy3 hw hw4 => ?_, fun z3 => ?_⟩
    · have f := fin4 y2 y3 who w z6 (by omega) hy2 hwho (by omega) hy3 hw
      clear hy2 hwho hy3 hw
      exact done who w _ _ y3 _ ((F1.tr (fs _ _)).tr (fs _ _)) H1.seed.seed P1.seed.seed (pm_up_s _ _ _ _) (dW.any k6 (by omega) hw4) fun mi' J => k9 _ _ mi' f J
    · have f := fin3 y2 who z6 (by omega) hy2 hwho (by omega)
      clear hy2 hwho
      exact done who 0 _ _ y2 _ (F1.tr (fs _ _)) H1.seed P1.seed S2 ⟨k6, Or.inr ⟨rfl, by omega, Or.inl (by omega)⟩⟩ fun mi' J => k9 _ _ mi' f J
  · have f := fin6 (k7.mp z7)
    refine s_restsZ tz P1 O fun mi' c P' => k9 _ _ mi' f ⟨F1.tr c.fr, H1.chZ c, ?_, (c.2.1 50 (by omega)).trans S1⟩
    exact P'
theorem c_drawn {a b c w : Int32} (tx : TX11s kd mr x) (tz : TX12s kd mr z) (I : IV x z mi ml) : wI l M_X11_drawn (d + 8) [.ref x, .int a, .int b, .int c, .int w] kd mr mi ml fun r mi1 ml1 => wI l M_X12_drawn (d + 8) [.ref z, .int a, .int b, .int c, .int w] kd mr mi1 ml1 fun r2 mi2 ml2 => r = r2 ∧ IV x z mi2 ml2 := by
  have f0 : ∀ (mi : pm_I) (ml : pm_L), frZ z mi (pm_up mi z 0 0) ml ml := fun _ _ => frZ.upI (Or.inl rfl)
  have hz := I.1
  have no60 : isK c 61 = false → wI l M_X12_drawn (d + 8) [.ref z, .int a, .int b, .int c, .int w] kd mr mi ml fun r2 mi2 ml2 => -2 = r2 ∧ IV x z mi2 ml2 := fun h =>
    w_X12_drawn tz (s_in2 (m := 60) rfl (by omega) ⟨fun _ => ⟨rfl, I.smZ (f0 _ _)⟩, fun e => by rw [h] at e; cases e⟩)
  refine w_X11_drawn tx (q_city tx I (fun m Im h => ⟨fun _ => ?_, fun b hb => by cases hb⟩) (fun m k r hr Im hk ha to O C => ⟨fun h => (by cases h), fun b4 hb4 => ?_⟩))
  · refine w_X12_drawn tz (s_in2 (m := 60) rfl (by omega) ⟨fun _ => ⟨rfl, I.smZ (f0 _ _)⟩, fun _ => p_handN tz Im h (pm_up_row _ _ (by omega)) (pm_up_row _ _ (by omega)) ⟨fun e => (by cases e), fun _ => ⟨rfl, I.smZ (f0 _ _)⟩⟩⟩)
  · cases hb4
    have hm := Im.1
    refine ⟨to, fun h => no60 (isK_neg h _), fun h => ?_⟩
    obtain ⟨n, hn, rfl⟩ := (z_cases c).resolve_left h
    have q60 : (nI n ≤ 60) = (n ≤ 60) := z_le (b := 60) hn (by omega)
    rw [q60]
    refine ⟨fun h6 => ?_, fun h6 => no60 (by rw [isK_nI hn]; simp; omega)⟩
    -- the reference
    have ref : ∀ (mi1 : pm_I) (ml1 : pm_L), frX x mi mi1 ml ml1 → wI l M_X12_drawn (d + 8) [.ref z, .int a, .int b, .int (nI n), .int w] kd mr mi1 ml1 fun r2 mi2 ml2 => tlF r (itN (drS r) n (b, st0 r)).2 w = r2 ∧ IV x z mi2 ml2 := by
      intro mi1 ml1 fx
      refine w_X12_drawn tz (s_in2 (m := 60) rfl (by omega) ⟨fun e => ?_, fun _ => q_hand tz Im hr hk ha (by rw [pm_up_row _ _ (by omega)]; exact (fx _ (by omega)).1) (by rw [pm_up_row _ _ (by omega)]; exact (fx _ (by omega)).1) fun mi' f g1 g2 H => ⟨fun _ => ?_, fun e => by cases e⟩⟩)
      · rw [isK_nI hn] at e; simp at e; omega
      · have F1 : frZ z mi1 (pm_up mi' z 50 b) ml1 ml1 := ((f0 _ _).tr f).tr (frZ.upI (Or.inl rfl))
        refine s_beginZ tz H.seed O fun mi2 ch P => ?_
        have J0 : JD r z k mi1 ml1 mi2 ml1 (b, st0 r) := ⟨F1.tr ch.fr, H.seed.chZ ch, P, (ch.2.1 50 (by omega)).trans (pm_up_s _ _ _ _)⟩
        have loop : ∀ (u i : Nat) (p : Int32 × PS) (mi3 : pm_I), i + u = n → JD r z k mi1 ml1 mi3 ml1 p → itN (drS r) u p = itN (drS r) n (b, st0 r) → c_X12_drawn_38 l (d + 8) kd mr z (nI n) w (nI i) mi3 ml1 fun r2 mi2 ml2 => tlF r (itN (drS r) n (b, st0 r)).2 w = r2 ∧ IV x z mi2 ml2 := by
          intro u
          induction u with
          | zero =>
            intro i p mi3 hi J e
            have : i = n := by omega
            subst this
            rw [itN_0] at e
            rw [← e]
            refine w_X12_drawn_38 tz ⟨fun _ => s_ofStateZ tz J.2.1 O J.2.2.1 ⟨rfl, (I.smX fx).smZ J.1⟩, fun h => absurd (nI_le (Nat.le_refl _) (by omega)) h⟩
          | succ u ih =>
            intro i p mi3 hi J e
            obtain ⟨x1, s1⟩ := p
            rw [itN_s] at e
            refine w_X12_drawn_38 tz ⟨fun h => absurd h (nI_ge (by omega) (by omega)), fun _ => s_drawDeed tz O (x0 := x1) (st := s1) J fun y st' mi4 hd J4 => ?_⟩
            rw [hd] at e
            rw [nI_1]
            exact ih (i + 1) (y, st') mi4 (by omega) J4 e
        exact loop n 0 _ mi2 (by omega) J0 rfl
    refine s_beginX (TX11s_a6 tx) to C O (by omega) fun mi1 ch P => ?_
    have loop : ∀ (u i : Nat) (p : Int32 × PS) (mi3 : pm_I) (ml3 : pm_L), i + u = n → chX (x + 208) mi mi3 ml ml3 → PX r (x + 208) mi3 p.2 → itN (drS r) u p = itN (drS r) n (b, st0 r) → c_X11_drawn_43 l (d + 8) kd mr x (nI n) w (x + 1 + 7 + 19 * k) p.1 (nI i) mi3 ml3 fun r mi1 ml1 => wI l M_X12_drawn (d + 8) [.ref z, .int a, .int b, .int (nI n), .int w] kd mr mi1 ml1 fun r2 mi2 ml2 => r = r2 ∧ IV x z mi2 ml2 := by
      intro u
      induction u with
      | zero =>
        intro i p mi3 ml3 hi ch3 P3 e
        have : i = n := by omega
        subst this
        refine w_X11_drawn_43 tx to ⟨fun _ => s_tellP (TX11s_a6 tx) to (C.chX ch3 (by omega)) O P3 ?_, fun h => absurd (nI_le (Nat.le_refl _) (by omega)) h⟩
        rw [itN_0] at e
        rw [e]
        exact ref mi3 ml3 ch3.fr
      | succ u ih =>
        intro i p mi3 ml3 hi ch3 P3 e
        obtain ⟨x1, s1⟩ := p
        rw [itN_s] at e
        refine w_X11_drawn_43 tx to ⟨fun h => absurd h (nI_ge (by omega) (by omega)), fun _ => s_oneDrawn (TX11s_a6 tx) to (C.chX ch3 (by omega)) O (by omega) P3 fun y st' mi4 ml4 hd ch4 P4 => ?_⟩
        rw [hd] at e
        rw [nI_1]
        exact ih (i + 1) (y, st') mi4 ml4 (by omega) (ch3.tr ch4) P4 e
    exact loop n 0 (b, st0 r) mi1 ml (by omega) ch P rfl
end DRW
