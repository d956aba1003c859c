/-! a night as it is played: its states; the class's side -/
abbrev PS : Type := (Nat → Nat) × (Nat → Nat) × (Nat → Int32) × (Nat → Int32) × Int32 × Int32 × Int32
def setF {α : Type} (f : Nat → α) (q : Nat) (v : α) : Nat → α := fun i => if i = q then v else f i
def stB (sd : Int32) (q : Nat) : Bool := decide ((sd >>> (nI q &&& 31)) &&& 1 = 1)
/-- one obeys (that he did is counted before) -/
def obS (r : Nat → Int32) (cmd w q : Nat) (st : PS) : PS :=
  if cmd = 0 then (st.1, st.2.1, st.2.2.1, st.2.2.2.1, st.2.2.2.2.1 ||| ((1 : Int32) <<< (nI q &&& 31)), st.2.2.2.2.2.1, st.2.2.2.2.2.2)
  else if cmd = 1 then (st.1, st.2.1, st.2.2.1, st.2.2.2.1, st.2.2.2.2.1 &&& (((1 : Int32) <<< (nI q &&& 31)) ^^^ (-1)), st.2.2.2.2.2.1, st.2.2.2.2.2.2)
  else if cmd = 2 then (st.1, st.2.1, st.2.2.1, st.2.2.2.1, st.2.2.2.2.1, if gN r (27 + q) = 1 then st.2.2.2.2.2.1 ||| ((1 : Int32) <<< (nI q &&& 31)) else st.2.2.2.2.2.1, st.2.2.2.2.2.2)
  else (st.1, setF st.2.1 q (if stB st.2.2.2.2.1 q = true then st.2.1 q else (fre r (st.2.1 q) w).getD (st.2.1 q)), st.2.2.1, st.2.2.2.1, st.2.2.2.2.1, st.2.2.2.2.2.1, st.2.2.2.2.2.2)
/-- one hears -/
noncomputable def perS (r : Nat → Int32) (Hc : Nat → Prop) (cmd w q : Nat) (st : PS) : PS :=
  if pb (gN r (27 + q) ≠ 3 ∧ Hc (st.2.1 q)) = true then
    (if st.2.2.1 q ≠ nI cmd ∧ ¬ (gN r (27 + q) = 2 ∧ cmd = 0) then obS r cmd w q (st.1, st.2.1, setF st.2.2.1 q (nI cmd), setF st.2.2.2.1 q (st.2.2.2.1 q + 1), st.2.2.2.2.1, st.2.2.2.2.2.1, st.2.2.2.2.2.2 + 1)
     else (st.1, st.2.1, setF st.2.2.1 q (nI cmd), setF st.2.2.2.1 q (st.2.2.2.1 q + 1), st.2.2.2.2.1, st.2.2.2.2.2.1, st.2.2.2.2.2.2))
  else st
noncomputable def plyS (r : Nat → Int32) (Hc : Nat → Prop) (cmd w : Nat) : Nat → PS → PS
  | 0, st => st
  | n + 1, st => perS r Hc cmd w n (plyS r Hc cmd w n st)
noncomputable def actS (r : Nat → Int32) (a p w : Nat) (st : PS) : Bool × PS :=
  if a = 6 then (true, (st.1, st.2.1, fun _ => -1, st.2.2.2.1, st.2.2.2.2.1, st.2.2.2.2.2.1, st.2.2.2.2.2.2))
  else if a = 5 then (if p < gN r 3 then (match fre r (st.1 p) w with
    | none => (false, st)
    | some t => (true, (setF st.1 p t, st.2.1, st.2.2.1, st.2.2.2.1, st.2.2.2.2.1, st.2.2.2.2.2.1, st.2.2.2.2.2.2))) else (false, st))
  else if a = 4 then (if p < gN r 4 ∧ stB st.2.2.2.2.1 p = false then (match fre r (st.2.1 p) w with
    | none => (false, st)
    | some t => (true, (st.1, setF st.2.1 p t, st.2.2.1, st.2.2.2.1, st.2.2.2.2.1, st.2.2.2.2.2.1, st.2.2.2.2.2.2))) else (false, st))
  else if p < gN r 3 then (true, plyS r (reach r (st.1 p) (rgN (gN r (9 + p)))) a w (gN r 4) st) else (false, st)
/-- what a deed's ints say -/
def dW (a p w : Nat) (xp xw : Int32) : Prop := a ≤ 6 ∧ (a = 6 ∨ (xp = nI p ∧ p < 64 ∧ (a < 3 ∨ (xw = nI w ∧ w < 4))))
/-- a state, as rows and fields of a world -/
def PW (r : Nat → Int32) (f : Nat → Nat) (a b c e o i j k : Nat) (mi : pm_I) (st : PS) : Prop := (∀ p, p < gN r 3 → mi a p = nI (f (st.1 p)) ∧ st.1 p < cells r) ∧ (∀ q, q < gN r 4 → mi b q = nI (f (st.2.1 q)) ∧ st.2.1 q < cells r ∧ mi c q = st.2.2.1 q ∧ mi e q = st.2.2.2.1 q) ∧ mi o i = st.2.2.2.2.1 ∧ mi o j = st.2.2.2.2.2.1 ∧ mi o k = st.2.2.2.2.2.2
def dis5 (a b c e o : Nat) : Prop := a ≠ b ∧ a ≠ c ∧ a ≠ e ∧ a ≠ o ∧ b ≠ c ∧ b ≠ e ∧ b ≠ o ∧ c ≠ e ∧ c ≠ o ∧ e ≠ o
section PWS
variable {r : Nat → Int32} {f : Nat → Nat} {a b c e o i j k : Nat} {mi : pm_I} {st : PS}
theorem PW.same {mi' : pm_I} (h : PW r f a b c e o i j k mi st) (ha : mi' a = mi a) (hb : mi' b = mi b) (hc : mi' c = mi c) (he : mi' e = mi e) (h1 : mi' o i = mi o i) (h2 : mi' o j = mi o j) (h3 : mi' o k = mi o k) : PW r f a b c e o i j k mi' st := by
  unfold PW at h ⊢
  rw [ha, hb, hc, he, h1, h2, h3]; exact h
theorem PW.la (h : PW r f a b c e o i j k mi st) (D : dis5 a b c e o) (q : Nat) (v u : Int32) : PW r f a b c e o i j k (pm_up (pm_up mi c q v) e q u) (st.1, st.2.1, setF st.2.2.1 q v, setF st.2.2.2.1 q u, st.2.2.2.2.1, st.2.2.2.2.2.1, st.2.2.2.2.2.2) := by
  obtain ⟨D1, D2, D3, D4, D5, D6, D7, D8, D9, D10⟩ := D
  obtain ⟨h1, h2, h3, h4, h5⟩ := h
  have ro : pm_up (pm_up mi c q v) e q u o = mi o := by rw [pm_up_row _ _ (Ne.symm D10), pm_up_row _ _ (Ne.symm D9)]
  refine ⟨fun p hp => ?_, fun q' hq => ?_, by rw [ro]; exact h3, by rw [ro]; exact h4, by rw [ro]; exact h5⟩
  · rw [pm_up_row _ _ D3, pm_up_row _ _ D2]; exact h1 p hp
  · obtain ⟨g1, g2, g3, g4⟩ := h2 q' hq
    rw [pm_up_row (a := b) _ _ D6, pm_up_row (a := b) _ _ D5, pm_up_row (a := c) _ _ D8]
    refine ⟨g1, g2, ?_, ?_⟩
    · by_cases z : q' = q
      · subst z; rw [pm_up_s]; exact (if_pos rfl).symm
      · rw [pm_up_j _ _ z]; exact g3.trans (if_neg z).symm
    · by_cases z : q' = q
      · subst z; rw [pm_up_s]; exact (if_pos rfl).symm
      · rw [pm_up_j _ _ z, pm_up_row _ _ (Ne.symm D8)]; exact g4.trans (if_neg z).symm
theorem PW.pe (h : PW r f a b c e o i j k mi st) (D : dis5 a b c e o) (q : Nat) {t : Nat} {v : Int32} (hv : v = nI (f t)) (ht : t < cells r) : PW r f a b c e o i j k (pm_up mi b q v) (st.1, setF st.2.1 q t, st.2.2.1, st.2.2.2.1, st.2.2.2.2.1, st.2.2.2.2.2.1, st.2.2.2.2.2.2) := by
  subst hv
  obtain ⟨D1, D2, D3, D4, D5, D6, D7, D8, D9, D10⟩ := D
  obtain ⟨h1, h2, h3, h4, h5⟩ := h
  have ro : pm_up mi b q (nI (f t)) o = mi o := pm_up_row _ _ (Ne.symm D7)
  refine ⟨fun p hp => by rw [pm_up_row _ _ D1]; exact h1 p hp, fun q' hq => ?_, by rw [ro]; exact h3, by rw [ro]; exact h4, by rw [ro]; exact h5⟩
  obtain ⟨g1, g2, g3, g4⟩ := h2 q' hq
  rw [pm_up_row (a := c) _ _ (Ne.symm D5), pm_up_row (a := e) _ _ (Ne.symm D6)]
  unfold setF
  by_cases z : q' = q
  · subst z; rw [pm_up_s]; simp only [if_true]; exact ⟨trivial, ht, g3, g4⟩
  · rw [pm_up_j _ _ z]; simp only [if_neg z]; exact ⟨g1, g2, g3, g4⟩
theorem PW.pl (h : PW r f a b c e o i j k mi st) (D : dis5 a b c e o) (q : Nat) {t : Nat} {v : Int32} (hv : v = nI (f t)) (ht : t < cells r) : PW r f a b c e o i j k (pm_up mi a q v) (setF st.1 q t, st.2.1, st.2.2.1, st.2.2.2.1, st.2.2.2.2.1, st.2.2.2.2.2.1, st.2.2.2.2.2.2) := by
  subst hv
  obtain ⟨D1, D2, D3, D4, D5, D6, D7, D8, D9, D10⟩ := D
  obtain ⟨h1, h2, h3, h4, h5⟩ := h
  have ro : pm_up mi a q (nI (f t)) o = mi o := pm_up_row _ _ (Ne.symm D4)
  refine ⟨fun p hp => ?_, fun q' hq => ?_, by rw [ro]; exact h3, by rw [ro]; exact h4, by rw [ro]; exact h5⟩
  · obtain ⟨g1, g2⟩ := h1 p hp
    unfold setF
    by_cases z : p = q
    · subst z; rw [pm_up_s]; simp only [if_true]; exact ⟨trivial, ht⟩
    · rw [pm_up_j _ _ z]; simp only [if_neg z]; exact ⟨g1, g2⟩
  · rw [pm_up_row (a := b) _ _ (Ne.symm D1), pm_up_row (a := c) _ _ (Ne.symm D2), pm_up_row (a := e) _ _ (Ne.symm D3)]; exact h2 q' hq
theorem PW.obj (h : PW r f a b c e o i j k mi st) (D : dis5 a b c e o) (n : Nat) (v sd td ob : Int32) (h1 : pm_up mi o n v o i = sd) (h2 : pm_up mi o n v o j = td) (h3 : pm_up mi o n v o k = ob) : PW r f a b c e o i j k (pm_up mi o n v) (st.1, st.2.1, st.2.2.1, st.2.2.2.1, sd, td, ob) := by
  obtain ⟨D1, D2, D3, D4, D5, D6, D7, D8, D9, D10⟩ := D
  obtain ⟨g1, g2, -⟩ := h
  refine ⟨fun p hp => by rw [pm_up_row _ _ D4]; exact g1 p hp, fun q' hq => ?_, h1, h2, h3⟩
  rw [pm_up_row (a := b) _ _ D7, pm_up_row (a := c) _ _ D9, pm_up_row (a := e) _ _ D10]; exact g2 q' hq
end PWS
def PX (r : Nat → Int32) (h : Nat) (mi : pm_I) (st : PS) : Prop := PW r (spC r) (h + 3) (h + 4) (h + 5) (h + 6) h 5 6 7 mi st
def PZ (r : Nat → Int32) (z : Nat) (mi : pm_I) (st : PS) : Prop := PW r id (z + 16) (z + 13) (z + 14) (z + 15) z 36 37 38 mi st
theorem disX (h : Nat) : dis5 (h + 3) (h + 4) (h + 5) (h + 6) h := by unfold dis5; omega
theorem disZ (z : Nat) : dis5 (z + 16) (z + 13) (z + 14) (z + 15) z := by unfold dis5; omega
def chX (h : Nat) (mi mi' : pm_I) (ml ml' : pm_L) : Prop := ∀ a, (a < h ∨ h + 6 < a) → mi' a = mi a ∧ ml' a = ml a
def chZ (z : Nat) (mi mi' : pm_I) (ml ml' : pm_L) : Prop := (∀ a, a ≠ z → (a < z + 12 ∨ z + 16 < a) → mi' a = mi a) ∧ (∀ b, (b < 36 ∨ 38 < b) → mi' z b = mi z b) ∧ ml' = ml
theorem chX.rf {h : Nat} {mi : pm_I} {ml : pm_L} : chX h mi mi ml ml := fun _ _ => ⟨rfl, rfl⟩
theorem chX.tr {h : Nat} {mi mi' mi2 : pm_I} {ml ml' ml2 : pm_L} (h1 : chX h mi mi' ml ml') (h2 : chX h mi' mi2 ml' ml2) : chX h mi mi2 ml ml2 := fun a ha => ⟨(h2 a ha).1.trans (h1 a ha).1, (h2 a ha).2.trans (h1 a ha).2⟩
theorem chX.up {h a j : Nat} {mi : pm_I} {ml : pm_L} {v : Int32} (ha : h ≤ a ∧ a ≤ h + 6) : chX h mi (pm_up mi a j v) ml ml := fun b hb => ⟨pm_up_row _ _ (by omega), rfl⟩
theorem chX.ur {h a : Nat} {mi : pm_I} {ml : pm_L} {g : Nat → Int32} (ha : h ≤ a ∧ a ≤ h + 6) : chX h mi (pm_ur mi a g) ml ml := fun b hb => ⟨pm_ur_k _ _ (by omega), rfl⟩
theorem chX.urL {h a : Nat} {mi : pm_I} {ml : pm_L} {g : Nat → Int64} (ha : h ≤ a ∧ a ≤ h + 6) : chX h mi mi ml (pm_ur ml a g) := fun b hb => ⟨rfl, pm_ur_k _ _ (by omega)⟩
theorem chZ.rf {h : Nat} {mi : pm_I} {ml : pm_L} : chZ h mi mi ml ml := ⟨fun _ _ _ => rfl, fun _ _ => rfl, rfl⟩
theorem chZ.tr {h : Nat} {mi mi' mi2 : pm_I} {ml ml' ml2 : pm_L} (h1 : chZ h mi mi' ml ml') (h2 : chZ h mi' mi2 ml' ml2) : chZ h mi mi2 ml ml2 := ⟨fun a g1 g2 => (h2.1 a g1 g2).trans (h1.1 a g1 g2), fun b hb => (h2.2.1 b hb).trans (h1.2.1 b hb), h2.2.2.trans h1.2.2⟩
theorem chZ.up {h a j : Nat} {mi : pm_I} {ml : pm_L} {v : Int32} (ha : (h + 12 ≤ a ∧ a ≤ h + 16) ∨ (a = h ∧ 36 ≤ j ∧ j ≤ 38)) : chZ h mi (pm_up mi a j v) ml ml := ⟨fun b g1 g2 => pm_up_row _ _ (by omega), fun b hb => pm_up_ne _ _ (by omega), rfl⟩
theorem chZ.ur {h a : Nat} {mi : pm_I} {ml : pm_L} {g : Nat → Int32} (ha : h + 12 ≤ a ∧ a ≤ h + 16) : chZ h mi (pm_ur mi a g) ml ml := ⟨fun b g1 g2 => pm_ur_k _ _ (by omega), fun b hb => by rw [pm_ur_k _ _ (by omega)], rfl⟩
section PLX
variable {l : Launch} {d h o x z T : Nat} {kd : pm_K} {mr : pm_R} {mi : pm_I} {ml : pm_L} {k : Nat} {r : Nat → Int32} {st : PS}
theorem CC.chX {mi' : pm_I} {ml' : pm_L} (C : CC mi ml o r) (c : chX h mi mi' ml ml') (ho : o + 5 < h) : CC mi' ml' o r := C.same (fun a h1 h2 => (c a (by omega)).1) (c o (by omega)).2
theorem Hd.chZ {mi' : pm_I} {ml' : pm_L} (H : Hd mi z k r) (c : chZ z mi mi' ml ml') : Hd mi' z k r := by
  unfold Hd at H ⊢
  rw [c.2.1 25 (by omega), c.2.1 26 (by omega), c.2.1 27 (by omega), c.2.1 28 (by omega), c.2.1 29 (by omega), c.1 (z + 6) (by omega) (by omega)]
  exact H
theorem and_1 : ∀ x : Int32, x &&& 1 = 0 ∨ x &&& 1 = 1 := by
  intro x
  have h : (x &&& 1).toBitVec.toNat = x.toBitVec.toNat % 2 := by
    rw [Int32.toBitVec_and, BitVec.toNat_and]
    exact Nat.and_two_pow_sub_one_eq_mod x.toBitVec.toNat 1
  rcases (show (x &&& 1).toBitVec.toNat = 0 ∨ (x &&& 1).toBitVec.toNat = 1 by omega) with q | q
  · exact Or.inl (Int32.toBitVec_inj.mp (BitVec.eq_of_toNat_eq q))
  · exact Or.inr (Int32.toBitVec_inj.mp (BitVec.eq_of_toNat_eq q))
theorem stB_0 (sd : Int32) (q : Nat) : decide ((sd >>> (nI q &&& 31)) &&& 1 = 0) = !stB sd q := by
  unfold stB
  rcases and_1 (sd >>> (nI q &&& 31)) with h | h
  · rw [h]; decide
  · rw [h]; decide
theorem s_isFree {q : Nat} {y : Int32} {K : Bool → pm_I → pm_L → Prop} (th : TX3s kd mr h) (P : PX r h mi st) (hy : y = nI q) (k9 : K (!stB st.2.2.2.2.1 q) mi ml) : wB l M_X3_isFree d [.ref h, .int y] kd mr mi ml K := by
  subst hy
  refine w_X3_isFree th ?_
  rw [P.2.2.1, stB_0]; exact k9
theorem s_obeyX {cmd w q : Nat} {xw : Int32} {op : Int64} {K : pm_I → pm_L → Prop} (th : TX3s kd mr h) (to : TX0s kd mr o) (C : CC mi ml o r) (O : okC r) (P : PX r h mi st) (hop : ∀ s, s < 64 → bl op s = opS r s) (hq : q < gN r 4) (hc : cmd ≤ 3) (hw : cmd < 3 ∨ (xw = nI w ∧ w < 4))
    (k9 : ∀ mi', chX h mi mi' ml ml → PX r h mi' (obS r cmd w q st) → K mi' ml) : wV l M_X3_obey (d + 3) [.ref h, .ref o, .int (nI q), .int (nI cmd), .int xw, .long op] kd mr mi ml K := by
  have h4 := O.2.2.2.2.2.1
  obtain ⟨p1, p2, p3, p4, p5⟩ := P
  have P : PX r h mi st := ⟨p1, p2, p3, p4, p5⟩
  obtain ⟨q1, q2, q3, q4⟩ := p2 q hq
  refine w_X3_obey th to ?_
  rw [z_toInt (by omega), z_cl (by omega)]
  refine ⟨fun z => ⟨z_in (by omega) (by omega), ?_⟩, fun z => ?_, fun z => ?_, fun z => ⟨z_in (by omega) (by omega), ?_⟩⟩
  · have hcmd : cmd = 3 := by omega
    subst hcmd
    obtain ⟨rfl, hw4⟩ := hw.resolve_left (by omega)
    refine s_nextSpot O hop q1 q2 rfl hw4 (s_isFree th P rfl ⟨fun e => ?_, fun e => ?_⟩)
    · have e : stB st.2.2.2.2.1 q = true := by simpa using e
      refine k9 mi chX.rf ?_
      unfold obS
      rw [if_neg (by decide), if_neg (by decide), if_neg (by decide), e, if_pos rfl]
      have : setF st.2.1 q (st.2.1 q) = st.2.1 := by
        funext i; unfold setF; split
        · rename_i z; rw [z]
        · rfl
      rw [this]; exact P
    · have e : stB st.2.2.2.2.1 q = false := by simpa using e
      cases hn : fre r (st.2.1 q) w with
      | none =>
        refine ⟨fun _ => k9 mi chX.rf ?_, fun z => absurd rfl z⟩
        unfold obS
        rw [if_neg (by decide), if_neg (by decide), if_neg (by decide), e, if_neg (by decide), hn]
        have : setF st.2.1 q (st.2.1 q) = st.2.1 := by
          funext i; unfold setF; split
          · rename_i z; rw [z]
          · rfl
        show PX r h mi (st.1, setF st.2.1 q (st.2.1 q), _)
        rw [this]; exact P
      | some t =>
        have ht := fre_lt O q2 hn
        have hsp := (spC_in O ht).2.2
        refine ⟨fun z => absurd z (z_eq1 (by omega)), fun _ => ⟨z_in (by omega) (by omega), k9 _ (chX.up (by omega)) ?_⟩⟩
        unfold obS
        rw [if_neg (by decide), if_neg (by decide), if_neg (by decide), e, if_neg (by decide), hn]
        exact PW.pe P (disX h) q rfl ht
  · have hcmd : cmd = 0 := by omega
    subst hcmd
    refine k9 _ (chX.up (by omega)) ?_
    unfold obS
    rw [if_pos rfl]
    exact PW.obj P (disX h) 5 _ _ _ _ (by rw [pm_up_s, p3]) ((pm_up_j _ _ (by decide)).trans p4) ((pm_up_j _ _ (by decide)).trans p5)
  · have hcmd : cmd = 1 := by omega
    subst hcmd
    refine k9 _ (chX.up (by omega)) ?_
    unfold obS
    rw [if_neg (by decide), if_pos rfl]
    exact PW.obj P (disX h) 5 _ _ _ _ (by rw [pm_up_s, p3]) ((pm_up_j _ _ (by decide)).trans p4) ((pm_up_j _ _ (by decide)).trans p5)
  · have hcmd : cmd = 2 := by omega
    subst hcmd
    rw [(C.pe hq).1, O.lit (by omega)]
    have e1 : (nI (gN r (27 + q)) = 1) = (gN r (27 + q) = 1) := z_eq (b := 1) (by have := (O.1 (27 + q) (by omega)).2; omega) (by omega)
    rw [e1]
    refine ⟨fun e => k9 mi chX.rf ?_, fun e => k9 _ (chX.up (by omega)) ?_⟩
    · unfold obS
      rw [if_neg (by decide), if_neg (by decide), if_pos rfl, if_neg e]
      exact P
    · unfold obS
      rw [if_neg (by decide), if_neg (by decide), if_pos rfl, if_pos e]
      exact PW.obj P (disX h) 6 _ _ _ _ ((pm_up_j _ _ (by decide)).trans p3) (by rw [pm_up_s, p4]) ((pm_up_j _ _ (by decide)).trans p5)
theorem PW.bd {f : Nat → Nat} {a b c e o i j k : Nat} (h : PW r f a b c e o i j k mi st) : (∀ p, p < gN r 3 → st.1 p < cells r) ∧ ∀ q, q < gN r 4 → st.2.1 q < cells r := ⟨fun p hp => (h.1 p hp).2, fun q hq => (h.2.1 q hq).2.1⟩
theorem s_playCommandX {cmd w p : Nat} {xw : Int32} {K : pm_I → pm_L → Prop} (th : TX3s kd mr h) (to : TX0s kd mr o) (C : CC mi ml o r) (O : okC r) (ho : o + 5 < h) (P : PX r h mi st) (hp : p < gN r 3) (hc : cmd ≤ 3) (hw : cmd < 3 ∨ (xw = nI w ∧ w < 4))
    (k9 : ∀ mi' ml', chX h mi mi' ml ml' → PX r h mi' (plyS r (reach r (st.1 p) (rgN (gN r (9 + p)))) cmd w (gN r 4) st) → K mi' ml') : wV l M_X3_playCommand (d + 4) [.ref h, .ref o, .int (nI cmd), .int (nI p), .int xw] kd mr mi ml K := by
  have hb := O.w
  have h3 := O.2.2.2.2.1
  have h4 := O.2.2.2.2.2.1
  have hrg := rgN_le (gN r (9 + p))
  obtain ⟨a1, a2⟩ := P.1 p hp
  refine w_X3_playCommand th to ⟨z_in (by omega) (by omega), s_rangeOf to C O rfl hp (s_heardX (TX3s_a0 th) to C O (by omega) a2 (by rw [z_cl (by omega)]; exact a1) rfl (by omega) fun hv g hhv => ?_)⟩
  have c0 : chX h mi mi ml (pm_ur ml (h + 1 + 1) g) := chX.urL (by omega)
  refine s_openX to (C.chX c0 ho) O fun op hop => ?_
  have loop : ∀ (u q : Nat) (mi1 : pm_I), q + u = gN r 4 → chX h mi mi1 ml (pm_ur ml (h + 1 + 1) g) → PX r h mi1 (plyS r (reach r (st.1 p) (rgN (gN r (9 + p)))) cmd w q st) → c_X3_playCommand_30 l (d + 4) kd mr h o (nI cmd) xw hv op (nI q) mi1 (pm_ur ml (h + 1 + 1) g) K := by
    intro u
    induction u with
    | zero =>
      intro q mi1 hq hch hP
      have : q = gN r 4 := by omega
      subst this
      exact w_X3_playCommand_30 th to ⟨fun _ => k9 _ _ hch hP, fun z => absurd (by rw [(C.chX hch ho).nq O]; exact nI_le (Nat.le_refl _) (by omega)) z⟩
    | succ u ih =>
      intro q mi1 hq hch hP
      have hqq : q < gN r 4 := by omega
      have C1 := C.chX hch ho
      have hkq := (O.1 (27 + q) (by omega)).2
      generalize hs1 : plyS r (reach r (st.1 p) (rgN (gN r (9 + p)))) cmd w q st = s1 at hP
      have hst : plyS r (reach r (st.1 p) (rgN (gN r (9 + p)))) cmd w (q + 1) st = perS r (reach r (st.1 p) (rgN (gN r (9 + p)))) cmd w q s1 := by rw [← hs1]; rfl
      obtain ⟨b1, b2, b3, b4⟩ := hP.2.1 q hqq
      have on : ∀ mi2, chX h mi mi2 ml (pm_ur ml (h + 1 + 1) g) → PX r h mi2 (perS r (reach r (st.1 p) (rgN (gN r (9 + p)))) cmd w q s1) → c_X3_playCommand_159 l (d + 4) kd mr h o (nI cmd) xw hv op (nI q) mi2 (pm_ur ml (h + 1 + 1) g) K := by
        intro mi2 g1 g2
        refine w_X3_playCommand_159 th to ?_
        rw [nI_1]
        exact ih (q + 1) mi2 (by omega) g1 (by rw [hst]; exact g2)
      refine w_X3_playCommand_30 th to ⟨fun z => absurd z (by rw [C1.nq O]; exact nI_ge (by omega) (by omega)), fun _ => ⟨z_in (by omega) (by omega), ?_⟩⟩
      rw [z_cl (by omega), (C1.pe hqq).1, O.lit (by omega), b1]
      have e3 : (nI (gN r (27 + q)) = 3) = (gN r (27 + q) = 3) := z_eq (b := 3) (by omega) (by omega)
      have e2 : (nI (gN r (27 + q)) = 2) = (gN r (27 + q) = 2) := z_eq (b := 2) (by omega) (by omega)
      have e0 : (nI cmd = 0) = (cmd = 0) := z_eq (b := 0) (by omega) (by omega)
      rw [e3]
      refine ⟨fun z => on mi1 hch ?_, fun z => ⟨z_in (by omega) (by omega), s_hasX rfl (spC_in O b2).2.2 ⟨fun hh => ⟨z_in (by omega) (by omega), z_in (by omega) (by omega), z_in (by omega) (by omega), z_in (by omega) (by omega), z_in (by omega) (by omega), ?_⟩, fun hh => on mi1 hch ?_⟩⟩⟩
      · unfold perS
        rw [if_neg (fun e => (pb_iff.mp e).1 z)]
        exact hP
      · have hre := (hhv _ (spC_in O b2).2.2).mp hh
        rw [(spC_in O b2).2.1] at hre
        have hpb : pb (gN r (27 + q) ≠ 3 ∧ reach r (st.1 p) (rgN (gN r (9 + p))) (s1.2.1 q)) = true := pb_iff.mpr ⟨z, hre.2⟩
        have P2 := PW.la hP (disX h) q (nI cmd) (s1.2.2.2.1 q + 1)
        have ch2 : chX h mi (pm_up (pm_up mi1 (h + 5) q (nI cmd)) (h + 6) q (s1.2.2.2.1 q + 1)) ml (pm_ur ml (h + 1 + 1) g) := (hch.tr (chX.up (by omega))).tr (chX.up (by omega))
        have ek : mi1 (o + 3) q = nI (gN r (27 + q)) := by rw [(C1.pe hqq).1, O.lit (by omega)]
        rw [b3, b4, ek]
        simp only [e2, e0]
        refine ⟨fun e => on _ ch2 ?_, fun e => ⟨fun e5 => on _ ch2 ?_, fun e5 => ?_⟩⟩
        · have e : s1.2.2.1 q = nI cmd := by simpa using e
          unfold perS
          rw [if_pos hpb, if_neg (fun z => z.1 e)]
          exact P2
        · have e5 : gN r (27 + q) = 2 ∧ cmd = 0 := by simpa using e5
          unfold perS
          rw [if_pos hpb, if_neg (fun z => z.2 e5)]
          exact P2
        · have e : ¬ s1.2.2.1 q = nI cmd := by simpa using e
          have e5 : ¬ (gN r (27 + q) = 2 ∧ cmd = 0) := by simpa using e5
          have P3 := PW.obj P2 (disX h) 7 (mi1 h 7 + 1) s1.2.2.2.2.1 s1.2.2.2.2.2.1 (s1.2.2.2.2.2.2 + 1) ((pm_up_j _ _ (by decide)).trans P2.2.2.1) ((pm_up_j _ _ (by decide)).trans P2.2.2.2.1) (by rw [pm_up_s, hP.2.2.2.2])
          have ch3 := ch2.tr (chX.up (j := 7) (v := mi1 h 7 + 1) (ml := pm_ur ml (h + 1 + 1) g) (h := h) (a := h) (mi := pm_up (pm_up mi1 (h + 5) q (nI cmd)) (h + 6) q (s1.2.2.2.1 q + 1)) (by omega))
          refine s_obeyX th to (C.chX ch3 ho) O P3 hop hqq hc hw fun mi' g1 g2 => on mi' (ch3.tr g1) ?_
          unfold perS
          rw [if_pos hpb, if_pos ⟨e, e5⟩]
          exact g2
      · have hre : ¬ reach r (st.1 p) (rgN (gN r (9 + p))) (s1.2.1 q) := fun e => by
          have := (hhv _ (spC_in O b2).2.2).mpr ⟨(spC_in O b2).1, by rw [(spC_in O b2).2.1]; exact e⟩
          rw [this] at hh; cases hh
        unfold perS
        rw [if_neg (fun e => hre (pb_iff.mp e).2)]
        exact hP
  exact loop (gN r 4) 0 mi (by omega) c0 P
theorem s_moveOn {a n q t w : Nat} {y v : Int32} {op : Int64} {K : Bool → pm_I → pm_L → Prop} (ka : kd[a]? = some (1, n)) (O : okC r) (hop : ∀ s, s < 64 → bl op s = opS r s) (hy : y = nI q) (hq : q < n) (hn : n < 2147483648) (hv : v = nI w) (hw : w < 4) (ht : mi a q = nI (spC r t)) (htc : t < cells r)
    (k0 : fre r t w = none → K false mi ml) (k1 : ∀ t', fre r t w = some t' → t' < cells r → K true (pm_up mi a q (nI (spC r t'))) ml) : wB l M_X3_moveOn (d + 3) [.ref a, .int y, .int v, .long op] kd mr mi ml K := by
  subst hy
  refine w_X3_moveOn ka ⟨z_in hq hn, ?_⟩
  rw [z_cl (by omega)]
  refine s_nextSpot O hop ht htc hv hw ?_
  cases hf : fre r t w with
  | none => exact ⟨fun z => absurd rfl z, fun _ => k0 hf⟩
  | some t' =>
    have h1 := fre_lt O htc hf
    have h2 := (spC_in O h1).2.2
    exact ⟨fun _ => ⟨z_in hq hn, k1 t' hf h1⟩, fun z => absurd z (z_eq1 (by omega))⟩
theorem s_actX {a p w : Nat} {xp xw : Int32} {K : Bool → pm_I → pm_L → Prop} (th : TX3s kd mr h) (to : TX0s kd mr o) (C : CC mi ml o r) (O : okC r) (ho : o + 5 < h) (P : PX r h mi st) (hd : dW a p w xp xw)
    (k9 : ∀ mi' ml', chX h mi mi' ml ml' → PX r h mi' (actS r a p w st).2 → K (actS r a p w st).1 mi' ml') : wB l M_X3_act (d + 5) [.ref h, .ref o, .int (nI a), .int xp, .int xw] kd mr mi ml K := by
  have h3 := O.2.2.2.2.1
  have h4 := O.2.2.2.2.2.1
  obtain ⟨ha, hd⟩ := hd
  have dt : ∀ b : Bool, decide (b = true) = b := fun b => by cases b <;> rfl
  refine w_X3_act th to ?_
  rw [z_toInt (by omega)]
  refine ⟨fun z => ?_, fun z => ?_, fun z => ?_, fun z => ?_⟩
  · have ha4 : a ≤ 3 := by omega
    obtain ⟨rfl, hp64, hw⟩ := hd.resolve_left (by omega)
    have ea : actS r a p w st = if p < gN r 3 then (true, plyS r (reach r (st.1 p) (rgN (gN r (9 + p)))) a w (gN r 4) st) else (false, st) := by
      unfold actS; rw [if_neg (by omega), if_neg (by omega), if_neg (by omega)]
    rw [ea] at k9
    refine s_hasPlayer to C O ?_
    rw [isK_nI (by omega)]
    by_cases q : p < gN r 3
    · rw [if_pos q] at k9
      rw [decide_eq_true q]
      exact ⟨fun _ => s_playCommandX th to C O ho P q ha4 (hw.imp_right id) fun mi' ml' g1 g2 => k9 mi' ml' g1 g2, fun e => by cases e⟩
    · rw [if_neg q] at k9
      rw [decide_eq_false q]
      exact ⟨fun e => (by cases e), fun _ => k9 mi ml chX.rf P⟩
  · have ha4 : a = 4 := by omega
    subst ha4
    obtain ⟨rfl, hp64, hw⟩ := hd.resolve_left (by omega)
    obtain ⟨rfl, hw4⟩ := hw.resolve_left (by omega)
    have ea : actS r 4 p w st = if p < gN r 4 ∧ stB st.2.2.2.2.1 p = false then (match fre r (st.2.1 p) w with
      | none => (false, st)
      | some t => (true, (st.1, setF st.2.1 p t, st.2.2.1, st.2.2.2.1, st.2.2.2.2.1, st.2.2.2.2.2.1, st.2.2.2.2.2.2))) else (false, st) := rfl
    rw [ea] at k9
    refine s_hasPerson to C O ?_
    rw [isK_nI (by omega)]
    by_cases q : p < gN r 4
    · rw [decide_eq_true q]
      refine ⟨fun e => (by cases e), fun _ => s_isFree th P rfl ⟨fun e => ?_, fun e => ?_⟩⟩
      · rw [if_neg (by simp [q]; simpa using e)] at k9
        exact k9 mi ml chX.rf P
      · rw [if_pos ⟨q, by simpa using e⟩] at k9
        refine s_openX to C O fun op hop => s_moveOn (TX3s_a2 th) O hop rfl (by omega) (by omega) rfl hw4 (P.2.1 p q).1 (P.2.1 p q).2.1 (fun hf => ?_) (fun t' hf ht => ?_)
        · rw [dt]; rw [hf] at k9; exact k9 mi ml chX.rf P
        · rw [dt]; rw [hf] at k9
          exact k9 _ _ (chX.up (by omega)) (PW.pe P (disX h) p rfl ht)
    · rw [if_neg (fun z => q z.1)] at k9
      rw [decide_eq_false q]
      exact ⟨fun _ => k9 mi ml chX.rf P, fun e => by cases e⟩
  · have ha5 : a = 5 := by omega
    subst ha5
    obtain ⟨rfl, hp64, hw⟩ := hd.resolve_left (by omega)
    obtain ⟨rfl, hw4⟩ := hw.resolve_left (by omega)
    have ea : actS r 5 p w st = if p < gN r 3 then (match fre r (st.1 p) w with
      | none => (false, st)
      | some t => (true, (setF st.1 p t, st.2.1, st.2.2.1, st.2.2.2.1, st.2.2.2.2.1, st.2.2.2.2.2.1, st.2.2.2.2.2.2))) else (false, st) := rfl
    rw [ea] at k9
    refine s_hasPlayer to C O ?_
    rw [isK_nI (by omega)]
    by_cases q : p < gN r 3
    · rw [decide_eq_true q]
      rw [if_pos q] at k9
      refine ⟨fun e => (by cases e), fun _ => s_openX to C O fun op hop => s_moveOn (TX3s_a1 th) O hop rfl (by omega) (by omega) rfl hw4 (P.1 p q).1 (P.1 p q).2 (fun hf => ?_) (fun t' hf ht => ?_)⟩
      · rw [dt]; rw [hf] at k9; exact k9 mi ml chX.rf P
      · rw [dt]; rw [hf] at k9
        exact k9 _ _ (chX.up (by omega)) (PW.pl P (disX h) p rfl ht)
    · rw [if_neg q] at k9
      rw [decide_eq_false q]
      exact ⟨fun _ => k9 mi ml chX.rf P, fun e => by cases e⟩
  · have ha6 : a = 6 := by omega
    subst ha6
    refine s_fill (TX3s_a3 th) (by omega) (k9 _ _ (chX.ur (by omega)) ?_)
    obtain ⟨p1, p2, p3, p4, p5⟩ := P
    show PW _ _ _ _ _ _ _ _ _ _ _ (st.1, st.2.1, fun _ => -1, st.2.2.2.1, _)
    refine ⟨fun p hp => by rw [pm_ur_k _ _ (by omega)]; exact p1 p hp, fun q hq => ?_, ?_, ?_, ?_⟩
    · obtain ⟨g1, g2, g3, g4⟩ := p2 q hq
      rw [pm_ur_k (a := h + 4) _ _ (by omega), pm_ur_k (a := h + 6) _ _ (by omega), pm_ur_s]
      exact ⟨g1, g2, if_pos (by omega), g4⟩
    · rw [pm_ur_k _ _ (by omega)]; exact p3
    · rw [pm_ur_k _ _ (by omega)]; exact p4
    · rw [pm_ur_k _ _ (by omega)]; exact p5
end PLX
