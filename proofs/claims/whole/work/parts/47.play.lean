/-! a night: its beginning, its deeds in a row, what is told of it; the class -/
theorem va_cpy0 {α : Type} (f g : Nat → α) (n p : Nat) : va_cpy f g 0 0 n p = if p < n then f p else g p := by
  unfold va_cpy
  by_cases h : p < n
  · rw [if_pos ⟨Nat.zero_le _, by omega⟩, if_pos h]; congr 1; omega
  · rw [if_neg (by omega), if_neg h]
def st0 (r : Nat → Int32) : PS := (fun p => cellC r 9 p, fun q => cellC r 27 q, fun _ => -1, fun _ => 0, 0, 0, 0)
/-- deeds k .. of a night's row: how many can be, the state behind them -/
noncomputable def runS (r q : Nat → Int32) : Nat → Nat → PS → Nat × PS
  | 0, k, st => (k, st)
  | u + 1, k, st => match actS r (gN q (1 + 3 * k)) (gN q (2 + 3 * k)) (gN q (3 + 3 * k)) st with
    | (false, st') => (k, st')
    | (true, st') => runS r q u (k + 1) st'
noncomputable def nightS (r q : Nat → Int32) (n : Nat) : Nat × PS := runS r q n 0 (st0 r)
theorem runS_le (r q : Nat → Int32) : ∀ (u k : Nat) (st : PS), (runS r q u k st).1 ≤ k + u := by
  intro u
  induction u with
  | zero => intro k st; exact Nat.le_refl _
  | succ u ih =>
    intro k st
    unfold runS
    split
    · show k ≤ _; omega
    · rename_i st' _
      have := ih (k + 1) st'
      omega
theorem nightS_le (r q : Nat → Int32) (n : Nat) : (nightS r q n).1 ≤ n := by
  have := runS_le r q n 0 (st0 r)
  unfold nightS; omega
theorem okN.dW {q : Nat → Int32} (h : okN q) {i : Nat} (hi : i < gN q 0) : q (1 + 3 * i) = nI (gN q (1 + 3 * i)) ∧ dW (gN q (1 + 3 * i)) (gN q (2 + 3 * i)) (gN q (3 + 3 * i)) (q (2 + 3 * i)) (q (3 + 3 * i)) := by
  obtain ⟨a, h1, h2⟩ := h.2 i hi
  have ha : a ≤ 6 := by rcases h2 with ⟨h, -⟩ | ⟨h, -⟩ | ⟨-, h, -⟩ <;> omega
  have e1 : gN q (1 + 3 * i) = a := by unfold gN; rw [h1, z_cl (by omega)]
  rw [e1]
  refine ⟨h1, ha, ?_⟩
  rcases h2 with ⟨h, -⟩ | ⟨h3, -, p, h4, h5⟩ | ⟨h3, h6, p, w, h4, h7, h5, h8⟩
  · exact Or.inl h
  · have e2 : gN q (2 + 3 * i) = p := by unfold gN; rw [h5, z_cl (by omega)]
    rw [e2]
    exact Or.inr ⟨h5, by omega, Or.inl h3⟩
  · have e2 : gN q (2 + 3 * i) = p := by unfold gN; rw [h5, z_cl (by omega)]
    have e3 : gN q (3 + 3 * i) = w := by unfold gN; rw [h8, z_cl (by omega)]
    rw [e2, e3]
    exact Or.inr ⟨h5, by omega, Or.inr ⟨h8, h7⟩⟩
/-- what is told of a state -/
def tlF (r : Nat → Int32) (st : PS) (w : Int32) : Int32 :=
  if w < 0 then -2
  else if w.toNatClampNeg = 0 then st.2.2.2.2.1
  else if w.toNatClampNeg = 1 then st.2.2.2.2.2.1
  else if w.toNatClampNeg = 2 then st.2.2.2.2.2.2
  else if w.toNatClampNeg / 10 = 1 ∧ w.toNatClampNeg % 10 < gN r 4 then nI (st.2.1 (w.toNatClampNeg % 10))
  else if w.toNatClampNeg / 10 = 2 ∧ w.toNatClampNeg % 10 < gN r 4 then st.2.2.1 (w.toNatClampNeg % 10)
  else if w.toNatClampNeg / 10 = 3 ∧ w.toNatClampNeg % 10 < gN r 4 then st.2.2.2.1 (w.toNatClampNeg % 10)
  else if w.toNatClampNeg / 10 = 4 ∧ w.toNatClampNeg % 10 < gN r 3 then nI (st.1 (w.toNatClampNeg % 10))
  else -2
theorem tlF_nI (r : Nat → Int32) (st : PS) {n : Nat} (hn : n < 2147483648) : tlF r st (nI n) = (
  if n = 0 then st.2.2.2.2.1
  else if n = 1 then st.2.2.2.2.2.1
  else if n = 2 then st.2.2.2.2.2.2
  else if n / 10 = 1 ∧ n % 10 < gN r 4 then nI (st.2.1 (n % 10))
  else if n / 10 = 2 ∧ n % 10 < gN r 4 then st.2.2.1 (n % 10)
  else if n / 10 = 3 ∧ n % 10 < gN r 4 then st.2.2.2.1 (n % 10)
  else if n / 10 = 4 ∧ n % 10 < gN r 3 then nI (st.1 (n % 10))
  else -2) := by
  unfold tlF
  rw [if_neg (nI_pos hn), z_cl hn]
section PLN
variable {l : Launch} {d h o o2 x z T : Nat} {kd : pm_K} {mr : pm_R} {mi : pm_I} {ml : pm_L} {k : Nat} {r q : Nat → Int32} {st : PS}
theorem s_beginX {K : pm_I → pm_L → Prop} (th : TX3s kd mr h) (to : TX0s kd mr o) (C : CC mi ml o r) (O : okC r) (ho : o + 5 < h) (k9 : ∀ mi', chX h mi mi' ml ml → PX r h mi' (st0 r) → K mi' ml) : wV l M_X3_begin (d + 1) [.ref h, .ref o] kd mr mi ml K := by
  have h3 := O.2.2.2.2.1
  have h4 := O.2.2.2.2.2.1
  refine w_X3_begin th to ⟨by decide, fun mi1 e1 => ⟨by decide, fun mi2 e2 => s_fill (TX3s_a3 th) (by omega) (s_fill (TX3s_a4 th) (by omega) ?_)⟩⟩
  have e1 : mi1 = pm_ur mi (h + 3) (va_cpy (mi (o + 2)) (mi (h + 3)) 0 0 6) := e1
  have e2 : mi2 = pm_ur mi1 (h + 4) (va_cpy (mi1 (o + 4)) (mi1 (h + 4)) 0 0 6) := e2
  have c1 : chX h mi mi1 ml ml := e1 ▸ chX.ur (by omega)
  have c2 : chX h mi mi2 ml ml := e2 ▸ c1.tr (chX.ur (by omega))
  refine k9 _ (((((c2.tr (chX.ur (by omega))).tr (chX.ur (by omega))).tr (chX.up (by omega))).tr (chX.up (by omega))).tr (chX.up (by omega))) ?_
  refine ⟨fun p hp => ?_, fun p hp => ?_, ?_, ?_, ?_⟩
  · obtain ⟨g1, g2⟩ := cellC_lt O (Or.inl ⟨rfl, hp⟩)
    rw [pm_up_row _ _ (by omega), pm_up_row _ _ (by omega), pm_up_row _ _ (by omega), pm_ur_k _ _ (by omega), pm_ur_k _ _ (by omega), e2, pm_ur_k _ _ (by omega), e1, pm_ur_s, va_cpy0, if_pos (by omega), (C.pl hp).2]
    exact ⟨by rw [← g2]; rfl, g1⟩
  · obtain ⟨g1, g2⟩ := cellC_lt O (Or.inr ⟨rfl, hp⟩)
    refine ⟨?_, g1, ?_, ?_⟩
    · rw [pm_up_row _ _ (by omega), pm_up_row _ _ (by omega), pm_up_row _ _ (by omega), pm_ur_k _ _ (by omega), pm_ur_k _ _ (by omega), e2, pm_ur_s, va_cpy0, if_pos (by omega), e1, pm_ur_k _ _ (by omega), (C.pe hp).2, ← g2]; rfl
    · rw [pm_up_row _ _ (by omega), pm_up_row _ _ (by omega), pm_up_row _ _ (by omega), pm_ur_k _ _ (by omega), pm_ur_s, if_pos (by omega)]; rfl
    · rw [pm_up_row _ _ (by omega), pm_up_row _ _ (by omega), pm_up_row _ _ (by omega), pm_ur_s, if_pos (by omega)]; rfl
  · rw [pm_up_j _ _ (by decide), pm_up_j _ _ (by decide), pm_up_s]; rfl
  · rw [pm_up_j _ _ (by decide), pm_up_s]; rfl
  · rw [pm_up_s]; rfl
theorem RR.chX {mi' : pm_I} {ml' : pm_L} {c0 : Nat} (R : RR mi o2 c0 q) (c : chX h mi mi' ml ml') (ho : o2 + 3 < h) : RR mi' o2 c0 q := R.same (c _ (by omega)).1 (c _ (by omega)).1 (c _ (by omega)).1 (c _ (by omega)).1
theorem s_playNight {n : Nat} {y : Int32} {K : Int32 → pm_I → pm_L → Prop} (th : TX3s kd mr h) (to : TX0s kd mr o) (to2 : TX6s kd mr o2) (C : CC mi ml o r) (O : okC r) (R : RR mi o2 0 q) (N : okN q) (ho : o + 5 < h) (ho2 : o2 + 3 < h) (hy : y = nI n) (hn : n ≤ gN q 0)
    (k9 : ∀ mi' ml', chX h mi mi' ml ml' → PX r h mi' (nightS r q n).2 → K (nI (nightS r q n).1) mi' ml') : wI l M_X3_playNight (d + 6) [.ref h, .ref o, .ref o2, .int y] kd mr mi ml K := by
  subst hy
  have hN := N.1
  have loop : ∀ (u k : Nat) (st : PS) (mi1 : pm_I) (ml1 : pm_L), k + u = n → chX h mi mi1 ml ml1 → PX r h mi1 st → (runS r q u k st = nightS r q n) → c_X3_playNight_8 l (d + 6) kd mr h o o2 (nI n) (nI k) mi1 ml1 K := by
    intro u
    induction u with
    | zero =>
      intro k st mi1 ml1 hk c P hr
      have : k = n := by omega
      subst this
      refine w_X3_playNight_8 th to to2 ⟨fun _ => ?_, fun z => absurd (nI_le (Nat.le_refl _) (by omega)) z⟩
      have e : nightS r q k = (k, st) := hr.symm
      have := k9 mi1 ml1 c (by rw [e]; exact P)
      rw [e] at this; exact this
    | succ u ih =>
      intro k st mi1 ml1 hk c P hr
      have R1 := R.chX c ho2
      obtain ⟨n', g1, g2, g3, g4⟩ := R1
      have en : gN q 0 = n' := by unfold gN; rw [g3, z_cl (by omega)]
      obtain ⟨f1, f2, f3⟩ := g4 k (by omega)
      obtain ⟨w1, w2⟩ := N.dW (show k < gN q 0 by omega)
      refine w_X3_playNight_8 th to to2 ⟨fun z => absurd z (nI_ge (by omega) (by omega)), fun _ => ⟨fun z => absurd z (by rw [g2]; exact nI_ge (by omega) (by omega)), fun _ => ⟨z_in (by omega) (by omega), z_in (by omega) (by omega), z_in (by omega) (by omega), ?_⟩⟩⟩
      rw [z_cl (by omega), f1, f2, f3, show 0 + 1 + 3 * k = 1 + 3 * k by omega, show 1 + 3 * k + 1 = 2 + 3 * k by omega, show 1 + 3 * k + 2 = 3 + 3 * k by omega, w1]
      refine s_actX th to (C.chX c ho) O ho P w2 fun mi2 ml2 c2 P2 => ?_
      have er : runS r q (u + 1) k st = match actS r (gN q (1 + 3 * k)) (gN q (2 + 3 * k)) (gN q (3 + 3 * k)) st with
        | (false, st') => (k, st')
        | (true, st') => runS r q u (k + 1) st' := rfl
      rw [er] at hr
      generalize actS r (gN q (1 + 3 * k)) (gN q (2 + 3 * k)) (gN q (3 + 3 * k)) st = res at hr P2
      obtain ⟨b, st'⟩ := res
      cases b with
      | false =>
        refine ⟨fun z => (by cases z), fun _ => ?_⟩
        have e : nightS r q n = (k, st') := hr.symm
        have := k9 mi2 ml2 (c.tr c2) (by rw [e]; exact P2)
        rw [e] at this; exact this
      | true =>
        refine ⟨fun _ => ?_, fun z => by cases z⟩
        rw [nI_1]
        exact ih (k + 1) st' mi2 ml2 (by omega) (c.tr c2) P2 hr
  exact w_X3_playNight th to to2 (s_beginX th to C O ho fun mi1 c P => loop n 0 (st0 r) mi1 ml (by omega) c P rfl)
theorem s_tellP {w : Int32} {K : Int32 → pm_I → pm_L → Prop} (th : TX3s kd mr h) (to : TX0s kd mr o) (C : CC mi ml o r) (O : okC r) (P : PX r h mi st) (k9 : K (tlF r st w) mi ml) : wI l M_X3_tell (d + 1) [.ref h, .ref o, .int w] kd mr mi ml K := by
  have h3 := O.2.2.2.2.1
  have h4 := O.2.2.2.2.2.1
  rcases z_cases w with hw | ⟨n, hn, rfl⟩
  · have e : tlF r st w = -2 := by unfold tlF; rw [if_pos hw]
    rw [e] at k9
    have ht : w.toInt < 0 := by rw [Int32.lt_iff_toInt_lt] at hw; exact hw
    refine w_X3_tell th to ⟨fun _ => ⟨fun h2 => ?_, fun _ => k9⟩, fun h2 => by omega, fun h2 => by omega, fun h2 => by omega⟩
    have h2 : nI 10 ≤ w := h2
    exact absurd (z_ltm hw (a := 10) (by omega)) (Int32.not_lt.mpr h2)
  · rw [tlF_nI r st hn] at k9
    refine w_X3_tell th to ?_
    rw [z_toInt hn]
    refine ⟨fun z => ?_, fun z => ?_, fun z => ?_, fun z => ?_⟩
    · rw [if_neg (by omega), if_neg (by omega), if_neg (by omega)] at k9
      have q10 : ((10 : Int32) ≤ nI n) = (10 ≤ n) := z_le (a := 10) (by omega) hn
      rw [q10]
      refine ⟨fun z10 => ?_, fun z10 => ?_⟩
      · have e1 : nI n / 10 = nI (n / 10) := z_div (b := 10) (by omega) (by omega)
        have e2 : nI n - nI n / 10 * 10 = nI (n % 10) := z_rem (b := 10) (by omega) (by omega)
        have q4 : (nI (n / 10) = 4) = (n / 10 = 4) := z_eq (b := 4) (by omega) (by omega)
        rw [e2, e1, q4, z_toInt (by omega)]
        refine ⟨fun z4 => s_hasPerson to C O ?_, fun z4 => s_hasPlayer to C O ?_⟩
        · rw [isK_nI (by omega)]
          by_cases hq : n % 10 < gN r 4
          · rw [decide_eq_true hq]
            obtain ⟨g1, g2, g3, g4⟩ := P.2.1 _ hq
            refine ⟨fun _ => ⟨fun z5 => ?_, fun z5 => ⟨z_in (by omega) (by omega), ?_⟩, fun z5 => ⟨z_in (by omega) (by omega), ?_⟩, fun z5 => ⟨z_in (by omega) (by omega), ?_⟩⟩, fun e => by cases e⟩
            · rw [if_neg (by omega), if_neg (by omega), if_neg (by omega), if_neg (by omega)] at k9; exact k9
            · rw [if_pos ⟨by omega, hq⟩] at k9
              exact s_cellOfX to C O (by rw [z_cl (by omega)]; exact g1) g2 k9
            · rw [if_neg (by omega), if_pos ⟨by omega, hq⟩] at k9
              rw [z_cl (by omega), g3]; exact k9
            · rw [if_neg (by omega), if_neg (by omega), if_pos ⟨by omega, hq⟩] at k9
              rw [z_cl (by omega), g4]; exact k9
          · rw [decide_eq_false hq]
            rw [if_neg (by omega), if_neg (by omega), if_neg (by omega), if_neg (by omega)] at k9
            exact ⟨fun e => (by cases e), fun _ => k9⟩
        · rw [isK_nI (by omega)]
          rw [if_neg (by omega), if_neg (by omega), if_neg (by omega)] at k9
          by_cases hq : n % 10 < gN r 3
          · rw [decide_eq_true hq]
            rw [if_pos ⟨by omega, hq⟩] at k9
            obtain ⟨g1, g2⟩ := P.1 _ hq
            exact ⟨fun e => (by cases e), fun _ => ⟨z_in (by omega) (by omega), s_cellOfX to C O (by rw [z_cl (by omega)]; exact g1) g2 k9⟩⟩
          · rw [decide_eq_false hq]
            rw [if_neg (by omega)] at k9
            exact ⟨fun _ => k9, fun e => by cases e⟩
      · rw [if_neg (by omega), if_neg (by omega), if_neg (by omega), if_neg (by omega)] at k9; exact k9
    · rw [if_pos (by omega)] at k9; rw [P.2.2.1]; exact k9
    · rw [if_neg (by omega), if_pos (by omega)] at k9; rw [P.2.2.2.1]; exact k9
    · rw [if_neg (by omega), if_neg (by omega), if_pos (by omega)] at k9; rw [P.2.2.2.2]; exact k9
end PLN
