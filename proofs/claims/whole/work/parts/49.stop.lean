/-! stop and state, through and through -/
def HNt (mi : pm_I) (z kn : Nat) (q : Nat → Int32) : Prop := kn < 2 ∧ mi z 30 = nI kn ∧ ∀ j, j < 121 → mi (z + 7) (121 * kn + j) = q j
theorem chZ.fr {z : Nat} {mi mi' : pm_I} {ml ml' : pm_L} (c : chZ z mi mi' ml ml') : frZ z mi mi' ml ml' := fun a ha => ⟨c.1 a (by omega) (by omega), by rw [c.2.2]⟩
theorem chX.fr {x : Nat} {mi mi' : pm_I} {ml ml' : pm_L} (c : chX (x + 208) mi mi' ml ml') : frX x mi mi' ml ml' := fun a ha => c a (by omega)
section STOP
variable {l : Launch} {d h o x z T kn : Nat} {kd : pm_K} {mr : pm_R} {mi : pm_I} {ml : pm_L} {k m mn : Nat} {r q : Nat → Int32} {st : PS}
theorem HNt.chZ {mi' : pm_I} {ml' : pm_L} (H : HNt mi z kn q) (c : chZ z mi mi' ml ml') : HNt mi' z kn q := by
  unfold HNt at H ⊢
  rw [c.2.1 30 (by omega), c.1 (z + 7) (by omega) (by omega)]
  exact H
theorem s_deedsZ {K : Int32 → pm_I → pm_L → Prop} (tz : TX12s kd mr z) (H : HNt mi z kn q) (k9 : K (q 0) mi ml) : wI l M_X12_deeds d [.ref z] kd mr mi ml K := by
  obtain ⟨hk, e1, e2⟩ := H
  have e : 121 * mi z 30 = nI (121 * kn) := by rw [e1]; exact z_mul 121 kn
  refine w_X12_deeds tz ?_
  rw [e, z_cl (by omega)]
  refine ⟨z_in (by omega) (by omega), ?_⟩
  have : mi (z + 7) (121 * kn) = q 0 := e2 0 (by omega)
  rw [this]; exact k9
theorem s_deedOfZ {i c : Nat} {y v : Int32} {K : Int32 → pm_I → pm_L → Prop} (tz : TX12s kd mr z) (H : HNt mi z kn q) (hy : y = nI i) (hv : v = nI c) (hi : i < 40) (hc : c < 3) (k9 : K (q (1 + 3 * i + c)) mi ml) : wI l M_X12_deedOf d [.ref z, .int y, .int v] kd mr mi ml K := by
  subst hy; subst hv
  obtain ⟨hk, e1, e2⟩ := H
  have e : 121 * mi z 30 + 1 + 3 * nI i + nI c = nI (121 * kn + (1 + 3 * i + c)) := by
    rw [e1, show (121 : Int32) * nI kn = nI (121 * kn) from z_mul 121 kn, nI_1, show (3 : Int32) * nI i = nI (3 * i) from z_mul 3 i, nI_add, nI_add]
    congr 1; omega
  refine w_X12_deedOf tz ?_
  rw [e, z_cl (by omega), e2 _ (by omega)]
  exact ⟨z_in (by omega) (by omega), k9⟩
theorem s_playZ {n : Nat} {y : Int32} {K : Int32 → pm_I → pm_L → Prop} (tz : TX12s kd mr z) (H : Hd mi z k r) (O : okC r) (HN : HNt mi z kn q) (N : okN q) (hy : y = nI n) (hn : n ≤ gN q 0)
    (k9 : ∀ mi', chZ z mi mi' ml ml → PZ r z mi' (nightS r q n).2 → K (nI (nightS r q n).1) mi' ml) : wI l M_X12_play (d + 7) [.ref z, .int y] kd mr mi ml K := by
  subst hy
  have hN := N.1
  have loop : ∀ (u k' : Nat) (st : PS) (mi1 : pm_I), k' + u = n → chZ z mi mi1 ml ml → PZ r z mi1 st → (runS r q u k' st = nightS r q n) → c_X12_play_6 l (d + 7) kd mr z (nI n) (nI k') mi1 ml K := by
    intro u
    induction u with
    | zero =>
      intro k' st mi1 hk c P hr
      have : k' = n := by omega
      subst this
      refine w_X12_play_6 tz ⟨fun _ => ?_, fun z => absurd (nI_le (Nat.le_refl _) (by omega)) z⟩
      have e : nightS r q k' = (k', st) := hr.symm
      have := k9 mi1 c (by rw [e]; exact P)
      rw [e] at this; exact this
    | succ u ih =>
      intro k' st mi1 hk c P hr
      obtain ⟨w1, w2⟩ := N.dW (show k' < gN q 0 by omega)
      have HN1 := HN.chZ c
      refine w_X12_play_6 tz ⟨fun z => absurd z (nI_ge (by omega) (by omega)), fun _ => s_deedOfZ (c := 0) tz HN1 rfl rfl (by omega) (by omega) (s_deedOfZ (c := 1) tz HN1 rfl rfl (by omega) (by omega) (s_deedOfZ (c := 2) tz HN1 rfl rfl (by omega) (by omega) ?_))⟩
      rw [show 1 + 3 * k' + 0 = 1 + 3 * k' by omega, show 1 + 3 * k' + 1 = 2 + 3 * k' by omega, show 1 + 3 * k' + 2 = 3 + 3 * k' by omega, w1]
      refine s_doesZ tz (H.chZ c) O P w2 fun mi2 c2 P2 => ?_
      have er : runS r q (u + 1) k' st = match actS r (gN q (1 + 3 * k')) (gN q (2 + 3 * k')) (gN q (3 + 3 * k')) st with
        | (false, st') => (k', st')
        | (true, st') => runS r q u (k' + 1) st' := rfl
      rw [er] at hr
      generalize actS r (gN q (1 + 3 * k')) (gN q (2 + 3 * k')) (gN q (3 + 3 * k')) st = res at hr P2
      obtain ⟨b, st'⟩ := res
      cases b with
      | false =>
        refine ⟨fun _ => ?_, fun z => by cases z⟩
        have e : nightS r q n = (k', st') := hr.symm
        have := k9 mi2 (c.tr c2) (by rw [e]; exact P2)
        rw [e] at this; exact this
      | true =>
        refine ⟨fun z => (by cases z), fun _ => ?_⟩
        rw [nI_1]
        exact ih (k' + 1) st' mi2 (by omega) (c.tr c2) P2 hr
  exact w_X12_play tz (s_beginZ tz H O fun mi1 c P => loop n 0 (st0 r) mi1 (by omega) c P rfl)
theorem s_ofStateZ {w : Int32} {K : Int32 → pm_I → pm_L → Prop} (tz : TX12s kd mr z) (H : Hd mi z k r) (O : okC r) (P : PZ r z mi st) (k9 : K (tlF r st w) mi ml) : wI l M_X12_ofState (d + 2) [.ref z, .int w] kd mr mi ml K := by
  have h3 := O.2.2.2.2.1
  have h4 := O.2.2.2.2.2.1
  rcases z_cases w with hw | ⟨n, hn, rfl⟩
  · have e : tlF r st w = -2 := by unfold tlF; rw [if_pos hw]
    rw [e] at k9
    have hd := z_divneg hw
    have ne : ∀ a : Nat, a < 100 → ¬ w = nI a := fun a ha e => by rw [e] at hw; exact nI_pos (by omega) hw
    refine w_X12_ofState tz ⟨fun _ => k9, fun _ => ?_, fun h2 => by omega, fun h2 => by omega, fun h2 => by omega, fun h2 => by omega⟩
    rw [if_neg (show ¬ w = 0 from ne 0 (by omega)), if_neg (show ¬ w = 1 from ne 1 (by omega)), if_neg (show ¬ w = 2 from ne 2 (by omega))]
    exact k9
  · rw [tlF_nI r st hn] at k9
    have e1 : nI n / 10 = nI (n / 10) := z_div (b := 10) (by omega) (by omega)
    have e2 : nI n - nI n / 10 * 10 = nI (n % 10) := z_rem (b := 10) (by omega) (by omega)
    refine w_X12_ofState tz ?_
    rw [e2, e1, z_toInt (by omega)]
    refine ⟨fun q => ?_, fun q => ?_, fun q => s_isPerson tz H O ?_, fun q => s_isPerson tz H O ?_, fun q => s_isPerson tz H O ?_, fun q => s_isPlayer tz H O ?_⟩
    · rw [if_neg (by omega), if_neg (by omega), if_neg (by omega), if_neg (by omega), if_neg (by omega), if_neg (by omega), if_neg (by omega)] at k9
      exact k9
    · have q0 : (nI n = 0) = (n = 0) := z_eq (b := 0) (by omega) (by omega)
      have q1 : (nI n = 1) = (n = 1) := z_eq (b := 1) (by omega) (by omega)
      have q2 : (nI n = 2) = (n = 2) := z_eq (b := 2) (by omega) (by omega)
      have p1 : mi z 36 = st.2.2.2.2.1 := P.2.2.1
      have p2 : mi z 37 = st.2.2.2.2.2.1 := P.2.2.2.1
      have p3 : mi z 38 = st.2.2.2.2.2.2 := P.2.2.2.2
      simp only [q0, q1, q2]
      rw [p1, p2, p3]
      have e9 : (if n / 10 = 1 ∧ n % 10 < gN r 4 then nI (st.2.1 (n % 10)) else if n / 10 = 2 ∧ n % 10 < gN r 4 then st.2.2.1 (n % 10) else if n / 10 = 3 ∧ n % 10 < gN r 4 then st.2.2.2.1 (n % 10) else if n / 10 = 4 ∧ n % 10 < gN r 3 then nI (st.1 (n % 10)) else (-2 : Int32)) = -2 := by
        rw [if_neg (by omega), if_neg (by omega), if_neg (by omega), if_neg (by omega)]
      rw [e9] at k9
      exact k9
    · rw [isK_nI (by omega)]
      by_cases hq : n % 10 < gN r 4
      · rw [decide_eq_true hq]
        obtain ⟨g1, g2, g3, g4⟩ := P.2.1 _ hq
        rw [if_neg (by omega), if_neg (by omega), if_neg (by omega), if_pos ⟨by omega, hq⟩] at k9
        refine ⟨fun e => (by cases e), fun _ => ⟨z_in (by omega) (by omega), ?_⟩⟩
        rw [z_cl (by omega), g1]; exact k9
      · rw [decide_eq_false hq]
        rw [if_neg (by omega), if_neg (by omega), if_neg (by omega), if_neg (by omega), if_neg (by omega), if_neg (by omega), if_neg (by omega)] at k9
        exact ⟨fun _ => k9, fun e => by cases e⟩
    · rw [isK_nI (by omega)]
      by_cases hq : n % 10 < gN r 4
      · rw [decide_eq_true hq]
        obtain ⟨g1, g2, g3, g4⟩ := P.2.1 _ hq
        rw [if_neg (by omega), if_neg (by omega), if_neg (by omega), if_neg (by omega), if_pos ⟨by omega, hq⟩] at k9
        refine ⟨fun e => (by cases e), fun _ => ⟨z_in (by omega) (by omega), ?_⟩⟩
        rw [z_cl (by omega), g3]; exact k9
      · rw [decide_eq_false hq]
        rw [if_neg (by omega), if_neg (by omega), if_neg (by omega), if_neg (by omega), if_neg (by omega), if_neg (by omega), if_neg (by omega)] at k9
        exact ⟨fun _ => k9, fun e => by cases e⟩
    · rw [isK_nI (by omega)]
      by_cases hq : n % 10 < gN r 4
      · rw [decide_eq_true hq]
        obtain ⟨g1, g2, g3, g4⟩ := P.2.1 _ hq
        rw [if_neg (by omega), if_neg (by omega), if_neg (by omega), if_neg (by omega), if_neg (by omega), if_pos ⟨by omega, hq⟩] at k9
        refine ⟨fun e => (by cases e), fun _ => ⟨z_in (by omega) (by omega), ?_⟩⟩
        rw [z_cl (by omega), g4]; exact k9
      · rw [decide_eq_false hq]
        rw [if_neg (by omega), if_neg (by omega), if_neg (by omega), if_neg (by omega), if_neg (by omega), if_neg (by omega), if_neg (by omega)] at k9
        exact ⟨fun _ => k9, fun e => by cases e⟩
    · rw [isK_nI (by omega)]
      by_cases hq : n % 10 < gN r 3
      · rw [decide_eq_true hq]
        obtain ⟨g1, g2⟩ := P.1 _ hq
        rw [if_neg (by omega), if_neg (by omega), if_neg (by omega), if_neg (by omega), if_neg (by omega), if_neg (by omega), if_pos ⟨by omega, hq⟩] at k9
        refine ⟨fun e => (by cases e), fun _ => ⟨z_in (by omega) (by omega), ?_⟩⟩
        rw [z_cl (by omega), g1]; exact k9
      · rw [decide_eq_false hq]
        rw [if_neg (by omega), if_neg (by omega), if_neg (by omega), if_neg (by omega), if_neg (by omega), if_neg (by omega), if_neg (by omega)] at k9
        exact ⟨fun _ => k9, fun e => by cases e⟩
theorem q_night {y : Int32} {K : Option Nat → pm_I → pm_L → Prop} (tx : TX11s kd mr x) (In : tN mi (x + 1) z 0 mn) (k0 : isK y mn = false → K none mi ml)
    (k1 : ∀ kn q, q = (fun j => mi (z + 7) (2 * 121 * 0 + 121 * kn + j)) → kn < mn → y = nI kn → TX6s kd mr (x + 1 + 13 + 19 * kn) → RR mi (x + 1 + 13 + 19 * kn) 0 q → okN q → K (some (x + 1 + 13 + 19 * kn)) mi ml) : wR l M_X9_nightAt (d + 1) [.ref (x + 1), .int y] kd mr mi ml K := by
  obtain ⟨⟨hm, e1, -, e2⟩, e3⟩ := In
  have tT := TX11s_a0 tx
  refine w_X9_nightAt tT (s_hasOne (s := 1) tT rfl (by omega) e1 hm ⟨k0, fun h => ?_⟩)
  obtain ⟨kn, hk, hk2, rfl⟩ := isK_iff.mp h
  have hobj : mr (x + 1 + 4) kn = some (x + 1 + 13 + 19 * kn) ∧ TX6s kd mr (x + 1 + 13 + 19 * kn) := by
    rcases (show kn = 0 ∨ kn = 1 by omega) with rfl | rfl
    · exact ⟨TX9s_e4_0 tT, TX9s_o4_0 tT⟩
    · exact ⟨TX9s_e4_1 tT, TX9s_o4_1 tT⟩
  exact ⟨z_in (by omega) (by omega), _, by rw [z_cl hk2]; exact hobj.1, hobj.2, k1 kn _ rfl hk rfl hobj.2 (e2 kn hk) (e3 kn hk)⟩
theorem s_hasNightZ {mi0 : pm_I} {y : Int32} {K : Bool → pm_I → pm_L → Prop} (tz : TX12s kd mr z) (In : tN mi0 T z 0 mn) (h5 : mi (z + 5) = mi0 (z + 5)) (h7 : mi (z + 7) = mi0 (z + 7)) (k0 : isK y mn = false → K false (pm_up mi z 30 y) ml)
    (k1 : ∀ kn q, q = (fun j => mi0 (z + 7) (2 * 121 * 0 + 121 * kn + j)) → kn < mn → y = nI kn → HNt (pm_up mi z 30 y) z kn q → okN q → K true (pm_up mi z 30 y) ml) : wB l M_X12_hasNight (d + 2) [.ref z, .int y] kd mr mi ml K := by
  obtain ⟨⟨hm, -, e1, e2⟩, e3⟩ := In
  refine w_X12_hasNight tz (s_is (s := 1) (m := mn) tz rfl (by omega) (by rw [pm_up_row _ _ (by omega), h5]; exact e1) (by omega) ?_)
  cases e : isK y mn with
  | false => exact k0 e
  | true =>
    obtain ⟨kn, hk, hk2, rfl⟩ := isK_iff.mp e
    exact k1 kn _ rfl hk rfl ⟨by omega, pm_up_s _ _ _ _, fun j _ => by
      show _ = mi0 (z + 7) (2 * 121 * 0 + 121 * kn + j)
      rw [pm_up_row _ _ (by omega), h7, show 2 * 121 * 0 + 121 * kn + j = 121 * kn + j by omega]⟩ (e3 kn hk)
theorem HNt.hand {mi' : pm_I} (H : HNt mi z kn q) (g1 : ∀ a, a ≠ z → mi' a = mi a) (g2 : ∀ b, b < 25 ∨ 29 < b → mi' z b = mi z b) : HNt mi' z kn q := by
  unfold HNt at H ⊢
  rw [g2 30 (by omega), g1 (z + 7) (by omega)]
  exact H
theorem s_layAll {mi0 : pm_I} {ml0 : pm_L} {a b : Int32} {K : Bool → pm_I → pm_L → Prop} (tz : TX12s kd mr z) (Im : tC mi0 ml0 T z 0 m) (In : tN mi0 T z 0 mn) (h5 : mi (z + 5) = mi0 (z + 5)) (h6 : mi (z + 6) = mi0 (z + 6)) (h7 : mi (z + 7) = mi0 (z + 7))
    (k0 : (isK a m = false ∨ isK b mn = false) → ∀ mi', frZ z mi mi' ml ml → K false mi' ml)
    (k1 : ∀ k kn r q, r = (fun j => mi0 (z + 6) (106 * 0 + 53 * k + j)) → q = (fun j => mi0 (z + 7) (2 * 121 * 0 + 121 * kn + j)) → k < m → kn < mn → a = nI k → b = nI kn → ∀ mi', frZ z mi mi' ml ml → Hd mi' z k r → HNt mi' z kn q → okC r → okN q → K true mi' ml) : wB l M_X12_layAll (d + 4) [.ref z, .int a, .int b] kd mr mi ml K := by
  have dt : ∀ b : Bool, decide (b = true) = b := fun b => by cases b <;> rfl
  have f1 : frZ z mi (pm_up mi z 30 b) ml ml := frZ.upI (Or.inl rfl)
  refine w_X12_layAll tz (s_hasNightZ tz In h5 h7 (fun h => ⟨fun _ => k0 (Or.inr h) _ f1, fun e => by cases e⟩) (fun kn q hq hkn hb HN N => ⟨fun e => (by cases e), fun _ => ?_⟩))
  cases e : isK a m with
  | false => exact p_handN tz Im e (by rw [pm_up_row _ _ (by omega)]; exact h5) (by rw [pm_up_row _ _ (by omega)]; exact h6) (by rw [dt]; exact k0 (Or.inl e) _ f1)
  | true =>
    obtain ⟨k, hk, hk2, ha⟩ := isK_iff.mp e
    refine q_hand tz Im rfl hk ha (by rw [pm_up_row _ _ (by omega)]; exact h5) (by rw [pm_up_row _ _ (by omega)]; exact h6) fun mi' f g1 g2 H => ?_
    rw [dt]
    exact k1 k kn _ q rfl hq hk hkn ha hb mi' (f1.tr f) H (HN.hand g1 g2) (Im.2.2.2 k hk).1 N
theorem c_stop {a b : Int32} (tx : TX11s kd mr x) (tz : TX12s kd mr z) (I : IV x z mi ml) : wI l M_X11_stop (d + 8) [.ref x, .int a, .int b] kd mr mi ml fun r mi1 ml1 => wI l M_X12_stop (d + 8) [.ref z, .int a, .int b] kd mr mi1 ml1 fun r2 mi2 ml2 => r = r2 ∧ IV x z mi2 ml2 := by
  have f0 : ∀ (mi : pm_I) (ml : pm_L), frZ z mi (pm_up mi z 0 0) ml ml := fun _ _ => frZ.upI (Or.inl rfl)
  have hz := I.1
  obtain ⟨mn, In⟩ := I.2.1.2.2.1
  have hmn := In.1.1
  -- nothing is played
  have no : ∀ m, tC mi ml (x + 1) z 0 m → (isK a m = false ∨ isK b mn = false) → wI l M_X12_stop (d + 8) [.ref z, .int a, .int b] kd mr mi ml fun r2 mi2 ml2 => -1 = r2 ∧ IV x z mi2 ml2 := by
    intro m Im h
    have hm := Im.1
    refine w_X12_stop tz (s_layAll tz Im In (pm_up_row _ _ (by omega)) (pm_up_row _ _ (by omega)) (pm_up_row _ _ (by omega)) (fun _ mi' f => ⟨fun _ => ⟨rfl, I.smZ ((f0 _ _).tr f)⟩, fun e => by cases e⟩) (fun k kn r q _ _ hk hkn ha hb => ?_))
    rw [ha, hb, isK_nI (by omega), isK_nI (by omega)] at h
    simp [hk, hkn] at h
  refine w_X11_stop tx (q_city tx I (fun m Im h => ⟨fun _ => q_night tx In (fun h2 => ⟨fun _ => no m Im (Or.inl h), fun b hb => by cases hb⟩) (fun kn q hq hkn hb to2 R N => ⟨fun e => (by cases e), fun b5 hb5 => ?_⟩), fun b hb => by cases hb⟩) (fun m k r hr Im hk ha to O C => ⟨fun h => (by cases h), fun b4 hb4 => ?_⟩))
  · cases hb5; exact ⟨to2, no m Im (Or.inl h)⟩
  · cases hb4
    have hm := Im.1
    refine ⟨to, q_night tx In (fun h2 => ⟨fun _ => no m Im (Or.inr h2), fun b hb => by cases hb⟩) (fun kn q hq hkn hb to2 R N => ⟨fun e => (by cases e), fun b5 hb5 => ?_⟩)⟩
    cases hb5
    obtain ⟨n1, n2, n3⟩ := R.n
    refine ⟨to2, s_playNight (TX11s_a6 tx) to to2 C O R N (by omega) (by omega) n1 (Nat.le_refl _) fun mi1 ml1 c P => ?_⟩
    have fx := c.fr
    refine w_X12_stop tz (s_layAll tz Im In (by rw [pm_up_row _ _ (by omega)]; exact (fx _ (by omega)).1) (by rw [pm_up_row _ _ (by omega)]; exact (fx _ (by omega)).1) (by rw [pm_up_row _ _ (by omega)]; exact (fx _ (by omega)).1) (fun h => ?_) (fun k' kn' r' q' hr' hq' hk' hkn' ha' hb' mi' f H HN O' N' => ⟨fun e => (by cases e), fun _ => ?_⟩))
    · rw [ha, hb, isK_nI (by omega), isK_nI (by omega)] at h
      simp [hk, hkn] at h
    · have ek : k' = k := by rw [ha] at ha'; rw [z_eq (by omega) (by omega)] at ha'; omega
      have en : kn' = kn := by rw [hb] at hb'; rw [z_eq (by omega) (by omega)] at hb'; omega
      subst ek; subst en
      have er : r' = r := hr'.trans hr.symm
      have eq : q' = q := hq'.trans hq.symm
      subst er; subst eq
      refine s_deedsZ tz HN (s_playZ tz H O HN N n2 (Nat.le_refl _) fun mi2 c2 P2 => ⟨rfl, ?_⟩)
      exact (I.smX fx).smZ (((f0 _ _).tr f).tr c2.fr)
theorem c_state {a b c w : Int32} (tx : TX11s kd mr x) (tz : TX12s kd mr z) (I : IV x z mi ml) : wI l M_X11_state (d + 8) [.ref x, .int a, .int b, .int c, .int w] kd mr mi ml fun r mi1 ml1 => wI l M_X12_state (d + 8) [.ref z, .int a, .int b, .int c, .int w] kd mr mi1 ml1 fun r2 mi2 ml2 => r = r2 ∧ IV x z mi2 ml2 := by
  have f0 : ∀ (mi : pm_I) (ml : pm_L), frZ z mi (pm_up mi z 0 0) ml ml := fun _ _ => frZ.upI (Or.inl rfl)
  have hz := I.1
  obtain ⟨mn, In⟩ := I.2.1.2.2.1
  have hmn := In.1.1
  have no : ∀ m, tC mi ml (x + 1) z 0 m → (isK a m = false ∨ isK b mn = false) → wI l M_X12_state (d + 8) [.ref z, .int a, .int b, .int c, .int w] kd mr mi ml fun r2 mi2 ml2 => -2 = r2 ∧ IV x z mi2 ml2 := by
    intro m Im h
    have hm := Im.1
    refine w_X12_state tz (s_layAll tz Im In (pm_up_row _ _ (by omega)) (pm_up_row _ _ (by omega)) (pm_up_row _ _ (by omega)) (fun _ mi' f => ⟨fun _ => ⟨rfl, I.smZ ((f0 _ _).tr f)⟩, fun e => by cases e⟩) (fun k kn r q _ _ hk hkn ha hb => ?_))
    rw [ha, hb, isK_nI (by omega), isK_nI (by omega)] at h
    simp [hk, hkn] at h
  refine w_X11_state tx (q_city tx I (fun m Im h => ⟨fun _ => q_night tx In (fun h2 => ⟨fun _ => no m Im (Or.inl h), fun b hb => by cases hb⟩) (fun kn q hq hkn hb to2 R N => ⟨fun e => (by cases e), fun b5 hb5 => ?_⟩), fun b hb => by cases hb⟩) (fun m k r hr Im hk ha to O C => ⟨fun h => (by cases h), fun b4 hb4 => ?_⟩))
  · cases hb5; exact ⟨to2, no m Im (Or.inl h)⟩
  · cases hb4
    have hm := Im.1
    refine ⟨to, q_night tx In (fun h2 => ⟨fun _ => no m Im (Or.inr h2), fun b hb => by cases hb⟩) (fun kn q hq hkn hb to2 R N => ⟨fun e => (by cases e), fun b5 hb5 => ?_⟩)⟩
    cases hb5
    obtain ⟨n1, n2, n3⟩ := R.n
    -- the reference, behind the class's world
    have ref : ∀ (mi1 : pm_I) (ml1 : pm_L) (v : Int32), frX x mi mi1 ml ml1 → (isK c (gN q 0 + 1) = false → v = -2) → (∀ n, n ≤ gN q 0 → c = nI n → v = if (nightS r q n).1 = n then tlF r (nightS r q n).2 w else -2) → wI l M_X12_state (d + 8) [.ref z, .int a, .int b, .int c, .int w] kd mr mi1 ml1 fun r2 mi2 ml2 => v = r2 ∧ IV x z mi2 ml2 := by
      intro mi1 ml1 v fx v0 v1
      refine w_X12_state tz (s_layAll tz Im In (by rw [pm_up_row _ _ (by omega)]; exact (fx _ (by omega)).1) (by rw [pm_up_row _ _ (by omega)]; exact (fx _ (by omega)).1) (by rw [pm_up_row _ _ (by omega)]; exact (fx _ (by omega)).1) (fun h => ?_) (fun k' kn' r' q' hr' hq' hk' hkn' ha' hb' mi' f H HN O' N' => ⟨fun e => (by cases e), fun _ => ?_⟩))
      · rw [ha, hb, isK_nI (by omega), isK_nI (by omega)] at h
        simp [hk, hkn] at h
      · have ek : k' = k := by rw [ha] at ha'; rw [z_eq (by omega) (by omega)] at ha'; omega
        have en : kn' = kn := by rw [hb] at hb'; rw [z_eq (by omega) (by omega)] at hb'; omega
        subst ek; subst en
        have er : r' = r := hr'.trans hr.symm
        have eq : q' = q := hq'.trans hq.symm
        subst er; subst eq
        have fin : ∀ mi2, frZ z mi' mi2 ml1 ml1 → IV x z mi2 ml1 := fun mi2 f2 => (I.smX fx).smZ (((f0 _ _).tr f).tr f2)
        refine s_deedsZ tz HN (s_in2 n2 (by omega) ⟨fun h => ⟨v0 h, fin _ frZ.rf⟩, fun h => ?_⟩)
        obtain ⟨n, hn, hn2, rfl⟩ := isK_iff.mp h
        have hle := nightS_le r' q' n
        refine s_playZ tz H O HN N rfl (by omega) fun mi2 c2 P2 => ?_
        rw [z_eq (by omega) (by omega)]
        refine ⟨fun e => ⟨?_, fin _ c2.fr⟩, fun e => s_ofStateZ tz (H.chZ c2) O P2 ⟨?_, fin _ c2.fr⟩⟩
        · rw [v1 n (by omega) rfl, if_neg e]
        · rw [v1 n (by omega) rfl, if_pos e]
    refine ⟨to2, fun h => ref _ _ _ frX.rf (fun _ => rfl) (fun n hn e => ?_), fun h => ?_⟩
    · rw [e] at h; exact absurd h (nI_pos (by omega))
    · obtain ⟨n, hn, rfl⟩ := (z_cases c).resolve_left h
      rw [n1, z_le hn (by omega)]
      refine ⟨fun h2 => ?_, fun h2 => ref _ _ _ frX.rf (fun _ => rfl) (fun n' hn' e => ?_)⟩
      · have hle := nightS_le r q n
        refine s_playNight (TX11s_a6 tx) to to2 C O R N (by omega) (by omega) rfl h2 fun mi1 ml1 ch P => ?_
        rw [z_le (by omega) (by omega)]
        refine ⟨fun h4 => s_tellP (TX11s_a6 tx) to (C.chX ch (by omega)) O P (ref _ _ _ ch.fr (fun h5 => ?_) (fun n' hn' e => ?_)), fun h4 => ref _ _ _ ch.fr (fun _ => rfl) (fun n' hn' e => ?_)⟩
        · rw [isK_nI (by omega)] at h5; simp at h5; omega
        · rw [z_eq (by omega) (by omega)] at e
          subst e
          rw [if_pos (by omega)]
        · rw [z_eq (by omega) (by omega)] at e
          subst e
          rw [if_neg (by omega)]
      · rw [z_eq (by omega) (by omega)] at e; omega
end STOP
