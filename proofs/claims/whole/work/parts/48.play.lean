/-! a night: the reference's side -/
section PLZ
variable {l : Launch} {d z T : Nat} {kd : pm_K} {mr : pm_R} {mi : pm_I} {ml : pm_L} {k : Nat} {r q : Nat → Int32} {st : PS}
theorem s_beginZ {K : pm_I → pm_L → Prop} (tz : TX12s kd mr z) (H : Hd mi z k r) (O : okC r) (k9 : ∀ mi', chZ z mi mi' ml ml → PZ r z mi' (st0 r) → K mi' ml) : wV l M_X12_begin (d + 2) [.ref z] kd mr mi ml K := by
  have h3 := O.2.2.2.2.1
  have h4 := O.2.2.2.2.2.1
  have loop : ∀ (u p : Nat) (mi1 : pm_I), p + u = 6 → chZ z mi mi1 ml ml → (∀ p', p' < p → (p' < gN r 4 → mi1 (z + 13) p' = nI (cellC r 27 p')) ∧ (p' < gN r 3 → mi1 (z + 16) p' = nI (cellC r 9 p')) ∧ mi1 (z + 14) p' = -1 ∧ mi1 (z + 15) p' = 0) → c_X12_begin_2 l (d + 2) kd mr z (nI p) mi1 ml K := by
    intro u
    induction u with
    | zero =>
      intro p mi1 hp c h
      have : p = 6 := by omega
      subst this
      refine w_X12_begin_2 tz ⟨fun _ => k9 _ (((c.tr (chZ.up (by omega))).tr (chZ.up (by omega))).tr (chZ.up (by omega))) ?_, fun h => absurd (nI_le (Nat.le_refl 6) (by omega)) h⟩
      refine ⟨fun p hp => ?_, fun p hp => ?_, ?_, ?_, ?_⟩
      · rw [pm_up_row _ _ (by omega), pm_up_row _ _ (by omega), pm_up_row _ _ (by omega)]
        exact ⟨(h p (by omega)).2.1 hp, (cellC_lt O (Or.inl ⟨rfl, hp⟩)).1⟩
      · rw [pm_up_row (a := z + 13) _ _ (by omega), pm_up_row (a := z + 13) _ _ (by omega), pm_up_row (a := z + 13) _ _ (by omega), pm_up_row (a := z + 14) _ _ (by omega), pm_up_row (a := z + 14) _ _ (by omega), pm_up_row (a := z + 14) _ _ (by omega), pm_up_row (a := z + 15) _ _ (by omega), pm_up_row (a := z + 15) _ _ (by omega), pm_up_row (a := z + 15) _ _ (by omega)]
        obtain ⟨g1, g2, g3, g4⟩ := h p (by omega)
        exact ⟨g1 hp, (cellC_lt O (Or.inr ⟨rfl, hp⟩)).1, g3, g4⟩
      · rw [pm_up_j _ _ (by decide), pm_up_j _ _ (by decide), pm_up_s]; rfl
      · rw [pm_up_j _ _ (by decide), pm_up_s]; rfl
      · rw [pm_up_s]; rfl
    | succ u ih =>
      intro p mi1 hp c h
      have H1 := H.chZ c
      have e28 := H1.2.2.2.2.1
      have e29 := H1.2.2.2.2.2.1
      refine w_X12_begin_2 tz ⟨fun h => absurd h (nI_ge (b := 6) (by omega) (by omega)), fun _ => ?_⟩
      -- the tail, once both cells are known
      have tl : ∀ (v u : Int32), (p < gN r 4 → v = nI (cellC r 27 p)) → (p < gN r 3 → u = nI (cellC r 9 p)) → c_X12_begin_57 l (d + 2) kd mr z (nI p) u (nI p) (pm_up mi1 (z + 13) p v) ml K := by
        intro v u hv hu
        refine w_X12_begin_57 tz ⟨z_in (by omega) (by omega), z_in (by omega) (by omega), z_in (by omega) (by omega), ?_⟩
        rw [z_cl (by omega), nI_1]
        refine ih (p + 1) _ (by omega) ((((c.tr (chZ.up (by omega))).tr (chZ.up (by omega))).tr (chZ.up (by omega))).tr (chZ.up (by omega))) fun p' hp' => ?_
        by_cases e : p' = p
        · subst e
          rw [pm_up_row (a := z + 13) _ _ (by omega), pm_up_row (a := z + 13) _ _ (by omega), pm_up_row (a := z + 13) _ _ (by omega), pm_up_row (a := z + 16) _ _ (by omega), pm_up_row (a := z + 16) _ _ (by omega), pm_up_row (a := z + 14) _ _ (by omega)]
          rw [pm_up_s, pm_up_s, pm_up_s, pm_up_s]
          exact ⟨hv, hu, rfl, rfl⟩
        · have four : ∀ a, pm_up (pm_up (pm_up (pm_up mi1 (z + 13) p v) (z + 16) p u) (z + 14) p (-1)) (z + 15) p 0 a p' = mi1 a p' := fun a => by
            rw [pm_up_j _ _ e, pm_up_j _ _ e, pm_up_j _ _ e, pm_up_j _ _ e]
          rw [four, four, four, four]
          exact h p' (by omega)
      have md : ∀ v : Int32, (p < gN r 4 → v = nI (cellC r 27 p)) → c_X12_begin_32 l (d + 2) kd mr z (nI p) v (nI p) mi1 ml K := by
        intro v hv
        refine w_X12_begin_32 tz ⟨z_in (by omega) (by omega), ?_⟩
        rw [z_cl (by omega), e28, z_le (by omega) (by omega)]
        have H2 : Hd (pm_up mi1 (z + 13) p v) z k r := H.chZ (c.tr (chZ.up (by omega)))
        exact ⟨fun q => tl v 0 hv (fun q2 => by omega), fun q => s_cellOf (a := 9) tz H2 O rfl rfl (by omega) (by omega) (tl v _ hv fun _ => rfl)⟩
      rw [e29, z_le (by omega) (by omega)]
      exact ⟨fun q => md 0 fun q2 => by omega, fun q => s_cellOf (a := 27) tz H1 O rfl rfl (by omega) (by omega) (md _ fun _ => rfl)⟩
  exact w_X12_begin tz (loop 6 0 mi rfl chZ.rf fun p hp => by omega)
theorem i32_or0 (x : Int32) : x ||| 0 = x := Int32.toBitVec_inj.mp (by rw [Int32.toBitVec_or]; exact BitVec.or_zero)
theorem s_hasZ {sd : Int32} {p : Nat} {y : Int32} {K : Bool → pm_I → pm_L → Prop} (hy : y = nI p) (k9 : K (stB sd p) mi ml) : wB l M_X12_has d [.int sd, .int y] kd mr mi ml K := by
  subst hy
  exact w_X12_has k9
theorem s_obeysZ {cmd w p : Nat} {xw : Int32} {K : pm_I → pm_L → Prop} (tz : TX12s kd mr z) (H : Hd mi z k r) (O : okC r) (P : PZ r z mi st) (hp : p < gN r 4) (hc : cmd ≤ 3) (hw : cmd < 3 ∨ (xw = nI w ∧ w < 4))
    (k9 : ∀ mi', chZ z mi mi' ml ml → mi' (z + 12) = mi (z + 12) → PZ r z mi' (obS r cmd w p (st.1, st.2.1, st.2.2.1, st.2.2.2.1, st.2.2.2.2.1, st.2.2.2.2.2.1, st.2.2.2.2.2.2 + 1)) → K mi' ml) : wV l M_X12_obeys (d + 4) [.ref z, .int (nI p), .int (nI cmd), .int xw] kd mr mi ml K := by
  have h4 := O.2.2.2.2.2.1
  have c1 : chZ z mi (pm_up mi z 38 (mi z 38 + 1)) ml ml := chZ.up (by omega)
  have P1 := PW.obj P (disZ z) 38 (mi z 38 + 1) st.2.2.2.2.1 st.2.2.2.2.2.1 (st.2.2.2.2.2.2 + 1) ((pm_up_j _ _ (by decide)).trans P.2.2.1) ((pm_up_j _ _ (by decide)).trans P.2.2.2.1) (by rw [pm_up_s, P.2.2.2.2])
  have H1 := H.chZ c1
  refine w_X12_obeys tz ?_
  rw [z_toInt (by omega)]
  refine ⟨fun q => ?_, fun q => ?_, fun q => ?_, fun q => ?_⟩
  · have hcmd : cmd = 3 := by omega
    subst hcmd
    obtain ⟨rfl, hw4⟩ := hw.resolve_left (by omega)
    obtain ⟨g1, g2, g3, g4⟩ := P1.2.1 p hp
    have h12 : pm_up mi z 38 (mi z 38 + 1) (z + 12) = mi (z + 12) := pm_up_row _ _ (by omega)
    generalize pm_up mi z 38 (mi z 38 + 1) = mi1 at *
    have g1' : mi1 (z + 13) (nI p).toNatClampNeg = nI (st.2.1 p) := by rw [z_cl (by omega)]; exact g1
    have same : PZ r z (pm_up mi1 (z + 13) p (nI (st.2.1 p))) (st.1, setF st.2.1 p (st.2.1 p), st.2.2.1, st.2.2.2.1, st.2.2.2.2.1, st.2.2.2.2.2.1, st.2.2.2.2.2.2 + 1) := PW.pe P1 (disZ z) p rfl g2
    refine w_X12_marches tz ⟨z_in (by omega) (by omega), ?_⟩
    rw [g1']
    refine s_free tz H1 O rfl rfl g2 (by omega) (s_hasZ rfl ?_)
    have esd : mi1 z 36 = st.2.2.2.2.1 := P1.2.2.1
    rw [esd]
    refine ⟨fun e => ⟨z_in (by omega) (by omega), z_in (by omega) (by omega), ?_⟩, fun e => ?_⟩
    · rw [z_cl (by omega), g1]
      refine k9 _ (c1.tr (chZ.up (by omega))) ((pm_up_row _ _ (by omega)).trans h12) ?_
      unfold obS
      rw [if_neg (by decide), if_neg (by decide), if_neg (by decide)]
      dsimp only
      rw [e, if_pos rfl]
      exact same
    · cases hn : fre r (st.2.1 p) w with
      | none =>
        refine ⟨fun q => absurd rfl q, fun _ => ⟨z_in (by omega) (by omega), z_in (by omega) (by omega), ?_⟩⟩
        rw [z_cl (by omega), g1]
        refine k9 _ (c1.tr (chZ.up (by omega))) ((pm_up_row _ _ (by omega)).trans h12) ?_
        unfold obS
        rw [if_neg (by decide), if_neg (by decide), if_neg (by decide)]
        dsimp only
        rw [e, if_neg (by decide), hn]
        exact same
      | some t =>
        have ht := fre_lt O g2 hn
        have hb := O.w
        refine ⟨fun _ => ⟨z_in (by omega) (by omega), ?_⟩, fun q => absurd q (z_eq1 (by omega))⟩
        rw [z_cl (by omega)]
        refine k9 _ (c1.tr (chZ.up (by omega))) ((pm_up_row _ _ (by omega)).trans h12) ?_
        unfold obS
        rw [if_neg (by decide), if_neg (by decide), if_neg (by decide)]
        dsimp only
        rw [e, if_neg (by decide), hn]
        exact PW.pe P1 (disZ z) p rfl ht
  · have hcmd : cmd = 0 := by omega
    subst hcmd
    refine k9 _ (c1.tr (chZ.up (by omega))) ((pm_up_row _ _ (by omega)).trans (pm_up_row _ _ (by omega))) ?_
    unfold obS
    rw [if_pos rfl]
    exact PW.obj P1 (disZ z) 36 _ _ _ _ (by rw [pm_up_s, P.2.2.1]) ((pm_up_j _ _ (by decide)).trans P1.2.2.2.1) ((pm_up_j _ _ (by decide)).trans P1.2.2.2.2)
  · have hcmd : cmd = 1 := by omega
    subst hcmd
    refine k9 _ (c1.tr (chZ.up (by omega))) ((pm_up_row _ _ (by omega)).trans (pm_up_row _ _ (by omega))) ?_
    unfold obS
    rw [if_neg (by decide), if_pos rfl]
    exact PW.obj P1 (disZ z) 36 _ _ _ _ (by rw [pm_up_s, P.2.2.1]) ((pm_up_j _ _ (by decide)).trans P1.2.2.2.1) ((pm_up_j _ _ (by decide)).trans P1.2.2.2.2)
  · have hcmd : cmd = 2 := by omega
    subst hcmd
    have hkq := (O.1 (27 + p) (by omega)).2
    have e1 : (nI (gN r (27 + p)) = 1) = (gN r (27 + p) = 1) := z_eq (b := 1) (by omega) (by omega)
    have eo : obS r 2 w p (st.1, st.2.1, st.2.2.1, st.2.2.2.1, st.2.2.2.2.1, st.2.2.2.2.2.1, st.2.2.2.2.2.2 + 1) = (st.1, st.2.1, st.2.2.1, st.2.2.2.1, st.2.2.2.2.1, if gN r (27 + p) = 1 then st.2.2.2.2.2.1 ||| ((1 : Int32) <<< (nI p &&& 31)) else st.2.2.2.2.2.1, st.2.2.2.2.2.2 + 1) := by
      unfold obS; rw [if_neg (by decide), if_neg (by decide), if_pos rfl]
    refine s_of (a := 27 + p) tz H1 (nI_add 27 p) (by omega) (k9 _ (c1.tr (chZ.up (by omega))) ((pm_up_row _ _ (by omega)).trans (pm_up_row _ _ (by omega))) ?_)
    rw [eo]
    refine PW.obj P1 (disZ z) 37 _ _ _ _ ((pm_up_j _ _ (by decide)).trans P1.2.2.1) ?_ ((pm_up_j _ _ (by decide)).trans P1.2.2.2.2)
    have rw27 : r (27 + p) = nI (gN r (27 + p)) := O.lit (by omega)
    rw [pm_up_s, rw27, P.2.2.2.1]
    simp only [e1]
    by_cases q9 : gN r (27 + p) = 1
    · rw [if_pos q9, if_pos q9]
    · rw [if_neg q9, if_neg q9, i32_or0]
theorem s_restsZ {K : Bool → pm_I → pm_L → Prop} (tz : TX12s kd mr z) (P : PZ r z mi st) (O : okC r) (k9 : ∀ mi', chZ z mi mi' ml ml → PZ r z mi' (st.1, st.2.1, fun _ => -1, st.2.2.2.1, st.2.2.2.2.1, st.2.2.2.2.2.1, st.2.2.2.2.2.2) → K true mi' ml) : wB l M_X12_rests d [.ref z] kd mr mi ml K := by
  have h4 := O.2.2.2.2.2.1
  have loop : ∀ (u p : Nat) (g : Nat → Int32), p + u = 6 → (∀ p', p' < p → g p' = -1) → c_X12_rests_2 l d kd mr z (nI p) (pm_ur mi (z + 14) g) ml K := by
    intro u
    induction u with
    | zero =>
      intro p g hp hg
      have : p = 6 := by omega
      subst this
      refine w_X12_rests_2 tz ⟨fun _ => k9 _ (chZ.ur (by omega)) ?_, fun h => absurd (nI_le (Nat.le_refl 6) (by omega)) h⟩
      obtain ⟨p1, p2, p3, p4, p5⟩ := P
      refine ⟨fun p hp => by rw [pm_ur_k _ _ (by omega)]; exact p1 p hp, fun q hq => ?_, ?_, ?_, ?_⟩
      · obtain ⟨g1, g2, g3, g4⟩ := p2 q hq
        rw [pm_ur_k (a := z + 13) _ _ (by omega), pm_ur_k (a := z + 15) _ _ (by omega), pm_ur_s]
        exact ⟨g1, g2, hg q (by omega), g4⟩
      · rw [pm_ur_k _ _ (by omega)]; exact p3
      · rw [pm_ur_k _ _ (by omega)]; exact p4
      · rw [pm_ur_k _ _ (by omega)]; exact p5
    | succ u ih =>
      intro p g hp hg
      refine w_X12_rests_2 tz ⟨fun h => absurd h (nI_ge (b := 6) (by omega) (by omega)), fun _ => ⟨z_in (by omega) (by omega), ?_⟩⟩
      rw [z_cl (by omega), pm_up_ur, nI_1]
      refine ih (p + 1) _ (by omega) fun p' hp' => ?_
      by_cases e : p' = p
      · subst e; rw [if_pos rfl]
      · rw [if_neg e]; exact hg p' (by omega)
  have := loop 6 0 (mi (z + 14)) rfl (fun p hp => by omega)
  rw [pm_ur_self] at this
  exact w_X12_rests tz this
theorem s_isPlayedZ {cmd w p : Nat} {xw : Int32} {K : Bool → pm_I → pm_L → Prop} (tz : TX12s kd mr z) (H : Hd mi z k r) (O : okC r) (P : PZ r z mi st) (hp64 : p < 64) (hc : cmd ≤ 3) (hw : cmd < 3 ∨ (xw = nI w ∧ w < 4))
    (k0 : ¬ p < gN r 3 → K false mi ml) (k9 : p < gN r 3 → ∀ mi', chZ z mi mi' ml ml → PZ r z mi' (plyS r (reach r (st.1 p) (rgN (gN r (9 + p)))) cmd w (gN r 4) st) → K true mi' ml) : wB l M_X12_isPlayed (d + 5) [.ref z, .int (nI p), .int (nI cmd), .int xw] kd mr mi ml K := by
  have hb := O.w
  have h3 := O.2.2.2.2.1
  have h4 := O.2.2.2.2.2.1
  refine w_X12_isPlayed tz (s_isPlayer tz H O ?_)
  rw [isK_nI (by omega)]
  by_cases hp : p < gN r 3
  · rw [decide_eq_true hp]
    refine ⟨fun _ => ⟨z_in (by omega) (by omega), ?_⟩, fun e => by cases e⟩
    have hrg := rgN_le (gN r (9 + p))
    have htp := (O.2.2.2.2.2.2.2.1 p hp).1
    obtain ⟨a1, a2⟩ := P.1 p hp
    refine s_findCost tz H O (by rw [z_cl (by omega)]; exact a1) a2 fun g a hg => ?_
    have c0 : chZ z mi (pm_ur mi (z + 12) g) ml ml := chZ.ur (by omega)
    have P0 : PZ r z (pm_ur mi (z + 12) g) st := PW.same P (pm_ur_k _ _ (by omega)) (pm_ur_k _ _ (by omega)) (pm_ur_k _ _ (by omega)) (pm_ur_k _ _ (by omega)) (by rw [pm_ur_k _ _ (by omega)]) (by rw [pm_ur_k _ _ (by omega)]) (by rw [pm_ur_k _ _ (by omega)])
    have loop : ∀ (u q : Nat) (mi1 : pm_I), q + u = gN r 4 → chZ z mi mi1 ml ml → mi1 (z + 12) = g → PZ r z mi1 (plyS r (reach r (st.1 p) (rgN (gN r (9 + p)))) cmd w q st) → c_X12_isPlayed_23 l (d + 5) kd mr z (nI p) (nI cmd) xw (nI q) mi1 ml K := by
      intro u
      induction u with
      | zero =>
        intro q mi1 hq hch h12 hP
        have : q = gN r 4 := by omega
        subst this
        have e29 := (H.chZ hch).2.2.2.2.2.1
        exact w_X12_isPlayed_23 tz ⟨fun _ => k9 hp _ hch hP, fun z => absurd (by rw [e29]; exact nI_le (Nat.le_refl _) (by omega)) z⟩
      | succ u ih =>
        intro q mi1 hq hch h12 hP
        have hqq : q < gN r 4 := by omega
        have H1 := H.chZ hch
        have e29 := H1.2.2.2.2.2.1
        have hkq := (O.1 (27 + q) (by omega)).2
        generalize hs1 : plyS r (reach r (st.1 p) (rgN (gN r (9 + p)))) cmd w q st = s1 at hP
        have hst : plyS r (reach r (st.1 p) (rgN (gN r (9 + p)))) cmd w (q + 1) st = perS r (reach r (st.1 p) (rgN (gN r (9 + p)))) cmd w q s1 := by rw [← hs1]; rfl
        obtain ⟨b1, b2, b3, b4⟩ := hP.2.1 q hqq
        have b1 : mi1 (z + 13) q = nI (s1.2.1 q) := b1
        have on : ∀ mi2, chZ z mi mi2 ml ml → mi2 (z + 12) = g → PZ r z mi2 (perS r (reach r (st.1 p) (rgN (gN r (9 + p)))) cmd w q s1) → c_X12_isPlayed_138 l (d + 5) kd mr z (nI p) (nI cmd) xw (nI q) mi2 ml K := by
          intro mi2 g1 g2 g3
          refine w_X12_isPlayed_138 tz ?_
          rw [nI_1]
          exact ih (q + 1) mi2 (by omega) g1 g2 (by rw [hst]; exact g3)
        have e3 : (nI (gN r (27 + q)) = 3) = (gN r (27 + q) = 3) := z_eq (b := 3) (by omega) (by omega)
        have e2 : (nI (gN r (27 + q)) = 2) = (gN r (27 + q) = 2) := z_eq (b := 2) (by omega) (by omega)
        have e0 : (nI cmd = 0) = (cmd = 0) := z_eq (b := 0) (by omega) (by omega)
        have rw27 : r (27 + q) = nI (gN r (27 + q)) := O.lit (by omega)
        refine w_X12_isPlayed_23 tz ⟨fun z => absurd z (by rw [e29]; exact nI_ge (by omega) (by omega)), fun _ => s_of (a := 27 + q) tz H1 (nI_add 27 q) (by omega) ?_⟩
        rw [rw27, e3]
        refine ⟨fun q9 => on mi1 hch h12 ?_, fun q9 => ⟨z_in (by omega) (by omega), ?_, s_of (a := 9 + p) tz H1 (nI_add 9 p) (by omega) (s_rangeZ (O.lit (by omega)) htp ?_)⟩⟩
        · unfold perS
          rw [if_neg (fun e => (pb_iff.mp e).1 q9)]
          exact hP
        · rw [z_cl (by omega), b1]; exact z_in (by omega) (by omega)
        · obtain ⟨a3, a4, a5, a6⟩ := hg _ b2
          rw [z_cl (a := q) (by omega), b1, z_cl (by omega), h12, a3]
          have c9 : (nI (rgN (gN r (9 + p))) < nI (a (s1.2.1 q))) = (rgN (gN r (9 + p)) < a (s1.2.1 q)) := z_lt (by omega) (by omega)
          have hre : reach r (st.1 p) (rgN (gN r (9 + p))) (s1.2.1 q) ↔ ¬ rgN (gN r (9 + p)) < a (s1.2.1 q) := by
            constructor
            · intro q8; have := a6 _ q8; omega
            · intro q8; exact (a5 (by omega)).mono (by omega)
          rw [c9, b3]
          refine ⟨fun q8 => on mi1 hch h12 ?_, fun q8 => ⟨z_in (by omega) (by omega), ?_⟩⟩
          · unfold perS
            rw [if_neg (fun e => hre.mp (pb_iff.mp e).2 q8)]
            exact hP
          · have hpb : pb (gN r (27 + q) ≠ 3 ∧ reach r (st.1 p) (rgN (gN r (9 + p))) (s1.2.1 q)) = true := pb_iff.mpr ⟨q9, hre.mpr q8⟩
            have P2 := PW.la hP (disZ z) q (nI cmd) (s1.2.2.2.1 q + 1)
            have ch2 : chZ z mi (pm_up (pm_up mi1 (z + 14) q (nI cmd)) (z + 15) q (s1.2.2.2.1 q + 1)) ml ml := (hch.tr (chZ.up (by omega))).tr (chZ.up (by omega))
            have h12' : pm_up (pm_up mi1 (z + 14) q (nI cmd)) (z + 15) q (s1.2.2.2.1 q + 1) (z + 12) = g := by rw [pm_up_row _ _ (by omega), pm_up_row _ _ (by omega)]; exact h12
            -- one obeys
            have ob : s1.2.2.1 q ≠ nI cmd ∧ ¬ (gN r (27 + q) = 2 ∧ cmd = 0) → wV l M_X12_obeys (d + 4) [.ref z, .int (nI q), .int (nI cmd), .int xw] kd mr (pm_up (pm_up mi1 (z + 14) q (nI cmd)) (z + 15) q (s1.2.2.2.1 q + 1)) ml fun mi2 ml2 => c_X12_isPlayed_138 l (d + 5) kd mr z (nI p) (nI cmd) xw (nI q) mi2 ml2 K := by
              intro e
              refine s_obeysZ tz (H.chZ ch2) O P2 hqq hc hw fun mi' g1 g3 g2 => on mi' (ch2.tr g1) (g3.trans h12') ?_
              unfold perS
              rw [if_pos hpb, if_pos e]
              exact g2
            have no : ¬ (s1.2.2.1 q ≠ nI cmd ∧ ¬ (gN r (27 + q) = 2 ∧ cmd = 0)) → c_X12_isPlayed_138 l (d + 5) kd mr z (nI p) (nI cmd) xw (nI q) (pm_up (pm_up mi1 (z + 14) q (nI cmd)) (z + 15) q (s1.2.2.2.1 q + 1)) ml K := by
              intro e
              refine on _ ch2 h12' ?_
              unfold perS
              rw [if_pos hpb, if_neg e]
              exact P2
            refine ⟨fun e => w_X12_isPlayed_103 tz (w_X12_isPlayed_104 tz ⟨z_in (by omega) (by omega), z_in (by omega) (by omega), z_in (by omega) (by omega), ?_⟩), fun e => s_of (a := 27 + q) tz H1 (nI_add 27 q) (by omega) ⟨z_in (by omega) (by omega), z_in (by omega) (by omega), z_in (by omega) (by omega), ?_⟩⟩
            · rw [z_cl (by omega), b4]
              exact ⟨fun _ => no fun q7 => q7.1 e, fun q7 => absurd rfl q7⟩
            · rw [b4, rw27]
              simp only [e2, e0]
              refine ⟨fun q7 => no fun q6 => ?_, fun q7 => ob ⟨e, fun q6 => ?_⟩⟩
              · have q7 : gN r (27 + q) = 2 ∧ cmd = 0 := by simpa using q7
                exact q6.2 q7
              · rw [q6.1, q6.2] at q7; simp at q7
    exact loop (gN r 4) 0 _ (by omega) c0 (pm_ur_s _ _ _) P0
  · rw [decide_eq_false hp]
    exact ⟨fun e => (by cases e), fun _ => k0 hp⟩
theorem s_doesZ {a p w : Nat} {xp xw : Int32} {K : Bool → pm_I → pm_L → Prop} (tz : TX12s kd mr z) (H : Hd mi z k r) (O : okC r) (P : PZ r z mi st) (hd : dW a p w xp xw)
    (k9 : ∀ mi', chZ z mi mi' ml ml → PZ r z mi' (actS r a p w st).2 → K (actS r a p w st).1 mi' ml) : wB l M_X12_does (d + 6) [.ref z, .int (nI a), .int xp, .int xw] kd mr mi ml K := by
  have hb := O.w
  have h3 := O.2.2.2.2.1
  have h4 := O.2.2.2.2.2.1
  obtain ⟨ha, hd⟩ := hd
  have q3 : ((3 : Int32) < nI a) = (3 < a) := z_lt (a := 3) (by omega) (by omega)
  have q4 : (nI a = 4) = (a = 4) := z_eq (b := 4) (by omega) (by omega)
  have q5 : (nI a = 5) = (a = 5) := z_eq (b := 5) (by omega) (by omega)
  refine w_X12_does tz ?_
  rw [q3, q4, q5]
  refine ⟨fun z3 => ⟨fun z4 => ⟨fun z5 => ?_, fun z5 => ?_⟩, fun z4 => ?_⟩, fun z3 => ?_⟩
  · have ha6 : a = 6 := by omega
    subst ha6
    exact s_restsZ tz P O fun mi' g1 g2 => k9 mi' g1 g2
  · subst z5
    obtain ⟨rfl, hp64, hw⟩ := hd.resolve_left (by omega)
    obtain ⟨rfl, hw4⟩ := hw.resolve_left (by omega)
    have ea : actS r 5 p w st = if p < gN r 3 then (match fre r (st.1 p) w with
      | none => (false, st)
      | some t => (true, (setF st.1 p t, st.2.1, st.2.2.1, st.2.2.2.1, st.2.2.2.2.1, st.2.2.2.2.2.1, st.2.2.2.2.2.2))) else (false, st) := rfl
    rw [ea] at k9
    refine w_X12_goes tz (s_isPlayer tz H O ?_)
    rw [isK_nI (by omega)]
    by_cases q : p < gN r 3
    · rw [decide_eq_true q]
      rw [if_pos q] at k9
      obtain ⟨g1, g2⟩ := P.1 p q
      have g1 : mi (z + 16) p = nI (st.1 p) := g1
      refine ⟨fun e => (by cases e), fun _ => ⟨z_in (by omega) (by omega), ?_⟩⟩
      rw [z_cl (by omega), g1]
      refine s_free tz H O rfl rfl g2 (by omega) ?_
      cases hn : fre r (st.1 p) w with
      | none => rw [hn] at k9; exact ⟨fun e => absurd rfl e, fun _ => k9 mi chZ.rf P⟩
      | some t =>
        rw [hn] at k9
        have ht := fre_lt O g2 hn
        refine ⟨fun _ => ⟨z_in (by omega) (by omega), ?_⟩, fun e => absurd e (z_eq1 (by omega))⟩
        rw [g1]
        refine s_free tz H O rfl rfl g2 (by omega) ⟨z_in (by omega) (by omega), ?_⟩
        rw [hn]
        exact k9 _ (chZ.up (by omega)) (PW.pl P (disZ z) p rfl ht)
    · rw [decide_eq_false q]
      rw [if_neg q] at k9
      exact ⟨fun _ => k9 mi chZ.rf P, fun e => by cases e⟩
  · subst z4
    obtain ⟨rfl, hp64, hw⟩ := hd.resolve_left (by omega)
    obtain ⟨rfl, hw4⟩ := hw.resolve_left (by omega)
    have ea : actS r 4 p w st = if p < gN r 4 ∧ stB st.2.2.2.2.1 p = false then (match fre r (st.2.1 p) w with
      | none => (false, st)
      | some t => (true, (st.1, setF st.2.1 p t, st.2.2.1, st.2.2.2.1, st.2.2.2.2.1, st.2.2.2.2.2.1, st.2.2.2.2.2.2))) else (false, st) := rfl
    rw [ea] at k9
    refine w_X12_walks tz (s_isPerson tz H O ?_)
    rw [isK_nI (by omega)]
    by_cases q : p < gN r 4
    · rw [decide_eq_true q]
      have esd : mi z 36 = st.2.2.2.2.1 := P.2.2.1
      rw [esd]
      refine ⟨fun e => (by cases e), fun _ => s_hasZ rfl ⟨fun e => ?_, fun e => ⟨z_in (by omega) (by omega), ?_⟩⟩⟩
      · rw [if_neg (fun q9 => by rw [e] at q9; cases q9.2)] at k9
        exact k9 mi chZ.rf P
      · rw [if_pos ⟨q, e⟩] at k9
        obtain ⟨g1, g2, -⟩ := P.2.1 p q
        have g1 : mi (z + 13) p = nI (st.2.1 p) := g1
        rw [z_cl (by omega), g1]
        refine s_free tz H O rfl rfl g2 (by omega) ?_
        cases hn : fre r (st.2.1 p) w with
        | none => rw [hn] at k9; exact ⟨fun e => absurd rfl e, fun _ => k9 mi chZ.rf P⟩
        | some t =>
          rw [hn] at k9
          have ht := fre_lt O g2 hn
          refine ⟨fun _ => ⟨z_in (by omega) (by omega), ?_⟩, fun e => absurd e (z_eq1 (by omega))⟩
          rw [g1]
          refine s_free tz H O rfl rfl g2 (by omega) ⟨z_in (by omega) (by omega), ?_⟩
          rw [hn]
          exact k9 _ (chZ.up (by omega)) (PW.pe P (disZ z) p rfl ht)
    · rw [decide_eq_false q]
      rw [if_neg (fun q9 => q q9.1)] at k9
      exact ⟨fun _ => k9 mi chZ.rf P, fun e => by cases e⟩
  · have ha3 : a ≤ 3 := by omega
    obtain ⟨rfl, hp64, hw⟩ := hd.resolve_left (by omega)
    have ea : actS r a p w st = if p < gN r 3 then (true, plyS r (reach r (st.1 p) (rgN (gN r (9 + p)))) a w (gN r 4) st) else (false, st) := by
      unfold actS; rw [if_neg (by omega), if_neg (by omega), if_neg (by omega)]
    rw [ea] at k9
    refine s_isPlayedZ tz H O P hp64 ha3 hw (fun q => ?_) (fun q mi' g1 g2 => ?_)
    · rw [if_neg q] at k9; exact k9 mi chZ.rf P
    · rw [if_pos q] at k9; exact k9 mi' g1 g2
end PLZ
