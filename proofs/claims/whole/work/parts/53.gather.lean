/-! gather, through and through -/
def vGa (r : Nat → Int32) (b c e : Int32) (dir : Bool) : Int32 → Prop := vK b (gN r 3) (-1) fun p => vK c (gN r 4) (-1) fun q1 => vK e (gN r 4) (-1) fun q2 v => if q1 = q2 then v = -1 else vG r (hrC r p) (64 * cellC r 27 q1 + cellC r 27 q2) dir v
theorem vGa.uniq {r : Nat → Int32} {b c e v v' : Int32} {dir : Bool} (h1 : vGa r b c e dir v) (h2 : vGa r b c e dir v') : v = v' := by
  unfold vGa at h1 h2
  refine vK_uniq (fun p v v' _ g1 g2 => ?_) h1 h2
  refine vK_uniq (fun q1 v v' _ g1 g2 => ?_) g1 g2
  refine vK_uniq (fun q2 v v' _ g1 g2 => ?_) g1 g2
  split at g1
  · rename_i q; rw [if_pos q] at g2; rw [g1, g2]
  · rename_i q; rw [if_neg q] at g2; exact g1.uniq g2
section GA
variable {l : Launch} {d h o x z T : Nat} {kd : pm_K} {mr : pm_R} {mi : pm_I} {ml : pm_L} {k : Nat} {r : Nat → Int32}
theorem pr_ok {r : Nat → Int32} (O : okC r) {a b : Nat} (ha : a < cells r) (hb : b < cells r) : (64 * a + b) / 64 = a ∧ (64 * a + b) % 64 = b ∧ okI r (64 * a + b) := by
  have hw := O.w
  unfold okI
  have e1 : (64 * a + b) / 64 = a := by omega
  have e2 : (64 * a + b) % 64 = b := by omega
  rw [e1, e2]
  exact ⟨rfl, rfl, ha, hb⟩
theorem s_gatherZ {b c e : Int32} {dir : Bool} {K : Int32 → pm_I → pm_L → Prop} (tz : TX12s kd mr z) (H : Hd mi z k r) (O : okC r) (k9 : ∀ v mi', vGa r b c e dir v → frZ z mi mi' ml ml → K v mi' ml) :
    wB l M_X12_isPlayer (d + 5) [.ref z, .int b] kd mr mi ml (fun r5 mi6 ml7 => ((r5 = false → K (-1) mi6 ml7) ∧ (r5 = true → wB l M_X12_isPerson (d + 5) [.ref z, .int c] kd mr mi6 ml7 (fun r9 mi10 ml11 => ((r9 = false → K (-1) mi10 ml11) ∧ (r9 = true → wB l M_X12_isPerson (d + 5) [.ref z, .int e] kd mr mi10 ml11 (fun r13 mi14 ml15 => ((r13 = false → K (-1) mi14 ml15) ∧ (r13 = true → ((¬ c = e → wI l M_X12_cellOf (d + 5) [.ref z, .int 9, .int b] kd mr mi14 ml15 (fun r18 mi19 ml20 => wI l M_X12_of (d + 5) [.ref z, .int (9 + b)] kd mr mi19 ml20 (fun r21 mi22 ml23 => wL l M_X12_heardFrom (d + 5) [.ref z, .int r18, .int r21] kd mr mi22 ml23 (fun r24 mi25 ml26 => wV l M_X12_findMarches (d + 5) [.ref z, .long r24] kd mr mi25 ml26 (fun mi28 ml29 => wI l M_X12_cellOf (d + 5) [.ref z, .int 27, .int c] kd mr mi28 ml29 (fun r30 mi31 ml32 => wI l M_X12_cellOf (d + 5) [.ref z, .int 27, .int e] kd mr mi31 ml32 (fun r33 mi34 ml35 => vp_in ((64 * r30) + r33) 4096 ∧ (((mi34 (z + 19) (Int32.toNatClampNeg ((64 * r30) + r33))) < 1000000 → ((dir = true → c_X12_gather_125 l (d + 6) kd mr z r24 ((64 * r30) + r33) 0 mi34 ml35 K) ∧ (dir = false → vp_in ((64 * r30) + r33) 4096 ∧ K (mi34 (z + 19) (Int32.toNatClampNeg ((64 * r30) + r33))) mi34 ml35))) ∧ (¬ (mi34 (z + 19) (Int32.toNatClampNeg ((64 * r30) + r33))) < 1000000 → K (-1) mi34 ml35))))))))) ∧ (c = e → K (-1) mi14 ml15))))))))))) := by
  have hw := O.w
  have h3 := O.2.2.2.2.1
  have h4 := O.2.2.2.2.2.1
  refine s_isPlayer tz H O ⟨fun h => k9 _ _ (vK_no h) frZ.rf, fun h => ?_⟩
  obtain ⟨p, hp, hp2, rfl⟩ := isK_iff.mp h
  refine s_isPerson tz H O ⟨fun h => k9 _ _ (vK_yes hp hp2 rfl (vK_no h)) frZ.rf, fun h => ?_⟩
  obtain ⟨q1, hq1, hq12, rfl⟩ := isK_iff.mp h
  refine s_isPerson tz H O ⟨fun h => k9 _ _ (vK_yes hp hp2 rfl (vK_yes hq1 hq12 rfl (vK_no h))) frZ.rf, fun h => ?_⟩
  obtain ⟨q2, hq2, hq22, rfl⟩ := isK_iff.mp h
  have k9 : ∀ v mi', (if q1 = q2 then v = -1 else vG r (hrC r p) (64 * cellC r 27 q1 + cellC r 27 q2) dir v) → frZ z mi mi' ml ml → K v mi' ml := fun v mi' g1 g2 => k9 v mi' (vK_yes hp hp2 rfl (vK_yes hq1 hq12 rfl (vK_yes hq2 hq22 rfl g1))) g2
  rw [z_eq hq12 hq22]
  refine ⟨fun hne => ?_, fun he => k9 _ _ (by rw [if_pos he]) frZ.rf⟩
  have k9 : ∀ v mi', vG r (hrC r p) (64 * cellC r 27 q1 + cellC r 27 q2) dir v → frZ z mi mi' ml ml → K v mi' ml := fun v mi' g1 g2 => k9 v mi' (by rw [if_neg hne]; exact g1) g2
  obtain ⟨c1, -⟩ := cellC_lt O (Or.inl ⟨rfl, hp⟩)
  obtain ⟨c2, -⟩ := cellC_lt O (Or.inr ⟨rfl, hq1⟩)
  obtain ⟨c3, -⟩ := cellC_lt O (Or.inr ⟨rfl, hq2⟩)
  obtain ⟨s1, s2, s3⟩ := pr_ok O c2 c3
  have htp := (O.2.2.2.2.2.2.2.1 p hp).1
  refine s_cellOf (a := 9) tz H O rfl rfl (by omega) (by omega) (s_of (a := 9 + p) tz H (nI_add 9 p) (by omega) (s_heardFrom tz H O rfl (O.lit (by omega)) c1 htp fun hv g hhv => ?_))
  have hhv : cZ r hv (hrC r p) := hhv
  have H2 : Hd (pm_ur mi (z + 12) g) z k r := H.ur (by omega) (by omega)
  refine s_findMarches (Hc := hrC r p) tz H2 O hhv fun g2 t ht => ?_
  have H3 : Hd (pm_ur (pm_ur mi (z + 12) g) (z + 19) g2) z k r := H2.ur (by omega) (by omega)
  have F : frZ z mi (pm_ur (pm_ur mi (z + 12) g) (z + 19) g2) ml ml := (frZ.urI (by omega)).tr (frZ.urI (by omega))
  refine s_cellOf (a := 27) tz H3 O rfl rfl (by omega) (by omega) (s_cellOf (a := 27) tz H3 O rfl rfl (by omega) (by omega) ?_)
  have ea : (64 : Int32) * nI (cellC r 27 q1) + nI (cellC r 27 q2) = nI (64 * cellC r 27 q1 + cellC r 27 q2) := by
    rw [show (64 : Int32) * nI (cellC r 27 q1) = nI (64 * cellC r 27 q1) from z_mul 64 _, nI_add]
  rw [ea]
  generalize 64 * cellC r 27 q1 + cellC r 27 q2 = s at *
  have hsl := s3.lt O
  obtain ⟨t1, t2, t3, t4⟩ := ht s s3
  have c9 : (nI (t s) < (1000000 : Int32)) = (t s < 1000000) := z_lt (b := 1000000) (by omega) (by omega)
  rw [z_cl (by omega), pm_ur_s, t1, c9]
  obtain ⟨j, j1, j2⟩ := gI.stab (Hc := hrC r p) O
  refine ⟨z_in (by omega) (by omega), fun hlt => ?_, fun hge => k9 _ _ (Or.inl ⟨fun k hk => ?_, rfl⟩) F⟩
  · have hg := t3 hlt
    have hD : t s < 4096 := by have := t4 j (j2 _ s s3 hg); omega
    refine ⟨fun hd => ?_, fun hd => ⟨z_in (by omega) (by omega), k9 _ _ (Or.inr ⟨t s, hg, t4, hD, Or.inl ⟨hd, rfl⟩⟩) F⟩⟩
    -- which direction
    have tn : ∀ w, t s ≤ t (nxI r (hrC r p) s w) + 1 := by
      intro w
      by_cases hw9 : w < 4
      · obtain ⟨-, -, n3⟩ := nxI_dm (Hc := hrC r p) (w := w) O s3
        obtain ⟨u1, u2, u3, u4⟩ := ht _ n3
        by_cases q : t (nxI r (hrC r p) s w) < 1000000
        · exact t4 _ (Or.inr ⟨w, hw9, u3 q⟩)
        · omega
      · obtain ⟨-, -, n3⟩ := nxI_dm (Hc := hrC r p) (w := w) O s3
        obtain ⟨u1, u2, u3, u4⟩ := ht _ n3
        have : mvC r (hrC r p) (s / 64) w = s / 64 ∨ True := Or.inr trivial
        have hn : ∀ c, nxt r c w = some c ∨ True := fun _ => Or.inr trivial
        by_cases q : t s ≤ t (nxI r (hrC r p) s w) + 1
        · exact q
        · exfalso
          have e4 : ∀ c, mvC r (hrC r p) c w = c := by
            intro c
            unfold mvC
            split
            · unfold fre nxt
              rw [if_neg (by omega), if_neg (by omega), if_neg (by omega), if_neg (by omega)]
              dsimp only
              split <;> rfl
            · rfl
          have e5 : nxI r (hrC r p) s w = s := by
            unfold nxI
            rw [e4, e4]; omega
          rw [e5] at q
          omega
    have loop : ∀ (u w : Nat), w + u = 4 → (∀ w', w' < w → ¬ gI r (hrC r p) (t s - 1) (nxI r (hrC r p) s w') ∨ t s = 0) → c_X12_gather_125 l (d + 6) kd mr z hv (nI s) (nI w) (pm_ur (pm_ur mi (z + 12) g) (z + 19) g2) ml K := by
      intro u
      induction u with
      | zero =>
        intro w hw9 hno
        have : w = 4 := by omega
        subst this
        refine w_X12_gather_125 tz ⟨fun _ => ?_, fun q => absurd (nI_le (Nat.le_refl 4) (by omega)) q⟩
        rcases Nat.eq_zero_or_pos (t s) with q | q
        · exact k9 _ _ (Or.inr ⟨t s, hg, t4, hD, Or.inr ⟨hd, Or.inl ⟨q, rfl⟩⟩⟩) F
        · exfalso
          have : ∃ w, w < 4 ∧ gI r (hrC r p) (t s - 1) (nxI r (hrC r p) s w) := by
            have e : t s = (t s - 1) + 1 := by omega
            rw [e] at hg
            rcases hg with hg | hg
            · have := t4 _ hg; omega
            · exact hg
          obtain ⟨w, g1, g3⟩ := this
          rcases hno w g1 with g4 | g4
          · exact g4 g3
          · omega
      | succ u ih =>
        intro w hw9 hno
        obtain ⟨-, -, n3⟩ := nxI_dm (Hc := hrC r p) (w := w) O s3
        have hnl := n3.lt O
        obtain ⟨u1, u2, u3, u4⟩ := ht _ n3
        refine w_X12_gather_125 tz ⟨fun q => absurd q (nI_ge (b := 4) (by omega) (by omega)), fun _ => s_nextOf tz H3 O hhv rfl rfl s3 (by omega) ⟨z_in (by omega) (by omega), z_in (by omega) (by omega), ?_⟩⟩
        rw [z_cl (a := s) (by omega), z_cl (by omega), pm_ur_s, u1, t1]
        have ht2 := tn w
        rcases Nat.eq_zero_or_pos (t s) with q | q
        · have e1 : ¬ nI (t (nxI r (hrC r p) s w)) = nI (t s) - 1 := by
            rw [q]
            intro e
            have e2 : nI 0 - 1 = (-1 : Int32) := by decide
            rw [e2] at e
            exact z_eq1 (by omega) e
          refine ⟨fun _ => ?_, fun e => absurd e e1⟩
          rw [nI_1]
          exact ih (w + 1) (by omega) fun w' _ => Or.inr q
        · have e1 : nI (t s) - 1 = nI (t s - 1) := z_sub (b := 1) (by omega)
          rw [e1, z_eq (by omega) (by omega)]
          refine ⟨fun e => ?_, fun e => k9 _ _ (Or.inr ⟨t s, hg, t4, hD, Or.inr ⟨hd, Or.inr ⟨q, w, by omega, rfl, by rw [← e]; exact u3 (by omega), fun w' hw' => (hno w' hw').resolve_right (by omega)⟩⟩⟩) F⟩
          rw [nI_1]
          refine ih (w + 1) (by omega) fun w' hw' => ?_
          by_cases q9 : w' = w
          · subst q9
            left
            intro hgg
            have := u4 _ hgg
            omega
          · exact hno w' (by omega)
    exact loop 4 0 rfl (fun w' h => by omega)
  · have := t4 j (j2 _ s s3 hk); omega
theorem c_gather {a b c e : Int32} {dir : Bool} (tx : TX11s kd mr x) (tz : TX12s kd mr z) (I : IV x z mi ml) : wI l M_X11_gather (d + 6) [.ref x, .int a, .int b, .int c, .int e, .int (b2i dir)] kd mr mi ml fun r mi1 ml1 => wI l M_X12_gather (d + 6) [.ref z, .int a, .int b, .int c, .int e, .int (b2i dir)] kd mr mi1 ml1 fun r2 mi2 ml2 => r = r2 ∧ IV x z mi2 ml2 := by
  have f0 : ∀ (mi : pm_I) (ml : pm_L), frZ z mi (pm_up mi z 0 0) ml ml := fun _ _ => frZ.upI (Or.inl rfl)
  have hz := I.1
  refine w_X11_gather tx (q_city tx I (fun m Im h => ⟨fun _ => ?_, fun b hb => (by cases hb)⟩) (fun m k r hr Im hk ha to O C => ⟨fun h => (by cases h), fun b4 hb4 => ?_⟩))
  · exact w_X12_gather tz (p_handN tz Im h (pm_up_row _ _ (by omega)) (pm_up_row _ _ (by omega)) ⟨fun _ => ⟨rfl, I.smZ (f0 _ _)⟩, fun g => (by cases g)⟩)
  · cases hb4
    have hm := Im.1
    have hw := O.w
    have h3 := O.2.2.2.2.1
    have h4 := O.2.2.2.2.2.1
    have ref : ∀ v mi1 ml1, vGa r b c e dir v → frX x mi mi1 ml ml1 → wI l M_X12_gather (d + 6) [.ref z, .int a, .int b, .int c, .int e, .int (b2i dir)] kd mr mi1 ml1 fun r2 mi2 ml2 => v = r2 ∧ IV x z mi2 ml2 := by
      intro v mi1 ml1 hv fx
      refine w_X12_gather tz (q_hand tz Im hr hk ha (by rw [pm_up_row _ _ (by omega)]; exact (fx _ (by omega)).1) (by rw [pm_up_row _ _ (by omega)]; exact (fx _ (by omega)).1) fun mi' f g1 g2 H => ⟨fun g => (by cases g), fun _ => ?_⟩)
      exact s_gatherZ (K := fun r2 mi2 ml2 => v = r2 ∧ IV x z mi2 ml2) tz H O fun v2 mi2 hv2 f2 => ⟨hv.uniq hv2, (I.smX fx).smZ (((f0 _ _).tr f).tr f2)⟩
    refine ⟨to, s_hasPlayer to C O ⟨fun h => ref _ _ _ (vK_no h) frX.rf, fun h => ?_⟩⟩
    obtain ⟨p, hp, hp2, hpb⟩ := isK_iff.mp h
    refine s_hasPerson to C O ⟨fun h => ref _ _ _ (vK_yes hp hp2 hpb (vK_no h)) frX.rf, fun h => ?_⟩
    obtain ⟨q1, hq1, hq12, hqc⟩ := isK_iff.mp h
    refine s_hasPerson to C O ⟨fun h => ref _ _ _ (vK_yes hp hp2 hpb (vK_yes hq1 hq12 hqc (vK_no h))) frX.rf, fun h => ?_⟩
    obtain ⟨q2, hq2, hq22, hqe⟩ := isK_iff.mp h
    have ref2 : ∀ v mi1 ml1, (if q1 = q2 then v = -1 else vG r (hrC r p) (64 * cellC r 27 q1 + cellC r 27 q2) dir v) → frX x mi mi1 ml ml1 → wI l M_X12_gather (d + 6) [.ref z, .int a, .int b, .int c, .int e, .int (b2i dir)] kd mr mi1 ml1 fun r2 mi2 ml2 => v = r2 ∧ IV x z mi2 ml2 := fun v mi1 ml1 g1 g2 => ref v mi1 ml1 (vK_yes hp hp2 hpb (vK_yes hq1 hq12 hqc (vK_yes hq2 hq22 hqe g1))) g2
    refine ⟨fun hne => ?_, fun he => ref2 _ _ _ (by rw [hqc, hqe, z_eq hq12 hq22] at he; rw [if_pos he]) frX.rf⟩
    have hne : ¬ q1 = q2 := fun q => hne (by rw [hqc, hqe, q])
    obtain ⟨c1, c1'⟩ := cellC_lt O (Or.inl ⟨rfl, hp⟩)
    obtain ⟨c2, c2'⟩ := cellC_lt O (Or.inr ⟨rfl, hq1⟩)
    obtain ⟨c3, c3'⟩ := cellC_lt O (Or.inr ⟨rfl, hq2⟩)
    obtain ⟨s1, s2, s3⟩ := pr_ok O c2 c3
    have hrg := rgN_le (gN r (9 + p))
    refine s_openX to C O fun op hop => ⟨by rw [hpb]; exact z_in (by omega) (by omega), s_rangeOf to C O hpb hp ?_⟩
    have ep : mi (x + 1 + 7 + 19 * k + 2) b.toNatClampNeg = nI (spC r (cellC r 9 p)) := by rw [hpb, z_cl hp2, (C.pl hp).2, c1']
    rw [ep]
    refine s_heardX (TX11s_a4 tx) to C O (by omega) c1 rfl rfl (by omega) fun hv g hhv => s_layWays (Hc := hrC r p) (TX11s_a8 tx) O hop hhv fun W hW => ?_
    have C2 : CC (pm_ur mi (x + 222 + 4) W) (pm_ur ml (x + 200 + 1) g) (x + 1 + 7 + 19 * k) r := C.same (fun a h1 h2 => pm_ur_k _ _ (by omega)) (pm_ur_k _ _ (by omega))
    have F2 : frX x mi (pm_ur mi (x + 222 + 4) W) ml (pm_ur ml (x + 200 + 1) g) := (frX.urI (by omega)).tr (frX.urL (by omega))
    refine ⟨by rw [hqc]; exact z_in (by omega) (by omega), by rw [hqe]; exact z_in (by omega) (by omega), ?_⟩
    have e1 : pm_ur mi (x + 222 + 4) W (x + 1 + 7 + 19 * k + 4) c.toNatClampNeg = nI (spC r ((64 * cellC r 27 q1 + cellC r 27 q2) / 64)) := by rw [hqc, z_cl hq12, (C2.pe hq1).2, s1, c2']
    have e2 : pm_ur mi (x + 222 + 4) W (x + 1 + 7 + 19 * k + 4) e.toNatClampNeg = nI (spC r ((64 * cellC r 27 q1 + cellC r 27 q2) % 64)) := by rw [hqe, z_cl hq22, (C2.pe hq2).2, s2, c3']
    rw [e1, e2]
    refine s_fewestMarches (Hc := hrC r p) (TX11s_a8 tx) O (by rw [pm_ur_s]; exact hW) s3 rfl rfl fun v A1 A2 A3 hv2 => ref2 v _ _ (by rw [if_neg hne]; exact hv2) (F2.tr fun a ha => ⟨w3_o (by omega), rfl⟩)
end GA
