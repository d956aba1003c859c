/-! the class: a city's inside, its open spots, how sound goes -/
theorem reach.inv {r : Nat → Int32} {f k c : Nat} (h : reach r f k c) : c = f ∨ ∃ c' w k', w < 4 ∧ nxt r c' w = some c ∧ reach r f k' c' ∧ k' + stW r c w ≤ k := by
  obtain ⟨ws, h1, v, h2, h3⟩ := h
  rcases List.eq_nil_or_concat ws with rfl | ⟨ws', w, rfl⟩
  · cases h2; exact Or.inl rfl
  · right
    rw [List.concat_eq_append] at h1 h2
    rw [List.foldl_append] at h2
    cases e : List.foldl (pstep r) (some (f, 0)) ws' with
    | none => rw [e] at h2; cases h2
    | some q =>
      rw [e] at h2
      simp only [List.foldl_cons, List.foldl_nil, pstep] at h2
      cases hn : nxt r q.1 w with
      | none => rw [hn] at h2; cases h2
      | some t =>
        rw [hn] at h2
        cases h2
        exact ⟨q.1, w, q.2, h1 w (by simp), hn, ⟨ws', fun x hx => h1 x (List.mem_append_left _ hx), q.2, e, Nat.le_refl _⟩, h3⟩
section SND
variable {l : Launch} {d h o : Nat} {kd : pm_K} {mr : pm_R} {mi : pm_I} {ml : pm_L} {r : Nat → Int32}
theorem CC.w (C : CC mi ml o r) (O : okC r) : mi o 0 = nI (gN r 0) := C.1.trans (O.lit (by omega))
theorem CC.hi (C : CC mi ml o r) (O : okC r) : mi o 1 = nI (gN r 1) := C.2.1.trans (O.lit (by omega))
theorem CC.wind (C : CC mi ml o r) (O : okC r) : mi o 2 = nI (gN r 2) := C.2.2.1.trans (O.lit (by omega))
theorem CC.np (C : CC mi ml o r) (O : okC r) : mi o 4 = nI (gN r 3) := C.2.2.2.1.trans (O.lit (by omega))
theorem CC.nq (C : CC mi ml o r) (O : okC r) : mi o 5 = nI (gN r 4) := C.2.2.2.2.1.trans (O.lit (by omega))
theorem CC.pl (C : CC mi ml o r) {p : Nat} (hp : p < gN r 3) : mi (o + 1) p = r (9 + p) ∧ mi (o + 2) p = nI (8 * gN r (21 + p) + gN r (15 + p)) := C.2.2.2.2.2.1 p hp
theorem CC.pe (C : CC mi ml o r) {p : Nat} (hp : p < gN r 4) : mi (o + 3) p = r (27 + p) ∧ mi (o + 4) p = nI (8 * gN r (39 + p) + gN r (33 + p)) := C.2.2.2.2.2.2.1 p hp
theorem CC.val (C : CC mi ml o r) {c : Nat} (hc : c < 4) : mi (o + 5) c = r (5 + c) := C.2.2.2.2.2.2.2.1 c hc
theorem CC.wall (C : CC mi ml o r) {s : Nat} (hs : s < 64) : bl (ml o 3) s = (gN r (45 + s / 8)).testBit (s % 8) := C.2.2.2.2.2.2.2.2 s hs
theorem bl_low : ∀ n, n < 9 → ∀ s, s < 64 → bl (((1 : Int64) <<< ((nI n).toInt64 &&& 63)) - 1) s = decide (s < n) := by decide +kernel
theorem s_inside {K : Int64 → pm_I → pm_L → Prop} (to : TX0s kd mr o) (C : CC mi ml o r) (O : okC r) (k9 : ∀ z, (∀ s, s < 64 → bl z s = decide (s % 8 < gN r 0 ∧ s / 8 < gN r 1)) → K z mi ml) : wL l M_X0_inside (d + 1) [.ref o] kd mr mi ml K := by
  have hb := O.w
  refine w_X0_inside to ?_
  rw [C.w O]
  refine w_X11_only ?_
  have loop : ∀ (m y : Nat) (z : Int64), y + m = gN r 1 → (∀ s, s < 64 → bl z s = decide (s % 8 < gN r 0 ∧ s / 8 < y)) → c_X0_inside_15 l (d + 1) kd mr o (((1 : Int64) <<< ((nI (gN r 0)).toInt64 &&& 63)) - 1) z (nI y) mi ml K := by
    intro m
    induction m with
    | zero =>
      intro y z hy hz
      have : y = gN r 1 := by omega
      subst this
      exact w_X0_inside_15 to ⟨fun _ => k9 z hz, fun q => absurd (by rw [C.hi O]; exact nI_le (Nat.le_refl _) (by omega)) q⟩
    | succ m ih =>
      intro y z hy hz
      refine w_X0_inside_15 to ⟨fun q => absurd q (by rw [C.hi O]; exact nI_ge (by omega) (by omega)), fun _ => ?_⟩
      rw [nI_1, show (8 : Int32) * nI y = nI (8 * y) from z_mul 8 y]
      refine ih (y + 1) _ (by omega) (fun s hs => ?_)
      rw [bl_or, hz s hs, bl_shl (by omega) _ hs]
      by_cases q : 8 * y ≤ s
      · rw [bl_low _ (by omega) _ (by omega)]
        by_cases q2 : s / 8 = y
        · have e1 : s - 8 * y = s % 8 := by omega
          have e2 : ¬ s / 8 < y := by omega
          have e3 : s / 8 < y + 1 := by omega
          simp [q, e1, e2, e3]
        · have e1 : ¬ s - 8 * y < gN r 0 := by omega
          have e2 : ¬ s / 8 < y := by omega
          have e3 : ¬ s / 8 < y + 1 := by omega
          simp [e1, e2, e3]
      · have e2 : (s / 8 < y) = True := by simp; omega
        have e3 : (s / 8 < y + 1) = True := by simp; omega
        simp [q, e2, e3]
  exact loop (gN r 1) 0 0 (by omega) (fun s _ => by rw [bl_0]; simp)
/-- open: inside, and no wall -/
def opS (r : Nat → Int32) (s : Nat) : Bool := decide (s % 8 < gN r 0 ∧ s / 8 < gN r 1) && !(gN r (45 + s / 8)).testBit (s % 8)
theorem s_openX {K : Int64 → pm_I → pm_L → Prop} (to : TX0s kd mr o) (C : CC mi ml o r) (O : okC r) (k9 : ∀ z, (∀ s, s < 64 → bl z s = opS r s) → K z mi ml) : wL l M_X0_open (d + 2) [.ref o] kd mr mi ml K :=
  w_X0_open to (s_inside to C O fun z hz => k9 _ fun s hs => by rw [bl_not, hz s hs, C.wall hs]; rfl)
theorem opS_iff {s : Nat} : opS r s = true ↔ inS r s ∧ wlC r (ceS r s) = false := by
  unfold opS inS ceS
  rw [Bool.and_eq_true, decide_eq_true_eq, Bool.not_eq_true']
  exact ⟨fun ⟨h1, h2⟩ => ⟨h1, by rw [wlC_xy h1.1]; exact h2⟩, fun ⟨h1, h2⟩ => ⟨h1, by rw [wlC_xy h1.1] at h2; exact h2⟩⟩
theorem z_xor2 : ∀ n, n < 4 → nI n ^^^ nI 2 = nI ((n + 2) % 4) := by decide +kernel
/-- row j of WITHIN holds what is reached at a cost of at most j -/
def inK (r : Nat → Int32) (f : Nat) (z : Int64) (j : Nat) : Prop := ∀ s, s < 64 → (bl z s = true ↔ inS r s ∧ reach r f j (ceS r s))
theorem s_spread {f k : Nat} {z : Int64} {x : Int32} {K : pm_I → pm_L → Prop} (th : TX7s kd mr h) (to : TX0s kd mr o) (C : CC mi ml o r) (O : okC r) (hz : ∀ s, s < 64 → bl z s = opS r s) (hx : x = nI (k + 1)) (hk : k < 56) (hf : f < cells r)
    (hw : ∀ j, j ≤ k → inK r f (ml (h + 1) j) j) (k9 : ∀ v, inK r f v (k + 1) → K mi (pm_up ml (h + 1) (k + 1) v)) : wV l M_X7_spread (d + 1) [.ref h, .ref o, .long z, .int x] kd mr mi ml K := by
  subst hx
  have hb := O.w
  have hwind := O.2.2.2.1
  have e1 : nI (k + 1) - 1 = nI k := nI_pred k
  refine w_X7_spread th to ⟨by rw [e1]; exact z_in (by omega) (by omega), ?_⟩
  rw [e1, z_cl (by omega)]
  have sub : ∀ j, j ≤ k → ∀ s, s < 64 → bl (ml (h + 1) j) s = true → inS r s := fun j hj s hs hb => ((hw j hj s hs).mp hb).1
  -- what ways below w bring
  have loop : ∀ (q w : Nat) (a : Int64), w + q = 4 → (∀ s, s < 64 → (bl a s = true → inS r s ∧ reach r f (k + 1) (ceS r s))) → (∀ s, s < 64 → inS r s → (reach r f k (ceS r s) ∨ ∃ c' w' k', w' < w ∧ nxt r c' w' = some (ceS r s) ∧ reach r f k' c' ∧ k' + stW r (ceS r s) w' ≤ k + 1 ∧ c' < cells r) → bl a s = true) → c_X7_spread_14 l (d + 1) kd mr h o z (nI (k + 1)) a (nI w) mi ml K := by
    intro q
    induction q with
    | zero =>
      intro w a hw4 ha1 ha2
      have : w = 4 := by omega
      subst this
      refine w_X7_spread_14 th to ⟨fun _ => ⟨z_in (by omega) (by omega), ?_⟩, fun z => absurd (nI_le (Nat.le_refl 4) (by omega)) z⟩
      rw [z_cl (by omega)]
      refine k9 a fun s hs => ⟨ha1 s hs, fun ⟨hi, hr⟩ => ha2 s hs hi ?_⟩
      rcases hr.inv with e | ⟨c', w', k', h1, h2, h3, h4⟩
      · left; rw [e]; exact reach.self r f k
      · exact Or.inr ⟨c', w', k', h1, h2, h3, h4, h3.lt O hf⟩
    | succ q ih =>
      intro w a hw4 ha1 ha2
      have hw3 : w < 4 := by omega
      refine w_X7_spread_14 th to ⟨fun z => absurd z (nI_ge (b := 4) (by omega) (by omega)), fun _ => ?_⟩
      -- what a step of way w brings at a cost of j before it
      have mvI : ∀ j, j ≤ k → ∀ s, s < 64 → inS r s → (mvS (bl (ml (h + 1) j)) w s = true ↔ ∃ c', c' < cells r ∧ nxt r c' w = some (ceS r s) ∧ reach r f j c') := by
        intro j hj s hs hi
        rw [mv_nxt O (sub j hj) hi hw3]
        constructor
        · rintro ⟨s', h1, h2, h3⟩
          obtain ⟨h4, h5⟩ := (hw j hj s' h1).mp h2
          exact ⟨ceS r s', ceS_lt h4, h3, h5⟩
        · rintro ⟨c', h1, h2, h3⟩
          obtain ⟨g1, g2, g3⟩ := spC_in O h1
          exact ⟨spC r c', g3, (hw j hj _ g3).mpr ⟨g1, by rw [g2]; exact h3⟩, by rw [g2]; exact h2⟩
      obtain ⟨b, hb1, hb2, hst⟩ : ∃ b, (b = 1 ∨ b = 2) ∧ (b = 2 ↔ gN r 2 < 4 ∧ (gN r 2 + 2) % 4 = w) ∧ ∀ c, stW r c w = b + if wlC r c = true then 2 else 0 := by
        refine ⟨1 + if gN r 2 < 4 ∧ (gN r 2 + 2) % 4 = w then 1 else 0, ?_, ?_, fun c => ?_⟩
        · split <;> omega
        · split
          · exact ⟨fun _ => by assumption, fun _ => rfl⟩
          · exact ⟨fun z => by omega, fun z => absurd z (by assumption)⟩
        · unfold stW; omega
      have on : ∀ a2 : Int64, (∀ s, s < 64 → (bl a2 s = true → inS r s ∧ reach r f (k + 1) (ceS r s))) → (∀ s, s < 64 → inS r s → bl a s = true ∨ (∃ c' k', nxt r c' w = some (ceS r s) ∧ reach r f k' c' ∧ k' + stW r (ceS r s) w ≤ k + 1 ∧ c' < cells r) → bl a2 s = true) → c_X7_spread_116 l (d + 1) kd mr h o z (nI (k + 1)) a2 (nI w) mi ml K := by
        intro a2 hA1 hA2
        refine w_X7_spread_116 th to ?_
        rw [nI_1]
        refine ih (w + 1) a2 (by omega) hA1 (fun s hs hi hc => hA2 s hs hi ?_)
        rcases hc with hc | ⟨c', w', k', h1, h2, h3, h4, h5⟩
        · exact Or.inl (ha2 s hs hi (Or.inl hc))
        · by_cases q9 : w' = w
          · subst q9; exact Or.inr ⟨c', k', h2, h3, h4, h5⟩
          · exact Or.inl (ha2 s hs hi (Or.inr ⟨c', w', k', by omega, h2, h3, h4, h5⟩))
      -- the second half: steps onto walls
      have half : ∀ (a1 : Int64) (x9 : Int32), ((x9 < 0 ∧ k + 1 < b) ∨ ∃ j, j + b = k + 1 ∧ x9 = nI j) → (∀ s, s < 64 → (bl a1 s = true → inS r s ∧ reach r f (k + 1) (ceS r s))) → (∀ s, s < 64 → inS r s → bl a s = true ∨ (wlC r (ceS r s) = false ∧ ∃ c' k', nxt r c' w = some (ceS r s) ∧ reach r f k' c' ∧ k' + b ≤ k + 1 ∧ c' < cells r) → bl a1 s = true) → c_X7_spread_86 l (d + 1) kd mr h o z (nI (k + 1)) a1 (nI w) x9 mi ml K := by
        intro a1 x9 hx9 hA1 hA2
        have small : ¬ (2 + b ≤ k + 1) → c_X7_spread_116 l (d + 1) kd mr h o z (nI (k + 1)) a1 (nI w) mi ml K := by
          intro hlt
          refine on a1 hA1 (fun s hs hi hc => hA2 s hs hi ?_)
          rcases hc with hc | ⟨c', k', h1, h2, h3, h4⟩
          · exact Or.inl hc
          · rw [hst] at h3
            cases e : wlC r (ceS r s) with
            | true => rw [e] at h3; simp at h3; omega
            | false => rw [e] at h3; simp at h3; exact Or.inr ⟨rfl, c', k', h1, h2, h3, h4⟩
        refine w_X7_spread_86 th to ⟨fun z9 => small ?_, fun z9 => ?_⟩
        · rcases hx9 with ⟨h1, h2⟩ | ⟨j, h1, rfl⟩
          · omega
          · have : nI j < nI 2 := z9
            rw [z_lt (by omega) (by omega)] at this
            omega
        · obtain ⟨j, h1, rfl⟩ : ∃ j, j + b = k + 1 ∧ x9 = nI j := by
            rcases hx9 with ⟨h1, h2⟩ | h1
            · exact absurd (z_ltm h1 (a := 2) (by omega)) z9
            · exact h1
          have hj2 : 2 ≤ j := by
            rcases Nat.lt_or_ge j 2 with q9 | q9
            · exact absurd (nI_lt q9 (by omega)) z9
            · exact q9
          rw [show nI j - 2 = nI (j - 2) from z_sub hj2]
          refine ⟨z_in (by omega) (by omega), s_moved rfl hw3 (fun m hm => ?_)⟩
          rw [z_cl (by omega)] at hm
          refine on _ (fun s hs hb9 => ?_) (fun s hs hi hc => ?_)
          · rw [bl_or, Bool.or_eq_true, bl_and, Bool.and_eq_true] at hb9
            rcases hb9 with hb9 | ⟨g1, g2⟩
            · exact hA1 s hs hb9
            · rw [C.wall hs] at g2
              have hi : inS r s := by
                have := O.2.2.2.2.2.2.2.2.2 (s / 8) (s % 8) (by omega) g2
                exact this
              rw [hm s hs] at g1
              obtain ⟨c', h3, h4, h5⟩ := (mvI (j - 2) (by omega) s hs hi).mp g1
              refine ⟨hi, (h5.step hw3 h4).mono ?_⟩
              rw [hst]
              split <;> omega
          · rw [bl_or, Bool.or_eq_true, bl_and, Bool.and_eq_true, hm s hs, C.wall hs]
            rcases hc with hc | ⟨c', k', h3, h4, h5, h6⟩
            · exact Or.inl (hA2 s hs hi (Or.inl hc))
            · rw [hst] at h5
              cases e : wlC r (ceS r s) with
              | true =>
                rw [e] at h5; simp at h5
                right
                refine ⟨(mvI (j - 2) (by omega) s hs hi).mpr ⟨c', h6, h3, h4.mono (by omega)⟩, ?_⟩
                have := wlC_xy (r := r) (x := s % 8) (y := s / 8) hi.1
                unfold ceS at e
                rw [← this]; exact e
              | false => rw [e] at h5; simp at h5; exact Or.inl (hA2 s hs hi (Or.inr ⟨e, c', k', h3, h4, h5, h6⟩))
      -- the first half: steps onto what is open
      have half1 : ∀ x9 : Int32, x9 = nI (k + 1) - nI b → (x9 < 0 → c_X7_spread_86 l (d + 1) kd mr h o z (nI (k + 1)) a (nI w) x9 mi ml K) ∧ (¬ x9 < 0 → vp_in x9 57 ∧ wL l M_X11_moved d [.long (ml (h + 1) x9.toNatClampNeg), .int (nI w)] kd mr mi ml (fun m mi2 ml2 => c_X7_spread_86 l (d + 1) kd mr h o z (nI (k + 1)) (a ||| (m &&& z)) (nI w) x9 mi2 ml2 K)) := by
        intro x9 hx9
        by_cases hkb : b ≤ k + 1
        · rw [z_sub hkb] at hx9
          subst hx9
          refine ⟨fun z9 => absurd z9 (nI_pos (by omega)), fun _ => ⟨z_in (by omega) (by omega), s_moved rfl hw3 (fun m hm => ?_)⟩⟩
          rw [z_cl (by omega)] at hm
          refine half _ _ (Or.inr ⟨k + 1 - b, by omega, rfl⟩) (fun s hs hb9 => ?_) (fun s hs hi hc => ?_)
          · rw [bl_or, Bool.or_eq_true, bl_and, Bool.and_eq_true] at hb9
            rcases hb9 with hb9 | ⟨g1, g2⟩
            · exact ha1 s hs hb9
            · rw [hz s hs, opS_iff] at g2
              obtain ⟨hi, hwl⟩ := g2
              rw [hm s hs] at g1
              obtain ⟨c', h3, h4, h5⟩ := (mvI (k + 1 - b) (by omega) s hs hi).mp g1
              refine ⟨hi, (h5.step hw3 h4).mono ?_⟩
              rw [hst, hwl]; simp; omega
          · rw [bl_or, Bool.or_eq_true, bl_and, Bool.and_eq_true, hm s hs, hz s hs]
            rcases hc with hc | ⟨hwl, c', k', h3, h4, h5, h6⟩
            · exact Or.inl hc
            · exact Or.inr ⟨(mvI (k + 1 - b) (by omega) s hs hi).mpr ⟨c', h6, h3, h4.mono (by omega)⟩, opS_iff.mpr ⟨hi, hwl⟩⟩
        · have : k = 0 ∧ b = 2 := by omega
          obtain ⟨rfl, rfl⟩ := this
          have : x9 < 0 := by rw [hx9]; decide
          refine ⟨fun _ => half a x9 (Or.inl ⟨this, by omega⟩) ha1 (fun s hs hi hc => ?_), fun z9 => absurd this z9⟩
          rcases hc with hc | ⟨hwl, c', k', h3, h4, h5, h6⟩
          · exact hc
          · omega
      have e2 := C.wind O
      refine ⟨fun hz4 => w_X7_spread_44 th to (w_X7_spread_45 th to ?_), fun hz4 => ?_⟩
      · rw [e2] at hz4
        have hz4 : nI (gN r 2) = nI 4 := hz4
        rw [z_eq (by omega) (by omega)] at hz4
        have : b = 1 := by
          rcases hb1 with q9 | q9
          · exact q9
          · have := hb2.mp q9; omega
        subst this
        rw [if_pos rfl]
        exact half1 _ rfl
      · rw [e2] at hz4 ⊢
        have hz4 : ¬ nI (gN r 2) = nI 4 := hz4
        rw [z_eq (by omega) (by omega)] at hz4
        have e5 : nI (gN r 2) ^^^ 2 = nI ((gN r 2 + 2) % 4) := z_xor2 _ (by omega)
        refine w_X11_contrary ?_
        have e6 : (if (decide (nI w = nI (gN r 2) ^^^ 2)) = true then (2 : Int32) else 1) = nI b := by
          rw [e5]
          have q8 : (nI w = nI ((gN r 2 + 2) % 4)) = (w = (gN r 2 + 2) % 4) := z_eq (by omega) (by omega)
          simp only [q8, decide_eq_true_eq]
          by_cases q9 : w = (gN r 2 + 2) % 4
          · rw [if_pos q9, hb2.mpr ⟨by omega, q9.symm⟩]; rfl
          · rw [if_neg q9]
            rcases hb1 with q7 | q7
            · rw [q7]; rfl
            · exact absurd (hb2.mp q7).2.symm q9
        rw [e6]
        exact half1 _ rfl
  refine loop 4 0 (ml (h + 1) k) rfl (fun s hs hb9 => ?_) (fun s hs hi hc => ?_)
  · obtain ⟨h1, h2⟩ := (hw k (Nat.le_refl _) s hs).mp hb9
    exact ⟨h1, h2.mono (by omega)⟩
  · rcases hc with hc | ⟨c', w', k', h1, -⟩
    · exact (hw k (Nat.le_refl _) s hs).mpr ⟨hi, hc⟩
    · omega
end SND
