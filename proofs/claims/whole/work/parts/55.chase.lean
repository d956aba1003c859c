/-! who catches whom: the reference's turns, the class's sets -/
/-- the second pass, as far as k: nothing was won, or something was -/
def cP2 (r : Nat → Int32) (T0 T : Nat → Nat) (x1 : Int32) (k : Nat) : Prop := (∀ i, k ≤ i → T i = T0 i) ∧ (∀ i, T i ≤ T0 i) ∧ ((x1 = 0 ∧ T = T0 ∧ ∀ i, i < k → okI r i → 0 < T0 i → T0 i ≤ snW r (BN r T0) (i / 64) (i % 64) 5) ∨ (x1 = 1 ∧ cSum T 4096 < cSum T0 4096))
section CHF
variable {l : Launch} {d h o x z T : Nat} {kd : pm_K} {mr : pm_R} {mi : pm_I} {ml : pm_L} {k : Nat} {r : Nat → Int32}
theorem BN_le {Tn : Nat → Nat} {i : Nat} (O : okC r) (hi : okI r i) (hT : ∀ i, i < 4096 → Tn i ≤ 1000000) : BN r Tn i ≤ 1000001 := by
  have hb := O.w
  unfold BN
  split
  · omega
  · refine (syW_le _ 5).mpr fun w t _ ht => ?_
    have hlt := fre_lt O hi.2 ht
    have := hT (64 * (i / 64) + t) (by have := hi.1; omega)
    omega
theorem s_findChase {K : pm_I → pm_L → Prop} (tz : TX12s kd mr z) (H : Hd mi z k r) (O : okC r)
    (k9 : ∀ g a T, cJ9 r g T → (∀ i n, okI r i → wlC r (i / 64) = false → wlC r (i % 64) = false → ctC r n (i / 64) (i % 64) → T i ≤ n) → K (w2 mi z g a) ml) : wV l M_X12_findChase (d + 4) [.ref z] kd mr mi ml K := by
  have hb := O.w
  have Hg : ∀ g a, Hd (w2 mi z g a) z k r := fun g a => H.sm fun b hb => w2_o (by omega) (by omega)
  have e27 : ∀ g a, w2 mi z g a z 27 = nI (cells r) := fun g a => (Hg g a).2.2.2.1
  have e64 : ∀ g a, 64 * w2 mi z g a z 27 = nI (64 * cells r) := fun g a => by rw [e27]; exact z_mul 64 _
  have outer : ∀ (n : Nat) (g a : Nat → Int32) (T : Nat → Nat), cSum T 4096 < n → cJ9 r g T → c_X12_findChase_41 l (d + 4) kd mr z 1 (w2 mi z g a) ml K := by
    intro n
    induction n with
    | zero => intro g a T hn; omega
    | succ n ih =>
      intro g0 a0 T0 hn hJ0
      have hT0 : ∀ i, i < 4096 → T0 i ≤ 1000000 := fun i hi => (hJ0.1 i hi).2
      refine w_X12_findChase_41 tz ⟨fun q => absurd q (by decide), fun _ => ?_⟩
      -- the second pass
      have second : ∀ (m i : Nat) (x1 : Int32) (g a : Nat → Int32) (T : Nat → Nat), i + m = 64 * cells r → (∀ i, okI r i → a i = nI (BN r T0 i) - 1 ∧ BN r T0 i ≤ 1000001) → cJ9 r g T → cP2 r T0 T x1 i → c_X12_findChase_103 l (d + 4) kd mr z x1 (nI i) (w2 mi z g a) ml K := by
        intro m
        induction m with
        | zero =>
          intro i x1 g a T hi ha hJ hP
          have : i = 64 * cells r := by omega
          subst this
          refine w_X12_findChase_103 tz ⟨fun _ => ?_, fun q => absurd (by rw [e64]; exact nI_le (Nat.le_refl _) (by omega)) q⟩
          rcases hP.2.2 with ⟨rfl, rfl, hfix⟩ | ⟨rfl, hlt⟩
          · refine w_X12_findChase_41 tz ⟨fun _ => k9 g a T hJ fun i n hi hp hq hc => ?_, fun q => absurd rfl q⟩
            clear hn ih
            induction n generalizing i with
            | zero =>
              have := hJ.2.2 i (hi.lt O) hc
              omega
            | succ n ihn =>
              rcases Nat.eq_zero_or_pos (T i) with q | q
              · omega
              · have h1 := hfix i (by have := hi.1; omega) hi q
                obtain ⟨p', g1, g2⟩ := hc
                obtain ⟨f1, f2⟩ := g1.lt O hi.1 hp
                obtain ⟨w, w1, w2'⟩ := nb5 hp g1
                have h2 := (snW_le (r := r) (B := BN r T) (p := i / 64) (q := i % 64) 5).2.1 w p' w1 w2'
                obtain ⟨e1, e2, e3⟩ := pr_ok O f1 hi.2
                have h3 : BN r T (64 * p' + i % 64) ≤ n + 1 := by
                  unfold BN
                  rw [e1, e2]
                  split
                  · omega
                  · rename_i hne
                    have g2 := g2.resolve_left hne
                    refine (syW_le _ 5).mpr fun w t hw ht => ?_
                    have hnb := fre5 ht hw
                    obtain ⟨f3, f4⟩ := hnb.lt O hi.2 hq
                    obtain ⟨e4, e5, e6⟩ := pr_ok O f1 f3
                    have := ihn (64 * p' + t) e6 (by rw [e4]; exact f2) (by rw [e5]; exact f4) (by rw [e4, e5]; exact g2 t hnb)
                    omega
                omega
          · exact ih g a T (by omega) hJ
        | succ m ihm =>
          intro i x1 g a T hi ha hJ hP
          have hi4 : i < 4096 := by omega
          obtain ⟨gi, hTi⟩ := hJ.1 i hi4
          have ed1 : nI i / 64 = nI (i / 64) := z_div (b := 64) (by omega) (by omega)
          have ed2 : nI i - nI i / 64 * 64 = nI (i % 64) := z_rem (b := 64) (by omega) (by omega)
          have hTT := hP.1 i (Nat.le_refl _)
          -- the write: s0 is what was found
          have wr : ∀ s0 : Nat, s0 ≤ 1000000 → (s0 < T i → okI r i ∧ (wlC r (i / 64) = false → wlC r (i % 64) = false → ctC r s0 (i / 64) (i % 64)) ∧ ¬ i / 64 = i % 64) → (okI r i → 0 < T i → s0 = snW r (BN r T0) (i / 64) (i % 64) 5) → c_X12_findChase_155 l (d + 4) kd mr z x1 (nI i) (nI s0) (w2 mi z g a) ml K := by
            intro s0 hs0 hsound hby
            have q9 : (nI s0 ≤ nI (T i)) = (s0 ≤ T i) := z_le (by omega) (by omega)
            have q8 : (nI (T i) ≤ nI s0) = (T i ≤ s0) := z_le (by omega) (by omega)
            have emin : (if nI s0 ≤ nI (T i) then nI s0 else nI (T i)) = nI (if s0 ≤ T i then s0 else T i) := by
              simp only [q9]; split <;> rfl
            -- the turns behind the write
            have hJ2 : cJ9 r (setF g i (nI (if s0 ≤ T i then s0 else T i))) (setF T i (if s0 ≤ T i then s0 else T i)) := by
              refine ⟨fun j hj => ?_, fun j hj hp hq hlt => ?_, fun j hj he => ?_⟩
              · by_cases e : j = i
                · subst e
                  rw [setF_s, setF_s]
                  exact ⟨rfl, by split <;> omega⟩
                · rw [setF_n _ _ e, setF_n _ _ e]; exact hJ.1 j hj
              · by_cases e : j = i
                · subst e
                  rw [setF_s] at hlt ⊢
                  split at hlt
                  · rename_i hle
                    rw [if_pos hle]
                    by_cases q : s0 < T j
                    · exact (hsound q).2.1 hp hq
                    · have : s0 = T j := by omega
                      rw [this]; exact hJ.2.1 j hj hp hq (by omega)
                  · rename_i hnle
                    rw [if_neg hnle]
                    exact hJ.2.1 j hj hp hq hlt
                · rw [setF_n _ _ e] at hlt ⊢; exact hJ.2.1 j hj hp hq hlt
              · by_cases e : j = i
                · subst e
                  rw [setF_s]
                  have h0 := hJ.2.2 j hj he
                  split <;> omega
                · rw [setF_n _ _ e]; exact hJ.2.2 j hj he
            have nx : ∀ x1' : Int32, cP2 r T0 (setF T i (if s0 ≤ T i then s0 else T i)) x1' (i + 1) → c_X12_findChase_103 l (d + 4) kd mr z x1' (nI (i + 1)) (w2 mi z (setF g i (nI (if s0 ≤ T i then s0 else T i))) a) ml K := fun x1' hP' => ihm (i + 1) x1' _ a _ (by omega) ha hJ2 hP'
            have hsum : s0 < T i → cSum (setF T i (if s0 ≤ T i then s0 else T i)) 4096 < cSum T 4096 := by
              intro q
              have := cSum_up T (j := i) (v := if s0 ≤ T i then s0 else T i) 4096 hi4 (by split <;> omega)
              exact this
            have hsame : ¬ s0 < T i → setF T i (if s0 ≤ T i then s0 else T i) = T := by
              intro q
              funext j
              by_cases e : j = i
              · subst e; rw [setF_s]; split <;> omega
              · rw [setF_n _ _ e]
            have hle1 : ∀ j, i + 1 ≤ j → setF T i (if s0 ≤ T i then s0 else T i) j = T0 j := fun j hj => by
              rw [setF_n _ _ (by omega)]; exact hP.1 j (by omega)
            have hle2 : ∀ j, setF T i (if s0 ≤ T i then s0 else T i) j ≤ T0 j := fun j => by
              by_cases e : j = i
              · subst e; rw [setF_s]; have := hP.2.1 j; split <;> omega
              · rw [setF_n _ _ e]; exact hP.2.1 j
            refine w_X12_findChase_155 tz ⟨fun hx => w_X12_findChase_170 tz (w_X12_findChase_175 tz ⟨z_in (by omega) (by omega), w_X12_lesser ⟨z_in (by omega) (by omega), ?_⟩⟩), fun hx => ⟨z_in (by omega) (by omega), z_in (by omega) (by omega), w_X12_lesser ⟨z_in (by omega) (by omega), ?_⟩⟩⟩
            · rw [z_cl (by omega), w2_19, gi, emin, w2_u19, nI_1]
              refine nx 1 ⟨hle1, hle2, Or.inr ⟨rfl, ?_⟩⟩
              rcases hP.2.2 with ⟨h1, -, -⟩ | ⟨-, h2⟩
              · exact absurd h1 hx
              · by_cases q : s0 < T i
                · have := hsum q; omega
                · rw [hsame q]; exact h2
            · rw [z_cl (by omega), w2_19, gi, emin, w2_u19, nI_1]
              simp only [q8]
              rcases hP.2.2 with ⟨h1, h2, h3⟩ | ⟨h1, -⟩
              · by_cases q : T i ≤ s0
                · rw [decide_eq_true q]
                  refine nx 0 ⟨hle1, hle2, Or.inl ⟨rfl, (hsame (by omega)).trans h2, fun j hj ho hpos => ?_⟩⟩
                  by_cases e : j = i
                  · subst e
                    rw [← hTT, ← hby ho (by omega)]; exact q
                  · exact h3 j (by omega) ho hpos
                · rw [decide_eq_false q]
                  refine nx 1 ⟨hle1, hle2, Or.inr ⟨rfl, ?_⟩⟩
                  have := hsum (by omega)
                  rw [h2] at this ⊢; exact this
              · rw [hx] at h1; exact absurd h1 (by decide)
          refine w_X12_findChase_103 tz ⟨fun q => absurd q (by rw [e64]; exact nI_ge (by omega) (by omega)), fun _ => ?_⟩
          rw [e27, ed2, ed1, z_le (by omega) (by omega), z_cl (by omega), w2_19, gi]
          have q0 : (nI (T i) ≤ 0) = (T i ≤ 0) := z_le (b := 0) (by omega) (by omega)
          rw [q0]
          have keepv : (okI r i → T i = 0) → c_X12_findChase_149 l (d + 4) kd mr z x1 (nI i) (w2 mi z g a) ml K := by
            intro hno
            refine w_X12_findChase_149 tz ⟨z_in (by omega) (by omega), ?_⟩
            rw [z_cl (by omega), w2_19, gi]
            exact wr (T i) hTi (fun q => by omega) (fun ho hpos => by have := hno ho; omega)
          refine ⟨fun hno => keepv fun ho => by have := ho.2; omega, fun hyes => ⟨z_in (by omega) (by omega), fun hz0 => keepv fun _ => by omega, fun hpos => ?_⟩⟩
          have hok : okI r i := ⟨by omega, by omega⟩
          have hsn := snW_le (r := r) (B := BN r T0) (p := i / 64) (q := i % 64) 5
          refine s_sooner (Bn := BN r T0) tz (Hg g a) O (by rw [w2_20]; exact ha) rfl rfl hok.1 hok.2 (wr _ hsn.1 (fun hlt => ⟨hok, fun hp hq => ?_, fun he => ?_⟩) fun _ _ => rfl)
          · -- what is won is sure
            obtain ⟨w, t, w1, w2', w3⟩ := hsn.2.2 (by omega)
            have hnb := fre5 w2' w1
            obtain ⟨f1, f2⟩ := hnb.lt O hok.1 hp
            obtain ⟨e1, e2, e3⟩ := pr_ok O f1 hok.2
            have eB : BN r T0 (64 * t + i % 64) = if t = i % 64 then 1 else syW r T0 t (i % 64) 5 := by
              unfold BN
              rw [e1, e2]
            rw [eB] at w3
            have hgen : ∀ v, v = snW r (BN r T0) (i / 64) (i % 64) 5 → v < T i → ctC r v (i / 64) (i % 64) := by
              intro v hv hvl
              rw [← hv] at w3
              split at w3
              · rename_i he
                rw [← w3]
                exact ⟨t, hnb, Or.inl he⟩
              · rename_i hne
                have hall := (syW_le (r := r) (T := T0) (p := t) (q := i % 64) v 5).mp (by omega)
                cases v with
                | zero =>
                  have := hall 4 (i % 64) (by omega) (fre4 hq)
                  omega
                | succ v =>
                  refine ⟨t, hnb, Or.inr fun q' hq' => ?_⟩
                  obtain ⟨f3, f4⟩ := hq'.lt O hok.2 hq
                  obtain ⟨e4, e5, e6⟩ := pr_ok O f1 f3
                  obtain ⟨w', w1', w2''⟩ := nb5 hq hq'
                  have h1 := hall w' q' w1' w2''
                  have h2 := hJ0.2.1 (64 * t + q') e6 (by rw [e4]; exact f2) (by rw [e5]; exact f4) (by omega)
                  rw [e4, e5] at h2
                  exact h2.mono (by omega)
            exact hgen _ rfl hlt
          · have := hJ.2.2 i hi4 he; omega
      -- the first pass
      have first : ∀ (m i : Nat) (a : Nat → Int32), i + m = 64 * cells r → (∀ j, j < i → okI r j → a j = nI (BN r T0 j) - 1) → c_X12_findChase_49 l (d + 4) kd mr z 0 (nI i) (w2 mi z g0 a) ml K := by
        intro m
        induction m with
        | zero =>
          intro i a hi ha
          have : i = 64 * cells r := by omega
          subst this
          refine w_X12_findChase_49 tz ⟨fun _ => second (64 * cells r) 0 0 g0 a T0 (by omega) (fun j hj => ⟨ha j (by have := hj.1; omega) hj, BN_le O hj hT0⟩) hJ0 ⟨fun _ _ => rfl, fun _ => Nat.le_refl _, Or.inl ⟨rfl, rfl, fun j hj => by omega⟩⟩, fun q => absurd (by rw [e64]; exact nI_le (Nat.le_refl _) (by omega)) q⟩
        | succ m ihm =>
          intro i a hi ha
          have hi4 : i < 4096 := by omega
          have ed1 : nI i / 64 = nI (i / 64) := z_div (b := 64) (by omega) (by omega)
          have ed2 : nI i - nI i / 64 * 64 = nI (i % 64) := z_rem (b := 64) (by omega) (by omega)
          have wr : ∀ v : Int32, (okI r i → v = nI (BN r T0 i) - 1) → c_X12_findChase_94 l (d + 4) kd mr z 0 (nI i) v (nI i) (w2 mi z g0 a) ml K := by
            intro v hv
            refine w_X12_findChase_94 tz ⟨z_in (by omega) (by omega), ?_⟩
            rw [z_cl (by omega), w2_u20, nI_1]
            refine ihm (i + 1) _ (by omega) fun j hj ho => ?_
            by_cases e : j = i
            · subst e; rw [setF_s]; exact hv ho
            · rw [setF_n _ _ e]; exact ha j (by omega) ho
          refine w_X12_findChase_49 tz ⟨fun q => absurd q (by rw [e64]; exact nI_ge (by omega) (by omega)), fun _ => ?_⟩
          rw [e27, ed2, ed1, z_le (by omega) (by omega)]
          refine ⟨fun hno => wr _ fun ho => by have := ho.2; omega, fun hyes => s_stay (Tn := T0) tz (Hg g0 a) O (by rw [w2_19]; exact hJ0.1) rfl rfl (by omega) (by omega) fun v hv => wr v fun _ => ?_⟩
          rw [hv, show 64 * (i / 64) + i % 64 = i by omega]
      exact first (64 * cells r) 0 a0 (by omega) (fun j hj => by omega)
  have init : ∀ (m i : Nat) (g : Nat → Int32), i + m = 4096 → (∀ j, j < i → g j = nI (if j / 64 = j % 64 then 0 else 1000000)) → c_X12_findChase_2 l (d + 4) kd mr z (nI i) (w2 mi z g (mi (z + 20))) ml K := by
    intro m
    induction m with
    | zero =>
      intro i g hi hg
      have : i = 4096 := by omega
      subst this
      refine w_X12_findChase_2 tz ⟨fun _ => outer (cSum (fun j => if j / 64 = j % 64 then 0 else 1000000) 4096 + 1) g _ (fun j => if j / 64 = j % 64 then 0 else 1000000) (by omega) ⟨fun j hj => ⟨hg j hj, ?_⟩, fun j hj _ _ hlt => ?_, fun j hj q => if_pos q⟩, fun q => absurd (nI_le (Nat.le_refl 4096) (by omega)) q⟩
      · dsimp only; split <;> omega
      · by_cases q : j / 64 = j % 64
        · simp only [if_pos q]; exact q
        · simp only [if_neg q] at hlt; omega
    | succ m ihm =>
      intro i g hi hg
      refine w_X12_findChase_2 tz ⟨fun q => absurd q (nI_ge (b := 4096) (by omega) (by omega)), fun _ => ⟨z_in (by omega) (by omega), ?_⟩⟩
      have e1 : nI i / 64 = nI (i / 64) := z_div (b := 64) (by omega) (by omega)
      have e2 : nI i - nI i / 64 * 64 = nI (i % 64) := z_rem (b := 64) (by omega) (by omega)
      rw [z_cl (by omega), w2_u19, nI_1, e2, e1]
      refine ihm (i + 1) _ (by omega) (fun j hj => ?_)
      have e : (if nI (i / 64) = nI (i % 64) then (0 : Int32) else 1000000) = nI (if i / 64 = i % 64 then 0 else 1000000) := by
        have q : (nI (i / 64) = nI (i % 64)) = (i / 64 = i % 64) := z_eq (by omega) (by omega)
        simp only [q]
        split <;> rfl
      rw [e]
      by_cases q : j = i
      · subst q; rw [setF_s]
      · rw [setF_n _ _ q]; exact hg j (by omega)
  have := init 4096 0 (mi (z + 19)) (by omega) (fun j hj => by omega)
  rw [w2_self] at this
  exact w_X12_findChase tz this
end CHF
