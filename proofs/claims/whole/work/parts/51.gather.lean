/-! two marched together: pairs of cells as numbers; the reference's turns -/
noncomputable def mvC (r : Nat → Int32) (Hc : Nat → Prop) (c w : Nat) : Nat := if pb (Hc c) = true then (fre r c w).getD c else c
noncomputable def nxI (r : Nat → Int32) (Hc : Nat → Prop) (i w : Nat) : Nat := 64 * mvC r Hc (i / 64) w + mvC r Hc (i % 64) w
def gI (r : Nat → Int32) (Hc : Nat → Prop) : Nat → Nat → Prop
  | 0 => fun i => i / 64 = i % 64
  | k + 1 => fun i => gI r Hc k i ∨ ∃ w, w < 4 ∧ gI r Hc k (nxI r Hc i w)
def okI (r : Nat → Int32) (i : Nat) : Prop := i / 64 < cells r ∧ i % 64 < cells r
/-- what is answered of a pair -/
def vG (r : Nat → Int32) (Hc : Nat → Prop) (s : Nat) (dir : Bool) (v : Int32) : Prop :=
  ((∀ k, ¬ gI r Hc k s) ∧ v = -1) ∨ ∃ D, gI r Hc D s ∧ (∀ k, gI r Hc k s → D ≤ k) ∧ D < 4096 ∧ ((dir = false ∧ v = nI D) ∨ (dir = true ∧ ((D = 0 ∧ v = -1) ∨ (0 < D ∧ ∃ w, w < 4 ∧ v = nI w ∧ gI r Hc (D - 1) (nxI r Hc s w) ∧ ∀ w', w' < w → ¬ gI r Hc (D - 1) (nxI r Hc s w')))))
theorem vG.uniq {r : Nat → Int32} {Hc : Nat → Prop} {s : Nat} {dir : Bool} {v v' : Int32} (h1 : vG r Hc s dir v) (h2 : vG r Hc s dir v') : v = v' := by
  rcases h1 with ⟨a1, a2⟩ | ⟨D, a1, a2, -, a3⟩ <;> rcases h2 with ⟨b1, b2⟩ | ⟨D', b1, b2, -, b3⟩
  · rw [a2, b2]
  · exact absurd b1 (a1 _)
  · exact absurd a1 (b1 _)
  · have e : D = D' := Nat.le_antisymm (a2 _ b1) (b2 _ a1)
    subst e
    rcases a3 with ⟨c1, c2⟩ | ⟨c1, c2⟩ <;> rcases b3 with ⟨d1, d2⟩ | ⟨d1, d2⟩
    · rw [c2, d2]
    · rw [c1] at d1; cases d1
    · rw [c1] at d1; cases d1
    · rcases c2 with ⟨e1, e2⟩ | ⟨e1, w, e2, e3, e4, e5⟩ <;> rcases d2 with ⟨f1, f2⟩ | ⟨f1, w', f2, f3, f4, f5⟩
      · rw [e2, f2]
      · omega
      · omega
      · have : w = w' := by
          rcases Nat.lt_trichotomy w w' with q | q | q
          · exact absurd e4 (f5 _ q)
          · exact q
          · exact absurd f4 (e5 _ q)
        rw [e3, f3, this]
section GIS
variable {r : Nat → Int32} {Hc : Nat → Prop}
theorem mvC_lt (O : okC r) {c w : Nat} (hc : c < cells r) : mvC r Hc c w < cells r := by
  unfold mvC
  split
  · cases h : fre r c w with
    | none => exact hc
    | some t => exact fre_lt O hc h
  · exact hc
theorem nxI_dm (O : okC r) {i w : Nat} (hi : okI r i) : nxI r Hc i w / 64 = mvC r Hc (i / 64) w ∧ nxI r Hc i w % 64 = mvC r Hc (i % 64) w ∧ okI r (nxI r Hc i w) := by
  have hb := O.w
  have h1 := mvC_lt (Hc := Hc) (w := w) O hi.1
  have h2 := mvC_lt (Hc := Hc) (w := w) O hi.2
  unfold okI nxI
  generalize mvC r Hc (i / 64) w = a at *
  generalize mvC r Hc (i % 64) w = b at *
  have e1 : (64 * a + b) / 64 = a := by omega
  have e2 : (64 * a + b) % 64 = b := by omega
  rw [e1, e2]
  exact ⟨rfl, rfl, h1, h2⟩
theorem okI.lt (O : okC r) {i : Nat} (hi : okI r i) : i < 4096 := by
  have hb := O.w
  unfold okI at hi
  omega
theorem gI.mono {k k' i : Nat} (h : gI r Hc k i) (hk : k ≤ k') : gI r Hc k' i := by
  obtain ⟨m, rfl⟩ := Nat.exists_eq_add_of_le hk
  clear hk
  induction m with
  | zero => exact h
  | succ m ih => exact Or.inl ih
theorem gI.stab (O : okC r) : ∃ j, j < 4096 ∧ ∀ k i, okI r i → gI r Hc k i → gI r Hc j i := by
  have hb := O.w
  obtain ⟨j, h1, h2⟩ := stabC (fun k i => okI r i ∧ gI r Hc k i) 4096 (fun k c h => h.1.lt O) (fun k c h => ⟨h.1, Or.inl h.2⟩) (fun j hj c h => by
    refine ⟨h.1, ?_⟩
    rcases h.2 with g | ⟨w, g1, g2⟩
    · exact g
    · exact Or.inr ⟨w, g1, (hj _ ⟨(nxI_dm O h.1).2.2, g2⟩).2⟩) (c0 := 0) ⟨⟨by show 0 < _; omega, by show 0 < _; omega⟩, show 0 / 64 = 0 % 64 by omega⟩
  exact ⟨j, h1, fun k i hi hg => (h2 k i ⟨hi, hg⟩).2⟩
theorem gI.least {k i : Nat} (h : gI r Hc k i) : ∃ n, n ≤ k ∧ gI r Hc n i ∧ ∀ m, gI r Hc m i → n ≤ m := by
  obtain ⟨n, h1, h2, h3⟩ := least_of (P := fun n => gI r Hc n i) h
  exact ⟨n, h1, h2, fun m hm => Nat.le_of_not_lt fun q => h3 m q hm⟩
end GIS
/-- the turns so far: none is too low -/
def gJ (r : Nat → Int32) (Hc : Nat → Prop) (g : Nat → Int32) (t : Nat → Nat) : Prop := ∀ i, okI r i → g i = nI (t i) ∧ t i ≤ 1000000 ∧ (t i < 1000000 → gI r Hc (t i) i) ∧ (i / 64 = i % 64 → t i = 0)
def gSw (r : Nat → Int32) (Hc : Nat → Prop) (t0 t : Nat → Nat) (g0 g : Nat → Int32) (x3 : Int32) (k w : Nat) : Prop := gJ r Hc g t ∧ ((x3 = 0 ∧ t = t0 ∧ g = g0 ∧ (∀ i, i < k → okI r i → ∀ w', w' < 4 → t i ≤ t (nxI r Hc i w') + 1) ∧ (okI r k → ∀ w', w' < w → t k ≤ t (nxI r Hc k w') + 1)) ∨ (x3 = 1 ∧ cSum t 4096 < cSum t0 4096))
section GAZ
variable {l : Launch} {d h o x z T : Nat} {kd : pm_K} {mr : pm_R} {mi : pm_I} {ml : pm_L} {k : Nat} {r : Nat → Int32} {Hc : Nat → Prop}
theorem s_marched {c w : Nat} {y v : Int32} {hr : Int64} {K : Int32 → pm_I → pm_L → Prop} (tz : TX12s kd mr z) (H : Hd mi z k r) (O : okC r) (hh : cZ r hr Hc) (hy : y = nI c) (hv : v = nI w) (hc : c < cells r) (hw : w < 4) (k9 : K (nI (mvC r Hc c w)) mi ml) : wI l M_X12_marched (d + 3) [.ref z, .int y, .long hr, .int v] kd mr mi ml K := by
  have hb := O.w
  have hbit := hh.at O hc
  refine w_X12_marched tz (s_free tz H O hy hv hc (by omega) ?_)
  cases hn : fre r c w with
  | none =>
    refine ⟨fun _ => ?_, fun q => absurd rfl q⟩
    have : mvC r Hc c w = c := by unfold mvC; rw [hn]; split <;> rfl
    rw [this] at k9
    rw [hy]; exact k9
  | some t =>
    have ht := fre_lt O hc hn
    refine ⟨fun q => absurd q (z_eq1 (by omega)), fun _ => s_isIn hy (by omega) ?_⟩
    have e : (if bl hr c = true then oI (some t) else y) = nI (mvC r Hc c w) := by
      unfold mvC
      by_cases q : Hc c
      · rw [if_pos (hbit.mpr q), if_pos (pb_iff.mpr q), hn]; rfl
      · rw [if_neg (fun q2 => q (hbit.mp q2)), if_neg (fun q2 => q (pb_iff.mp q2)), hy]
    rw [e]; exact k9
theorem s_nextOf {i w : Nat} {y v : Int32} {hr : Int64} {K : Int32 → pm_I → pm_L → Prop} (tz : TX12s kd mr z) (H : Hd mi z k r) (O : okC r) (hh : cZ r hr Hc) (hy : y = nI i) (hv : v = nI w) (hi : okI r i) (hw : w < 4) (k9 : K (nI (nxI r Hc i w)) mi ml) : wI l M_X12_nextOf (d + 4) [.ref z, .int y, .long hr, .int v] kd mr mi ml K := by
  subst hy
  have hlt := hi.lt O
  have e1 : nI i / 64 = nI (i / 64) := z_div (b := 64) (by omega) (by omega)
  have e2 : nI i - nI i / 64 * 64 = nI (i % 64) := z_rem (b := 64) (by omega) (by omega)
  refine w_X12_nextOf tz ?_
  rw [e2, e1]
  refine s_marched tz H O hh rfl hv hi.1 hw (s_marched tz H O hh rfl hv hi.2 hw ?_)
  have e3 : (64 : Int32) * nI (mvC r Hc (i / 64) w) + nI (mvC r Hc (i % 64) w) = nI (nxI r Hc i w) := by
    rw [show (64 : Int32) * nI (mvC r Hc (i / 64) w) = nI (64 * mvC r Hc (i / 64) w) from z_mul 64 _, nI_add]; rfl
  rw [e3]; exact k9
theorem s_findMarches {hr : Int64} {K : pm_I → pm_L → Prop} (tz : TX12s kd mr z) (H : Hd mi z k r) (O : okC r) (hh : cZ r hr Hc)
    (k9 : ∀ (g : Nat → Int32) (t : Nat → Nat), (∀ i, okI r i → g i = nI (t i) ∧ t i ≤ 1000000 ∧ (t i < 1000000 → gI r Hc (t i) i) ∧ ∀ k, gI r Hc k i → t i ≤ k) → K (pm_ur mi (z + 19) g) ml) : wV l M_X12_findMarches (d + 5) [.ref z, .long hr] kd mr mi ml K := by
  have hb := O.w
  have Hg : ∀ g, Hd (pm_ur mi (z + 19) g) z k r := fun g => H.ur (by omega) (by omega)
  have e27 : ∀ g, pm_ur mi (z + 19) g z 27 = nI (cells r) := fun g => (Hg g).2.2.2.1
  have e64 : ∀ g, 64 * pm_ur mi (z + 19) g z 27 = nI (64 * cells r) := fun g => by rw [e27]; exact z_mul 64 _
  have eg : ∀ g, pm_ur mi (z + 19) g (z + 19) = g := fun g => pm_ur_s _ _ _
  have outer : ∀ (n : Nat) (g : Nat → Int32) (t : Nat → Nat), cSum t 4096 < n → gJ r Hc g t → c_X12_findMarches_41 l (d + 5) kd mr z hr 1 (pm_ur mi (z + 19) g) ml K := by
    intro n
    induction n with
    | zero => intro g t hn; omega
    | succ n ih =>
      intro g0 t0 hn hJ0
      refine w_X12_findMarches_41 tz ⟨fun q => absurd q (by decide), fun _ => ?_⟩
      have fin : ∀ (x3 : Int32) (g : Nat → Int32) (t : Nat → Nat), gSw r Hc t0 t g0 g x3 (64 * cells r) 0 → c_X12_findMarches_41 l (d + 5) kd mr z hr x3 (pm_ur mi (z + 19) g) ml K := by
        intro x3 g t hs
        rcases hs with ⟨hJ, ⟨rfl, rfl, rfl, hr2, -⟩ | ⟨rfl, hlt⟩⟩
        · refine w_X12_findMarches_41 tz ⟨fun _ => k9 g t fun i hi => ⟨(hJ i hi).1, (hJ i hi).2.1, (hJ i hi).2.2.1, fun k hk => ?_⟩, fun q => absurd rfl q⟩
          clear k9
          induction k generalizing i with
          | zero => rw [(hJ i hi).2.2.2 hk]; exact Nat.le_refl 0
          | succ k ihk =>
            rcases hk with hk | ⟨w, q1, q2⟩
            · have := ihk i hi hk; omega
            · have h1 := ihk _ (nxI_dm O hi).2.2 q2
              have h2 := hr2 i (by have := hi.1; omega) hi w q1
              omega
        · exact ih g t (by omega) hJ
      have rows : ∀ (m i : Nat) (x3 : Int32) (g : Nat → Int32) (t : Nat → Nat), i + m = 64 * cells r → gSw r Hc t0 t g0 g x3 i 0 → c_X12_findMarches_50 l (d + 5) kd mr z hr x3 (nI i) (pm_ur mi (z + 19) g) ml K := by
        intro m
        induction m with
        | zero =>
          intro i x3 g t hi hs
          have : i = 64 * cells r := by omega
          subst this
          exact w_X12_findMarches_50 tz ⟨fun _ => fin x3 g t hs, fun q => absurd (by rw [e64]; exact nI_le (Nat.le_refl _) (by omega)) q⟩
        | succ m ihm =>
          intro i x3 g t hi hs
          refine w_X12_findMarches_50 tz ⟨fun q => absurd q (by rw [e64]; exact nI_ge (by omega) (by omega)), fun _ => ?_⟩
          have nextRow : ∀ (x3 : Int32) (g : Nat → Int32) (t : Nat → Nat) (w : Nat), (okI r i → w = 4) → gSw r Hc t0 t g0 g x3 i w → c_X12_findMarches_130 l (d + 5) kd mr z hr x3 (nI i) (pm_ur mi (z + 19) g) ml K := by
            intro x3 g t w hw hs
            refine w_X12_findMarches_130 tz ?_
            rw [nI_1]
            refine ihm (i + 1) x3 g t (by omega) ⟨hs.1, ?_⟩
            rcases hs.2 with ⟨h1, h2, h3, h4, h5⟩ | hs2
            · refine Or.inl ⟨h1, h2, h3, fun i' hi' ho w' hw' => ?_, fun _ w' hw' => by omega⟩
              by_cases q : i' = i
              · subst q; exact h5 ho w' (by rw [hw ho]; exact hw')
              · exact h4 i' (by omega) ho w' hw'
            · exact Or.inr hs2
          have ways : ∀ (q w : Nat) (x3 : Int32) (g : Nat → Int32) (t : Nat → Nat), w + q = 4 → gSw r Hc t0 t g0 g x3 i w → c_X12_findMarches_65 l (d + 5) kd mr z hr x3 (nI i) (nI w) (pm_ur mi (z + 19) g) ml K := by
            intro q
            induction q with
            | zero =>
              intro w x3 g t hw hs
              have : w = 4 := by omega
              subst this
              exact w_X12_findMarches_65 tz ⟨fun _ => nextRow x3 g t 4 (fun _ => rfl) hs, fun q => absurd (nI_le (Nat.le_refl 4) (by omega)) q⟩
            | succ q ihq =>
              intro w x3 g t hw hs
              have e2 : nI i - nI i / 64 * 64 = nI (i % 64) := z_rem (b := 64) (by omega) (by omega)
              refine w_X12_findMarches_65 tz ⟨fun q => absurd q (nI_ge (b := 4) (by omega) (by omega)), fun _ => ?_⟩
              rw [e27, e2, z_le (by omega) (by omega)]
              refine ⟨fun hno => nextRow x3 g t w (fun ho => by have := ho.2; omega) hs, fun hyes => ?_⟩
              have hi2 : okI r i := ⟨by omega, by omega⟩
              obtain ⟨n1, n2, hn2⟩ := nxI_dm (Hc := Hc) (w := w) O hi2
              have hnl := hn2.lt O
              have hil := hi2.lt O
              obtain ⟨a1, a2, a3, a4⟩ := hs.1 i hi2
              obtain ⟨b1, b2, b3, b4⟩ := hs.1 _ hn2
              refine s_nextOf tz (Hg g) O hh rfl rfl hi2 (by omega) ⟨z_in (by omega) (by omega), z_in (by omega) (by omega), ?_⟩
              have on : ∀ (x3 : Int32) (g : Nat → Int32) (t : Nat → Nat), gSw r Hc t0 t g0 g x3 i (w + 1) → c_X12_findMarches_124 l (d + 5) kd mr z hr x3 (nI i) (nI w) (pm_ur mi (z + 19) g) ml K := by
                intro x3 g t hs
                refine w_X12_findMarches_124 tz ?_
                rw [nI_1]
                exact ihq (w + 1) x3 g t (by omega) hs
              rw [eg, z_cl (a := i) (by omega), z_cl (by omega), a1, b1, nI_1, z_le (by omega) (by omega)]
              refine ⟨fun hle => on x3 g t ⟨hs.1, ?_⟩, fun hgt => ⟨z_in (by omega) (by omega), ?_⟩⟩
              · rcases hs.2 with ⟨h1, h2, h3, h4, h5⟩ | hs2
                · refine Or.inl ⟨h1, h2, h3, h4, fun ho w' hw' => ?_⟩
                  by_cases q : w' = w
                  · subst q; exact hle
                  · exact h5 ho w' (by omega)
                · exact Or.inr hs2
              · rw [pm_up_ur]
                have hsum := cSum_up t (j := i) (v := t (nxI r Hc i w) + 1) 4096 hil (by omega)
                have hne : ¬ i / 64 = i % 64 := fun q => by have := a4 q; omega
                refine on 1 _ (fun j => if j = i then t (nxI r Hc i w) + 1 else t j) ⟨fun j hj => ?_, Or.inr ⟨rfl, ?_⟩⟩
                · by_cases q : j = i
                  · subst q
                    simp only [if_true]
                    exact ⟨trivial, by omega, fun q => Or.inr ⟨w, by omega, b3 (by omega)⟩, fun q => absurd q hne⟩
                  · simp only [if_neg q]
                    exact hs.1 j hj
                · rcases hs.2 with ⟨-, h2, -⟩ | ⟨-, h2⟩
                  · rw [← h2]; exact hsum
                  · omega
          exact ways 4 0 x3 g t rfl ⟨hs.1, by
            rcases hs.2 with ⟨h1, h2, h3, h4, -⟩ | hs2
            · exact Or.inl ⟨h1, h2, h3, h4, fun _ w' hw' => by omega⟩
            · exact Or.inr hs2⟩
      exact rows (64 * cells r) 0 0 g0 t0 (by omega) ⟨hJ0, Or.inl ⟨rfl, rfl, rfl, fun i hi => by omega, fun _ w' hw' => by omega⟩⟩
  have first : ∀ (m i : Nat) (g : Nat → Int32), i + m = 4096 → (∀ j, j < i → g j = nI (if j / 64 = j % 64 then 0 else 1000000)) → c_X12_findMarches_2 l (d + 5) kd mr z hr (nI i) (pm_ur mi (z + 19) g) ml K := by
    intro m
    induction m with
    | zero =>
      intro i g hi hg
      have : i = 4096 := by omega
      subst this
      refine w_X12_findMarches_2 tz ⟨fun _ => outer (cSum (fun j => if j / 64 = j % 64 then 0 else 1000000) 4096 + 1) g (fun j => if j / 64 = j % 64 then 0 else 1000000) (by omega) fun j hj => ⟨hg j (hj.lt O), ?_, fun hlt => ?_, fun q => if_pos q⟩, fun q => absurd (nI_le (Nat.le_refl 4096) (by omega)) q⟩
      · dsimp only; split <;> omega
      · by_cases q : j / 64 = j % 64
        · simp only [if_pos q]; exact q
        · simp only [if_neg q] at hlt; omega
    | succ m ihm =>
      intro i g hi hg
      refine w_X12_findMarches_2 tz ⟨fun q => absurd q (nI_ge (b := 4096) (by omega) (by omega)), fun _ => ⟨z_in (by omega) (by omega), ?_⟩⟩
      have e1 : nI i / 64 = nI (i / 64) := z_div (b := 64) (by omega) (by omega)
      have e2 : nI i - nI i / 64 * 64 = nI (i % 64) := z_rem (b := 64) (by omega) (by omega)
      rw [z_cl (by omega), pm_up_ur, nI_1, e2, e1]
      refine ihm (i + 1) _ (by omega) (fun j hj => ?_)
      have e : (if nI (i / 64) = nI (i % 64) then (0 : Int32) else 1000000) = nI (if i / 64 = i % 64 then 0 else 1000000) := by
        have q : (nI (i / 64) = nI (i % 64)) = (i / 64 = i % 64) := z_eq (by omega) (by omega)
        simp only [q]
        split <;> rfl
      rw [e]
      by_cases q : j = i
      · subst q; rw [if_pos rfl]
      · rw [if_neg q]; exact hg j (by omega)
  have := first 4096 0 (mi (z + 19)) (by omega) (fun j hj => by omega)
  rw [pm_ur_self] at this
  exact w_X12_findMarches tz this
end GAZ
