/-! sets of cells; steps -/
def cS (r : Nat → Int32) (z : Int64) (P : Nat → Prop) : Prop := ∀ s, s < 64 → (bl z s = true ↔ inS r s ∧ P (ceS r s))
noncomputable def pb (p : Prop) : Bool := @decide p (Classical.propDecidable p)
theorem pb_iff {p : Prop} : pb p = true ↔ p := @decide_eq_true_iff p (Classical.propDecidable p)
theorem pb_congr {p q : Prop} (h : p ↔ q) : pb p = pb q := by rw [propext h]
theorem cnt_mono {P Q : Nat → Bool} {n : Nat} (h : ∀ i, i < n → P i = true → Q i = true) : cnt P n ≤ cnt Q n := by
  induction n with
  | zero => exact Nat.le_refl _
  | succ n ih =>
    have h1 := ih fun i hi => h i (by omega)
    unfold cnt
    by_cases hp : P n = true
    · rw [if_pos hp, if_pos (h n (by omega) hp)]; omega
    · rw [if_neg hp]; omega
theorem cnt_slt {P Q : Nat → Bool} {n j : Nat} (h : ∀ i, i < n → P i = true → Q i = true) (hj : j < n) (h1 : Q j = true) (h2 : ¬ P j = true) : cnt P n < cnt Q n := by
  induction n with
  | zero => omega
  | succ n ih =>
    have hm := cnt_mono (n := n) fun i hi => h i (by omega)
    unfold cnt
    by_cases e : j = n
    · subst e; rw [if_neg h2, if_pos h1]; omega
    · have := ih (fun i hi => h i (by omega)) (by omega)
      by_cases hp : P n = true
      · rw [if_pos hp, if_pos (h n (by omega) hp)]; omega
      · rw [if_neg hp]; omega
/-- sets that grow, and stand once they have stood, stand at last -/
theorem stabC (P : Nat → Nat → Prop) (N : Nat) (hlt : ∀ k c, P k c → c < N) (hmono : ∀ k c, P k c → P (k + 1) c) (hcl : ∀ j, (∀ c, P (j + 1) c → P j c) → ∀ c, P (j + 2) c → P (j + 1) c) {c0 : Nat} (h0 : P 0 c0) : ∃ j, j < N ∧ ∀ k c, P k c → P j c := by
  have key : ∀ k, (∃ j, j < k ∧ ∀ c, P (j + 1) c → P j c) ∨ k + 1 ≤ cnt (fun i => pb (P k i)) N := by
    intro k
    induction k with
    | zero =>
      right
      have := cnt_slt (P := fun _ => false) (Q := fun i => pb (P 0 i)) (n := N) (j := c0) (fun i _ h => by cases h) (hlt 0 c0 h0) (pb_iff.mpr h0) (by decide)
      omega
    | succ k ih =>
      rcases ih with ⟨j, h1, h2⟩ | h
      · exact Or.inl ⟨j, by omega, h2⟩
      · by_cases q : ∀ c, P (k + 1) c → P k c
        · exact Or.inl ⟨k, by omega, q⟩
        · right
          obtain ⟨c, q1⟩ := Classical.not_forall.mp q
          obtain ⟨q2, q3⟩ := Classical.not_imp.mp q1
          have := cnt_slt (P := fun i => pb (P k i)) (Q := fun i => pb (P (k + 1) i)) (n := N) (j := c) (fun i _ h => pb_iff.mpr (hmono k i (pb_iff.mp h))) (hlt _ _ q2) (pb_iff.mpr q2) (fun z => q3 (pb_iff.mp z))
          omega
  rcases key N with ⟨j, h1, h2⟩ | h
  · refine ⟨j, h1, ?_⟩
    have up : ∀ m c, P (j + m + 1) c → P (j + m) c := by
      intro m
      induction m with
      | zero => exact h2
      | succ m ih => exact hcl (j + m) ih
    have dn : ∀ m c, P (j + m) c → P j c := by
      intro m
      induction m with
      | zero => intro c h; exact h
      | succ m ih => intro c h; exact ih c (up m c h)
    have mono : ∀ m k c, P k c → P (k + m) c := by
      intro m
      induction m with
      | zero => intro k c h; exact h
      | succ m ih => intro k c h; exact hmono _ _ (ih k c h)
    intro k c h
    have := mono j k c h
    rw [Nat.add_comm] at this
    exact dn k c this
  · have := cnt_le (fun i => pb (P N i)) N
    omega
/-- come to by at most k steps of g -/
def rN (g : Nat → Nat → Option Nat) (f : Nat) : Nat → Nat → Prop
  | 0 => fun c => c = f
  | k + 1 => fun c => rN g f k c ∨ ∃ c' w, w < 4 ∧ rN g f k c' ∧ g c' w = some c
section RN
variable {g : Nat → Nat → Option Nat} {f k c N : Nat}
theorem rN.up (h : rN g f k c) : rN g f (k + 1) c := Or.inl h
theorem rN.mono {k' : Nat} (h : rN g f k c) (hk : k ≤ k') : rN g f k' c := by
  obtain ⟨m, rfl⟩ := Nat.exists_eq_add_of_le hk
  clear hk
  induction m with
  | zero => exact h
  | succ m ih => exact Or.inl ih
theorem rN.self : rN g f k f := rN.mono (k := 0) rfl (Nat.zero_le _)
theorem rN.step {w t : Nat} (h : rN g f k c) (hw : w < 4) (ht : g c w = some t) : rN g f (k + 1) t := Or.inr ⟨c, w, hw, h, ht⟩
theorem rN.lt (hg : ∀ c w t, c < N → w < 4 → g c w = some t → t < N) (hf : f < N) : ∀ (k c : Nat), rN g f k c → c < N := by
  intro k
  induction k with
  | zero => intro c h; rw [show c = f from h]; exact hf
  | succ k ih =>
    intro c h
    rcases h with h | ⟨c', w, h1, h2, h3⟩
    · exact ih c h
    · exact hg c' w c (ih c' h2) h1 h3
theorem rN.trans {t k' : Nat} (h1 : rN g f k c) (h2 : rN g c k' t) : rN g f (k + k') t := by
  induction k' generalizing t with
  | zero => rw [show t = c from h2]; exact h1
  | succ m ih =>
    rcases h2 with h | ⟨c', w, g1, g2, g3⟩
    · exact Or.inl (ih h)
    · exact Or.inr ⟨c', w, g1, ih g2, g3⟩
theorem rN.stab (hg : ∀ c w t, c < N → w < 4 → g c w = some t → t < N) (hf : f < N) : ∃ j, j < N ∧ ∀ k c, rN g f k c → rN g f j c := by
  refine stabC (fun k c => rN g f k c) N (rN.lt hg hf) (fun k c h => Or.inl h) (fun j hj c h => ?_) (c0 := f) rfl
  rcases h with h | ⟨c', w, g1, g2, g3⟩
  · exact h
  · exact Or.inr ⟨c', w, g1, hj c' g2, g3⟩
theorem rN.least (h : rN g f k c) : ∃ n, rN g f n c ∧ ∀ m, rN g f m c → n ≤ m := by
  induction k with
  | zero => exact ⟨0, h, fun m _ => Nat.zero_le _⟩
  | succ k ih =>
    by_cases q : rN g f k c
    · exact ih q
    · exact ⟨k + 1, h, fun m hm => Nat.lt_of_not_le fun z => q (hm.mono z)⟩
end RN
/-- v tells the fewest steps, -1 if there are none -/
def isSt (r : Nat → Int32) (f t : Nat) (v : Int32) : Prop := (∃ n, v = nI n ∧ n < 64 ∧ rN (fre r) f n t ∧ ∀ m, rN (fre r) f m t → n ≤ m) ∨ (v = -1 ∧ ∀ m, ¬ rN (fre r) f m t)
theorem isSt.uniq {r : Nat → Int32} {f t : Nat} {v v' : Int32} (h1 : isSt r f t v) (h2 : isSt r f t v') : v = v' := by
  rcases h1 with ⟨n, a1, -, a2, a3⟩ | ⟨a1, a2⟩ <;> rcases h2 with ⟨n', b1, -, b2, b3⟩ | ⟨b1, b2⟩
  · rw [a1, b1, Nat.le_antisymm (a3 _ b2) (b3 _ a2)]
  · exact absurd a2 (b2 _)
  · exact absurd b2 (a2 _)
  · rw [a1, b1]
theorem fre_iff {r : Nat → Int32} {c w t : Nat} : fre r c w = some t ↔ nxt r c w = some t ∧ wlC r t = false := by
  unfold fre
  cases nxt r c w with
  | none => exact ⟨fun h => (by cases h), fun h => by cases h.1⟩
  | some t' =>
    dsimp only
    constructor
    · intro h
      split at h
      · cases h
      · rename_i q
        cases h
        exact ⟨rfl, by simpa using q⟩
    · rintro ⟨h1, h2⟩
      cases h1
      rw [if_neg (by rw [h2]; decide)]
theorem fre_lt {r : Nat → Int32} (O : okC r) {c w t : Nat} (hc : c < cells r) (h : fre r c w = some t) : t < cells r := nxt_lt O hc (fre_iff.mp h).1
theorem fre_clo {r : Nat → Int32} (O : okC r) : ∀ c w t, c < cells r → w < 4 → fre r c w = some t → t < cells r := fun _ _ _ hc _ h => fre_lt O hc h
theorem opS_sp {r : Nat → Int32} (O : okC r) {c : Nat} (hc : c < cells r) : opS r (spC r c) = !wlC r c := by
  obtain ⟨g1, g2, g3⟩ := spC_in O hc
  have := opS_iff (r := r) (s := spC r c)
  rw [g2] at this
  cases e : wlC r c with
  | true =>
    cases e2 : opS r (spC r c) with
    | true => have := (this.mp e2).2; rw [e] at this; cases this
    | false => rfl
  | false => exact this.mpr ⟨g1, e⟩
/-- what a spot's cell is to a cell -/
def sI (r : Nat → Int32) : Option Nat → Int32
  | none => -1
  | some t => nI (spC r t)
theorem cS.sp {r : Nat → Int32} {z : Int64} {P : Nat → Prop} (h : cS r z P) (O : okC r) {c : Nat} (hc : c < cells r) : bl z (spC r c) = true ↔ P c := by
  obtain ⟨g1, g2, g3⟩ := spC_in O hc
  rw [h _ g3, g2]
  exact ⟨fun q => q.2, fun q => ⟨g1, q⟩⟩
theorem cS.congr {r : Nat → Int32} {z : Int64} {P Q : Nat → Prop} (h : cS r z P) (e : ∀ c, c < cells r → (P c ↔ Q c)) : cS r z Q := fun s hs => (h s hs).trans ⟨fun q => ⟨q.1, (e _ (ceS_lt q.1)).mp q.2⟩, fun q => ⟨q.1, (e _ (ceS_lt q.1)).mpr q.2⟩⟩
theorem cS.eq {r : Nat → Int32} {z y : Int64} {P Q : Nat → Prop} (h : cS r z P) (h2 : cS r y Q) (e : ∀ c, c < cells r → (P c ↔ Q c)) : z = y := bl_ext fun s hs => by
  have a := (h.congr e) s hs
  have b := h2 s hs
  cases e1 : bl z s <;> cases e2 : bl y s <;> first | rfl | (rw [e1] at a; rw [e2] at b; simp at a b; first | exact absurd b (by simpa using a) | (exact absurd a (by simpa using b)))
theorem cS.ne {r : Nat → Int32} {z y : Int64} {P Q : Nat → Prop} (h : cS r z P) (h2 : cS r y Q) (O : okC r) (e : z = y) {c : Nat} (hc : c < cells r) : P c ↔ Q c := by
  subst e
  exact (h.sp O hc).symm.trans (h2.sp O hc)
theorem cS_open {r : Nat → Int32} {z : Int64} (hz : ∀ s, s < 64 → bl z s = opS r s) : cS r z fun c => wlC r c = false := fun s hs => by rw [hz s hs]; exact opS_iff
theorem mv_cS {r : Nat → Int32} {x : Int64} {P : Nat → Prop} (O : okC r) (hx : cS r x P) {s w : Nat} (hs : inS r s) (hw : w < 4) : mvS (bl x) w s = true ↔ ∃ c, c < cells r ∧ P c ∧ nxt r c w = some (ceS r s) := by
  rw [mv_nxt O (fun s h1 h2 => ((hx s h1).mp h2).1) hs hw]
  constructor
  · rintro ⟨s', h1, h2, h3⟩
    obtain ⟨g1, g2⟩ := (hx s' h1).mp h2
    exact ⟨ceS r s', ceS_lt g1, g2, h3⟩
  · rintro ⟨c, h1, h2, h3⟩
    obtain ⟨g1, g2, g3⟩ := spC_in O h1
    exact ⟨spC r c, g3, (hx.sp O h1).mpr h2, by rw [g2]; exact h3⟩
section STP
variable {l : Launch} {d h o x z T : Nat} {kd : pm_K} {mr : pm_R} {mi : pm_I} {ml : pm_L} {k : Nat} {r : Nat → Int32}
theorem cS_only (O : okC r) {c : Nat} (hc : c < cells r) {y : Int64} (hy : ∀ s, s < 64 → bl y s = decide (s = spC r c)) : cS r y fun c' => c' = c := fun s hs => by
  obtain ⟨g1, g2, g3⟩ := spC_in O hc
  rw [hy s hs, decide_eq_true_eq]
  constructor
  · rintro rfl; exact ⟨g1, g2⟩
  · rintro ⟨h1, h2⟩; rw [← h2, spC_ceS h1]
theorem s_onlyC {c : Nat} {y : Int32} {K : Int64 → pm_I → pm_L → Prop} (O : okC r) (hy : y = nI (spC r c)) (hc : c < cells r) (k9 : ∀ v, cS r v (fun c' => c' = c) → K v mi ml) : wL l M_X11_only d [.int y] kd mr mi ml K := by
  subst hy
  exact s_only rfl (spC_in O hc).2.2 fun v hv => k9 v (cS_only O hc hv)
theorem s_nextSpot {c w : Nat} {y v : Int32} {op : Int64} {K : Int32 → pm_I → pm_L → Prop} (O : okC r) (hz : ∀ s, s < 64 → bl op s = opS r s) (hy : y = nI (spC r c)) (hc : c < cells r) (hv : v = nI w) (hw : w < 4) (k9 : K (sI r (fre r c w)) mi ml) : wI l M_X11_nextSpot (d + 2) [.int y, .int v, .long op] kd mr mi ml K := by
  refine w_X11_nextSpot (s_onlyC O hy hc fun y0 h0 => s_moved hv hw fun m hm => ?_)
  have e : ∀ s, s < 64 → (bl (m &&& op) s = true ↔ inS r s ∧ fre r c w = some (ceS r s)) := by
    intro s hs
    rw [bl_and, Bool.and_eq_true, hm s hs, hz s hs, opS_iff, fre_iff]
    constructor
    · rintro ⟨h1, h2, h3⟩
      obtain ⟨c', -, rfl, h4⟩ := (mv_cS O h0 h2 hw).mp h1
      exact ⟨h2, h4, h3⟩
    · rintro ⟨h1, h2, h3⟩
      exact ⟨(mv_cS O h0 h1 hw).mpr ⟨c, hc, rfl, h2⟩, h1, h3⟩
  refine s_leastOf (fun h0 => ?_) (fun j hj h1 h2 => ?_)
  · cases e2 : fre r c w with
    | none => rw [e2] at k9; exact k9
    | some t =>
      have ht := fre_lt O hc e2
      obtain ⟨g1, g2, g3⟩ := spC_in O ht
      have := (e _ g3).mpr ⟨g1, by rw [g2]; exact e2⟩
      rw [h0, bl_0] at this; cases this
  · obtain ⟨g1, g2⟩ := (e j hj).mp h1
    rw [g2] at k9
    have : sI r (some (ceS r j)) = nI j := by show nI _ = _; rw [spC_ceS g1]
    rw [this] at k9; exact k9
theorem s_grown {P : Nat → Prop} {a op : Int64} {K : Int64 → pm_I → pm_L → Prop} (O : okC r) (hz : ∀ s, s < 64 → bl op s = opS r s) (ha : cS r a P) (k9 : ∀ y, cS r y (fun t => P t ∨ ∃ c w, w < 4 ∧ c < cells r ∧ P c ∧ fre r c w = some t) → K y mi ml) : wL l M_X11_grown (d + 1) [.long a, .long op] kd mr mi ml K := by
  have loop : ∀ (q w : Nat) (y : Int64), w + q = 4 → cS r y (fun t => P t ∨ ∃ c w', w' < w ∧ c < cells r ∧ P c ∧ fre r c w' = some t) → c_X11_grown_6 l (d + 1) kd mr a op y (nI w) mi ml K := by
    intro q
    induction q with
    | zero =>
      intro w y hw hy
      have : w = 4 := by omega
      subst this
      exact w_X11_grown_6 ⟨fun _ => k9 y hy, fun h => absurd (nI_le (Nat.le_refl 4) (by omega)) h⟩
    | succ q ih =>
      intro w y hw hy
      refine w_X11_grown_6 ⟨fun h => absurd h (nI_ge (b := 4) (by omega) (by omega)), fun _ => s_moved rfl (by omega) fun m hm => ?_⟩
      rw [nI_1]
      refine ih (w + 1) _ (by omega) fun s hs => ?_
      rw [bl_or, Bool.or_eq_true, bl_and, Bool.and_eq_true, hy s hs, hm s hs, hz s hs, opS_iff]
      constructor
      · rintro (⟨h1, h2⟩ | ⟨h1, h2, h3⟩)
        · refine ⟨h1, ?_⟩
          rcases h2 with h2 | ⟨c, w', g1, g2, g3, g4⟩
          · exact Or.inl h2
          · exact Or.inr ⟨c, w', by omega, g2, g3, g4⟩
        · obtain ⟨c, g1, g2, g3⟩ := (mv_cS O ha h2 (by omega)).mp h1
          exact ⟨h2, Or.inr ⟨c, w, by omega, g1, g2, fre_iff.mpr ⟨g3, h3⟩⟩⟩
      · rintro ⟨h1, h2⟩
        rcases h2 with h2 | ⟨c, w', g1, g2, g3, g4⟩
        · exact Or.inl ⟨h1, Or.inl h2⟩
        · by_cases e : w' = w
          · subst e
            obtain ⟨g5, g6⟩ := fre_iff.mp g4
            exact Or.inr ⟨(mv_cS O ha h1 (by omega)).mpr ⟨c, g2, g3, g5⟩, h1, g6⟩
          · exact Or.inl ⟨h1, Or.inr ⟨c, w', by omega, g2, g3, g4⟩⟩
  refine w_X11_grown (loop 4 0 a rfl (ha.congr fun c _ => ⟨Or.inl, fun q => ?_⟩))
  rcases q with q | ⟨c, w', g1, -⟩
  · exact q
  · omega
theorem grow_rN {f k : Nat} (O : okC r) (hf : f < cells r) (t : Nat) : (rN (fre r) f k t ∨ ∃ c w, w < 4 ∧ c < cells r ∧ rN (fre r) f k c ∧ fre r c w = some t) ↔ rN (fre r) f (k + 1) t := by
  constructor
  · rintro (h | ⟨c, w, g1, -, g3, g4⟩)
    · exact Or.inl h
    · exact Or.inr ⟨c, w, g1, g3, g4⟩
  · rintro (h | ⟨c, w, g1, g3, g4⟩)
    · exact Or.inl h
    · exact Or.inr ⟨c, w, g1, rN.lt (fre_clo O) hf _ _ g3, g3, g4⟩
theorem s_fewestSteps {F G : Option Nat} {u v : Int32} {op : Int64} {K : Int32 → pm_I → pm_L → Prop} (th : TX8s kd mr h) (O : okC r) (hz : ∀ s, s < 64 → bl op s = opS r s) (hu : u = sI r F) (hv : v = sI r G) (hF : ∀ f, F = some f → f < cells r) (hG : ∀ f, G = some f → f < cells r)
    (k0 : (F = none ∨ G = none ∨ (∃ f, F = some f ∧ wlC r f = true) ∨ ∃ t, G = some t ∧ wlC r t = true) → K (-1) mi ml) (k1 : ∀ f t v, F = some f → G = some t → wlC r f = false → wlC r t = false → isSt r f t v → K v mi ml) : wI l M_X8_fewestSteps (d + 2) [.ref h, .long op, .int u, .int v] kd mr mi ml K := by
  subst hu; subst hv
  have hb := O.w
  cases F with
  | none => exact w_X8_fewestSteps th (s_hasN rfl ⟨fun _ => k0 (Or.inl rfl), fun h => by cases h⟩)
  | some f =>
    have hf := hF f rfl
    obtain ⟨f1, f2, f3⟩ := spC_in O hf
    refine w_X8_fewestSteps th (s_hasX (n := spC r f) rfl f3 ?_)
    rw [hz _ f3, opS_sp O hf]
    refine ⟨fun h => k0 (Or.inr (Or.inr (Or.inl ⟨f, rfl, by simpa using h⟩))), fun hof => ?_⟩
    have hof : wlC r f = false := by simpa using hof
    cases G with
    | none => exact s_hasN rfl ⟨fun h => (by cases h), fun _ => k0 (Or.inr (Or.inl rfl))⟩
    | some t =>
      have ht := hG t rfl
      obtain ⟨t1, t2, t3⟩ := spC_in O ht
      refine s_hasX (n := spC r t) rfl t3 ?_
      rw [hz _ t3, opS_sp O ht]
      refine ⟨fun hot => ?_, fun h => k0 (Or.inr (Or.inr (Or.inr ⟨t, rfl, by simpa using h⟩)))⟩
      have hot : wlC r t = false := by simpa using hot
      refine s_onlyC O rfl hf fun y hy => ?_
      have loop : ∀ (q k : Nat) (y : Int64), k + q = 64 → cS r y (fun c => rN (fre r) f k c) → (∀ m, m < k → ¬ rN (fre r) f m t) → c_X8_fewestSteps_28 l (d + 2) kd mr h op (nI (spC r t)) y (nI k) mi ml K := by
        intro q
        induction q with
        | zero =>
          intro k y hk hy hno
          have : k = 64 := by omega
          subst this
          refine w_X8_fewestSteps_28 th ⟨fun _ => k1 f t _ rfl rfl hof hot (Or.inr ⟨rfl, fun m hm => ?_⟩), fun h => absurd (nI_le (Nat.le_refl 64) (by omega)) h⟩
          obtain ⟨j, g1, g2⟩ := rN.stab (fre_clo O) hf
          exact hno j (by omega) (g2 m t hm)
        | succ q ih =>
          intro k y hk hy hno
          refine w_X8_fewestSteps_28 th ⟨fun h => absurd h (nI_ge (b := 64) (by omega) (by omega)), fun _ => s_hasX rfl t3 ⟨fun h => ?_, fun h => ?_⟩⟩
          · refine s_grown O hz hy fun y2 hy2 => ?_
            rw [nI_1]
            refine ih (k + 1) y2 (by omega) (hy2.congr fun c _ => grow_rN O hf c) fun m hm hr => ?_
            by_cases e : m = k
            · subst e
              rw [(hy.sp O ht).mpr hr] at h; cases h
            · exact hno m (by omega) hr
          · exact k1 f t _ rfl rfl hof hot (Or.inl ⟨k, rfl, by omega, (hy.sp O ht).mp h, fun m hm => Nat.le_of_not_lt fun z => hno m z hm⟩)
      exact loop 64 0 y rfl hy (fun m hm => by omega)
/-- the counts so far: none is too low -/
def fJ (r : Nat → Int32) (f : Nat) (g : Nat → Int32) (a : Nat → Nat) : Prop := a f = 0 ∧ ∀ c, c < cells r → g c = nI (a c) ∧ a c ≤ 1000000 ∧ (a c < 1000000 → rN (fre r) f (a c) c)
def fRel (r : Nat → Int32) (a : Nat → Nat) (c w : Nat) : Prop := ∀ t, fre r c w = some t → a t ≤ a c + 1
def fSw (r : Nat → Int32) (f : Nat) (a0 a : Nat → Nat) (g0 g : Nat → Int32) (x2 : Int32) (c w : Nat) : Prop := fJ r f g a ∧ ((x2 = 0 ∧ a = a0 ∧ g = g0 ∧ (∀ c', c' < c → ∀ w', w' < 4 → fRel r a c' w') ∧ (∀ w', w' < w → fRel r a c w')) ∨ (x2 = 1 ∧ cSum a (cells r) < cSum a0 (cells r)))
theorem s_findSoon {f : Nat} {y : Int32} {K : pm_I → pm_L → Prop} (th : TX12s kd mr h) (H : Hd mi h k r) (O : okC r) (hy : y = nI f) (hf : f < cells r)
    (k9 : ∀ (g : Nat → Int32) (a : Nat → Nat), (∀ c, c < cells r → g c = nI (a c) ∧ a c ≤ 1000000 ∧ (a c < 1000000 → rN (fre r) f (a c) c) ∧ ∀ k, rN (fre r) f k c → a c ≤ k) → K (pm_ur mi (h + 23) g) ml) : wV l M_X12_findSoon (d + 3) [.ref h, .int y] kd mr mi ml K := by
  subst hy
  obtain ⟨w1, w2, w3, w4, w5, w6⟩ := O.w
  have Hg : ∀ g, Hd (pm_ur mi (h + 23) g) h k r := fun g => H.ur (by omega) (by omega)
  have e27 : ∀ g, pm_ur mi (h + 23) g h 27 = nI (cells r) := fun g => (Hg g).2.2.2.1
  have eg : ∀ g, pm_ur mi (h + 23) g (h + 23) = g := fun g => pm_ur_s _ _ _
  have outer : ∀ (n : Nat) (g : Nat → Int32) (a : Nat → Nat), cSum a (cells r) < n → fJ r f g a → c_X12_findSoon_36 l (d + 3) kd mr h 1 (pm_ur mi (h + 23) g) ml K := by
    intro n
    induction n with
    | zero => intro g a hn; omega
    | succ n ih =>
      intro g0 a0 hn hJ0
      refine w_X12_findSoon_36 th ⟨fun z => absurd z (by decide), fun _ => ?_⟩
      have fin : ∀ (x2 : Int32) (g : Nat → Int32) (a : Nat → Nat), fSw r f a0 a g0 g x2 (cells r) 0 → c_X12_findSoon_36 l (d + 3) kd mr h x2 (pm_ur mi (h + 23) g) ml K := by
        intro x2 g a hs
        rcases hs with ⟨hJ, ⟨rfl, rfl, rfl, hr, -⟩ | ⟨rfl, hlt⟩⟩
        · refine w_X12_findSoon_36 th ⟨fun _ => k9 g a fun c hc => ⟨(hJ.2 c hc).1, (hJ.2 c hc).2.1, (hJ.2 c hc).2.2, fun k hk => ?_⟩, fun z => absurd rfl z⟩
          clear hc
          induction k generalizing c with
          | zero => rw [show c = f from hk, hJ.1]; exact Nat.le_refl 0
          | succ k ihk =>
            rcases hk with hk | ⟨c', w, q1, q2, q3⟩
            · have := ihk c hk; omega
            · have h1 := ihk c' q2
              have h2 := hr c' (rN.lt (fre_clo O) hf _ _ q2) w q1 c q3
              omega
        · exact ih g a (by omega) hJ
      have cellsL : ∀ (m c : Nat) (x2 : Int32) (g : Nat → Int32) (a : Nat → Nat), c + m = cells r → fSw r f a0 a g0 g x2 c 0 → c_X12_findSoon_44 l (d + 3) kd mr h x2 (nI c) (pm_ur mi (h + 23) g) ml K := by
        intro m
        induction m with
        | zero =>
          intro c x2 g a hc hs
          have : c = cells r := by omega
          subst this
          refine w_X12_findSoon_44 th ⟨fun _ => fin x2 g a hs, fun z => absurd (by rw [e27]; exact nI_le (Nat.le_refl _) (by omega)) z⟩
        | succ m ihm =>
          intro c x2 g a hc hs
          refine w_X12_findSoon_44 th ⟨fun z => absurd z (by rw [e27]; exact nI_ge (by omega) (by omega)), fun _ => ?_⟩
          have ways : ∀ (q w : Nat) (x2 : Int32) (g : Nat → Int32) (a : Nat → Nat), w + q = 4 → fSw r f a0 a g0 g x2 c w → c_X12_findSoon_55 l (d + 3) kd mr h x2 (nI c) (nI w) (pm_ur mi (h + 23) g) ml K := by
            intro q
            induction q with
            | zero =>
              intro w x2 g a hw hs
              have : w = 4 := by omega
              subst this
              refine w_X12_findSoon_55 th ⟨fun _ => ?_, fun z => absurd (nI_le (Nat.le_refl 4) (by omega)) z⟩
              rw [nI_1]
              refine ihm (c + 1) x2 g a (by omega) ⟨hs.1, ?_⟩
              rcases hs.2 with ⟨h1, h2, h3, h4, h5⟩ | hs2
              · refine Or.inl ⟨h1, h2, h3, fun c' hc' w' hw' => ?_, fun w' hw' => by omega⟩
                rcases Nat.lt_or_ge c' c with z | z
                · exact h4 c' z w' hw'
                · have : c' = c := by omega
                  subst this; exact h5 w' hw'
              · exact Or.inr hs2
            | succ q ihq =>
              intro w x2 g a hw hs
              have hc2 : c < cells r := by omega
              refine w_X12_findSoon_55 th ⟨fun z => absurd z (nI_ge (b := 4) (by omega) (by omega)), fun _ => s_free th (Hg g) O rfl rfl hc2 (by omega) ?_⟩
              have skip : (∀ t, fre r c w = some t → a t ≤ a c + 1) → fSw r f a0 a g0 g x2 c (w + 1) := by
                intro hrel
                refine ⟨hs.1, ?_⟩
                rcases hs.2 with ⟨h1, h2, h3, h4, h5⟩ | hs2
                · refine Or.inl ⟨h1, h2, h3, h4, fun w' hw' => ?_⟩
                  rcases Nat.lt_or_ge w' w with z | z
                  · exact h5 w' z
                  · have : w' = w := by omega
                    subst this; exact hrel
                · exact Or.inr hs2
              have on : ∀ (x2 : Int32) (g : Nat → Int32) (a : Nat → Nat), fSw r f a0 a g0 g x2 c (w + 1) → c_X12_findSoon_111 l (d + 3) kd mr h x2 (nI c) (nI w) (pm_ur mi (h + 23) g) ml K := by
                intro x2 g a hs
                refine w_X12_findSoon_111 th ?_
                rw [nI_1]
                exact ihq (w + 1) x2 g a (by omega) hs
              cases hn : fre r c w with
              | none => exact ⟨fun _ => on x2 g a (skip fun t ht => by rw [hn] at ht; cases ht), fun z => absurd rfl z⟩
              | some t =>
                have ht := fre_lt O hc2 hn
                have hne : ¬ nI t = -1 := z_eq1 (by omega)
                obtain ⟨gc, ac, rc⟩ := hs.1.2 c hc2
                obtain ⟨gt, at', rt⟩ := hs.1.2 t ht
                refine ⟨fun z => absurd z hne, fun _ => ⟨z_in (by omega) (by omega), z_in (by omega) (by omega), ?_⟩⟩
                show (pm_ur mi (h + 23) g (h + 23) (nI t).toNatClampNeg ≤ _ → _) ∧ (¬ pm_ur mi (h + 23) g (h + 23) (nI t).toNatClampNeg ≤ _ → _)
                rw [eg, z_cl (by omega), z_cl (by omega), gt, gc, nI_1]
                refine ⟨fun z => on x2 g a (skip fun t' ht' => ?_), fun z => ⟨z_in (by omega) (by omega), z_in (by omega) (by omega), ?_⟩⟩
                · rw [hn] at ht'; cases ht'
                  exact (nI_leI (by omega) (by omega)).mp z
                · have z2 : a c + 1 < a t := by
                    rcases Nat.lt_or_ge (a c + 1) (a t) with q | q
                    · exact q
                    · exact absurd (nI_le q (by omega)) z
                  have ei : (oI (some t)).toNatClampNeg = t := z_cl (by omega)
                  rw [ei, pm_up_ur]
                  have hsum := cSum_up a (j := t) (v := a c + 1) (cells r) ht z2
                  refine on 1 _ (fun i => if i = t then a c + 1 else a i) ⟨⟨?_, fun c' hc' => ?_⟩, Or.inr ⟨rfl, ?_⟩⟩
                  · have h0 := hs.1.1
                    by_cases q : f = t
                    · subst q; omega
                    · simp only [if_neg q]; exact h0
                  · by_cases q : c' = t
                    · subst q
                      simp only [if_true]
                      exact ⟨trivial, by omega, fun _ => (rc (by omega)).step (by omega) hn⟩
                    · simp only [if_neg q]
                      exact hs.1.2 c' hc'
                  · rcases hs.2 with ⟨-, h2, -⟩ | ⟨-, h2⟩
                    · rw [← h2]; exact hsum
                    · omega
          exact ways 4 0 x2 g a rfl ⟨hs.1, by
            rcases hs.2 with ⟨h1, h2, h3, h4, -⟩ | hs2
            · exact Or.inl ⟨h1, h2, h3, h4, fun w' hw' => by omega⟩
            · exact Or.inr hs2⟩
      refine cellsL (cells r) 0 0 g0 a0 (by omega) ⟨hJ0, Or.inl ⟨rfl, rfl, rfl, fun c' hc' => by omega, fun w' hw' => by omega⟩⟩
  have first : ∀ (m c : Nat) (g : Nat → Int32), c + m = cells r → (∀ c', c' < c → g c' = nI (if c' = f then 0 else 1000000)) → c_X12_findSoon_2 l (d + 3) kd mr h (nI f) (nI c) (pm_ur mi (h + 23) g) ml K := by
    intro m
    induction m with
    | zero =>
      intro c g hc hg
      have : c = cells r := by omega
      subst this
      refine w_X12_findSoon_2 th ⟨fun _ => outer (cSum (fun i => if i = f then 0 else 1000000) (cells r) + 1) g (fun i => if i = f then 0 else 1000000) (by omega) ⟨if_pos rfl, fun c hc => ⟨hg c hc, ?_, fun hlt => ?_⟩⟩, fun z => absurd (by rw [e27]; exact nI_le (Nat.le_refl _) (by omega)) z⟩
      · dsimp only; split <;> omega
      · by_cases q : c = f
        · subst q; exact rN.self
        · simp only [if_neg q] at hlt; omega
    | succ m ihm =>
      intro c g hc hg
      refine w_X12_findSoon_2 th ⟨fun z => absurd z (by rw [e27]; exact nI_ge (by omega) (by omega)), fun _ => ⟨z_in (by omega) (by omega), ?_⟩⟩
      rw [z_cl (by omega), pm_up_ur, nI_1]
      refine ihm (c + 1) _ (by omega) (fun c' hc' => ?_)
      have e : (if nI c = nI f then (0 : Int32) else 1000000) = nI (if c = f then 0 else 1000000) := by
        have q : (nI c = nI f) = (c = f) := z_eq (by omega) (by omega)
        simp only [q]
        split <;> rfl
      rw [e]
      by_cases q : c' = c
      · subst q; rw [if_pos rfl]
      · rw [if_neg q]; exact hg c' (by omega)
  have := first (cells r) 0 (mi (h + 23)) (by omega) (fun c' hc' => by omega)
  rw [pm_ur_self] at this
  exact w_X12_findSoon th this
end STP
