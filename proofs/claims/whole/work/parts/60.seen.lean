/-! seen: lists of the sets; the class -/
theorem fl_cnt (P : Nat → Bool) (n : Nat) : (fl P n).length = cnt P n := by
  induction n with
  | zero => rfl
  | succ n ih =>
    unfold fl cnt
    split
    · rw [List.length_append, ih]; rfl
    · exact ih
theorem getD_l {L : List Nat} {n i : Nat} (h : i < L.length) : (L ++ [n]).getD i 0 = L.getD i 0 := by
  rw [List.getD_eq_getElem?_getD, List.getElem?_append_left h, ← List.getD_eq_getElem?_getD]
theorem getD_r {L : List Nat} {n : Nat} : (L ++ [n]).getD L.length 0 = n := by
  rw [List.getD_eq_getElem?_getD, List.getElem?_append_right (Nat.le_refl _)]
  simp
/-- the one before which there are i stands at i -/
theorem fl_rank {P : Nat → Bool} {s : Nat} (h1 : P s = true) : ∀ n, s < n → (fl P n).getD (cnt P s) 0 = s := by
  intro n
  induction n with
  | zero => intro h; omega
  | succ n ih =>
    intro h
    unfold fl
    by_cases e : s = n
    · subst e
      rw [if_pos h1, ← fl_cnt]; exact getD_r
    · split
      · rw [getD_l]
        · exact ih (by omega)
        · rw [fl_cnt]
          exact cnt_lt h1 n (by omega)
      · exact ih (by omega)
where
  cnt_lt {P : Nat → Bool} {s : Nat} (h1 : P s = true) : ∀ n, s < n → cnt P s < cnt P n := by
    intro n
    induction n with
    | zero => intro h; omega
    | succ n ih =>
      intro h
      have e1 : cnt P (n + 1) = cnt P n + if P n = true then 1 else 0 := rfl
      by_cases e : s = n
      · subst e; rw [e1, if_pos h1]; omega
      · have := ih (by omega); rw [e1]; omega
theorem cnt_up {P : Nat → Bool} {s : Nat} (h1 : P s = true) {n : Nat} (h : s < n) : cnt P s < cnt P n := fl_rank.cnt_lt h1 n h
theorem cnt_at {P : Nat → Bool} : ∀ n i, i < cnt P n → ∃ s, s < n ∧ P s = true ∧ cnt P s = i := by
  intro n
  induction n with
  | zero => intro i h; unfold cnt at h; omega
  | succ n ih =>
    intro i h
    have e1 : cnt P (n + 1) = cnt P n + if P n = true then 1 else 0 := rfl
    by_cases q : i < cnt P n
    · obtain ⟨s, g1, g2⟩ := ih i q
      exact ⟨s, by omega, g2⟩
    · by_cases hp : P n = true
      · rw [e1, if_pos hp] at h
        exact ⟨n, by omega, hp, by omega⟩
      · rw [e1, if_neg hp] at h
        omega
theorem cnt_fl (P Q : Nat → Bool) (n : Nat) : cnt (fun k => Q ((fl P n).getD k 0)) (fl P n).length = cnt (fun s => P s && Q s) n := by
  induction n with
  | zero => rfl
  | succ n ih =>
    have e1 : cnt (fun s => P s && Q s) (n + 1) = cnt (fun s => P s && Q s) n + if (P n && Q n) = true then 1 else 0 := rfl
    rw [e1, ← ih]
    by_cases hp : P n = true
    · have e2 : fl P (n + 1) = fl P n ++ [n] := if_pos hp
      rw [e2, List.length_append, hp, Bool.true_and]
      have e3 : cnt (fun k => Q ((fl P n ++ [n]).getD k 0)) ((fl P n).length + 1) = cnt (fun k => Q ((fl P n ++ [n]).getD k 0)) (fl P n).length + if Q ((fl P n ++ [n]).getD (fl P n).length 0) = true then 1 else 0 := rfl
      show cnt _ ((fl P n).length + 1) = _
      rw [e3, getD_r]
      congr 1
      exact cnt_congr fun i hi => by rw [getD_l hi]
    · have e2 : fl P (n + 1) = fl P n := if_neg hp
      have : P n = false := by simpa using hp
      rw [e2, this, Bool.false_and]; rfl
theorem andL_l (f : Int32 → Int32) (L : List Nat) (n : Nat) (c : Int32) : ∀ i, i ≤ L.length → andL f (L ++ [n]) c i = andL f L c i := by
  intro i
  induction i with
  | zero => intro _; rfl
  | succ i ih =>
    intro h
    unfold andL
    rw [ih (by omega), getD_l (by omega)]
theorem andL_s (f : Int32 → Int32) (L : List Nat) (n : Nat) (c : Int32) : andL f (L ++ [n]) c (L ++ [n]).length = andL f L c L.length &&& f (nI n) := by
  rw [List.length_append]
  show andL f (L ++ [n]) c L.length &&& f (nI ((L ++ [n]).getD L.length 0)) = _
  rw [andL_l f L n c _ (Nat.le_refl _), getD_r]
/-- c is the first of those with the least, below n -/
def fmn (g : Nat → Nat) (n c : Nat) : Prop := c < n ∧ (∀ i, i < n → g c ≤ g i) ∧ ∀ i, i < c → g c < g i
theorem fmn.uniq {g : Nat → Nat} {n c c' : Nat} (h1 : fmn g n c) (h2 : fmn g n c') : c = c' := by
  rcases Nat.lt_trichotomy c c' with q | q | q
  · have := h2.2.2 c q; have := h1.2.1 c' h2.1; omega
  · exact q
  · have := h1.2.2 c' q; have := h2.2.1 c h1.1; omega
theorem fmn.step {g : Nat → Nat} {n c : Nat} (h : fmn g n c) : fmn g (n + 1) (if g n < g c then n else c) := by
  split
  · rename_i q
    refine ⟨by omega, fun i hi => ?_, fun i hi => ?_⟩
    · by_cases e : i = n
      · subst e; exact Nat.le_refl _
      · have := h.2.1 i (by omega); omega
    · have := h.2.1 i hi; omega
  · rename_i q
    refine ⟨by have := h.1; omega, fun i hi => ?_, h.2.2⟩
    by_cases e : i = n
    · subst e; omega
    · exact h.2.1 i (by omega)
theorem fmn.one (g : Nat → Nat) : fmn g 1 0 := by
  refine ⟨by omega, fun i hi => ?_, fun i hi => by omega⟩
  have : i = 0 := by omega
  subst this
  exact Nat.le_refl _
/-- the facts of a sighting -/
def fx (q : Nat → Int32) (i : Nat) : Nat := gN q (2 + 3 * i)
def fy (q : Nat → Int32) (i : Nat) : Nat := gN q (3 + 3 * i)
theorem okS.at {q : Nat → Int32} (N : okS q) {i : Nat} (hi : i < gN q 0) : fx q i < 8 ∧ fy q i < 8 ∧ q (2 + 3 * i) = nI (fx q i) ∧ q (3 + 3 * i) = nI (fy q i) ∧ (q (1 + 3 * i) = nI 0 ∨ q (1 + 3 * i) = nI 1) := by
  obtain ⟨a, b, c, h1, h2, h3, h4, h5, h6⟩ := N.2 i hi
  have e1 : fx q i = b := by show (q (2 + 3 * i)).toNatClampNeg = b; rw [h5, z_cl (by omega)]
  have e2 : fy q i = c := by show (q (3 + 3 * i)).toNatClampNeg = c; rw [h6, z_cl (by omega)]
  rw [e1, e2]
  refine ⟨h2, h3, h5, h6, ?_⟩
  rcases (show a = 0 ∨ a = 1 by omega) with rfl | rfl
  · exact Or.inl h4
  · exact Or.inr h4
def hoP (r q : Nat → Int32) : Prop := ∀ i, i < gN q 0 → fx q i < gN r 0 ∧ fy q i < gN r 1
/-- the players of S are seen -/
def snP (r q : Nat → Int32) (S : Nat) : Prop := ∀ i, i < gN q 0 → (q (1 + 3 * i) = 1 ↔ hb r S (clC r (fx q i) (fy q i)))
noncomputable def snB (r q : Nat → Int32) (S : Nat) : Bool := pb (snP r q S)
noncomputable def snL (r q : Nat → Int32) : List Nat := fl (snB r q) (2 ^ gN r 3)
/-- in how many of them c is loud; the greater part -/
noncomputable def ldN (r q : Nat → Int32) (c : Nat) : Nat := cnt (fun S => snB r q S && pb (hb r S c)) (2 ^ gN r 3)
noncomputable def ldG (r q : Nat → Int32) (c : Nat) : Nat := mx (ldN r q c) ((snL r q).length - ldN r q c)
theorem snL_le {r : Nat → Int32} (O : okC r) (q : Nat → Int32) : (snL r q).length ≤ 64 := Nat.le_trans (fl_len _ _) (pw_le O.2.2.2.2.1).1
theorem ldN_le (r q : Nat → Int32) (c : Nat) : ldN r q c ≤ (snL r q).length := by
  unfold snL ldN
  rw [fl_cnt]
  exact cnt_mono fun i _ h => by rw [Bool.and_eq_true] at h; exact h.1
theorem ldG_le (r q : Nat → Int32) (c : Nat) : ldG r q c ≤ (snL r q).length := by
  have := ldN_le r q c
  unfold ldG mx; split <;> omega
def vSeen (r q : Nat → Int32) (w v : Int32) : Prop :=
  (w = 0 → v = nI (snL r q).length) ∧
  (w = 1 → (snL r q).length = 0 → v = -1) ∧
  (w = 1 → ¬ (snL r q).length = 0 → v = andL id (snL r q) (nI (2 ^ gN r 3 - 1)) (snL r q).length) ∧
  (w = 2 → (snL r q).length = 0 → v = -1) ∧
  (w = 2 → ¬ (snL r q).length = 0 → ∃ c, fmn (ldG r q) (cells r) c ∧ v = nI c) ∧
  (∀ i, i < (snL r q).length → w = nI (10 + i) → v = nI ((snL r q).getD i 0)) ∧
  (¬ w = 0 → ¬ w = 1 → ¬ w = 2 → (∀ i, i < (snL r q).length → ¬ w = nI (10 + i)) → v = -2)
theorem vSeen.uniq {r q : Nat → Int32} {w v v' : Int32} (h1 : vSeen r q w v) (h2 : vSeen r q w v') : v = v' := by
  obtain ⟨a1, a2, a3, a4, a5, a6, a7⟩ := h1
  obtain ⟨b1, b2, b3, b4, b5, b6, b7⟩ := h2
  by_cases w0 : w = 0
  · rw [a1 w0, b1 w0]
  · by_cases w1 : w = 1
    · by_cases e : (snL r q).length = 0
      · rw [a2 w1 e, b2 w1 e]
      · rw [a3 w1 e, b3 w1 e]
    · by_cases w2 : w = 2
      · by_cases e : (snL r q).length = 0
        · rw [a4 w2 e, b4 w2 e]
        · obtain ⟨c, c1, c2⟩ := a5 w2 e
          obtain ⟨c', c1', c2'⟩ := b5 w2 e
          rw [c2, c2', c1.uniq c1']
      · by_cases w3 : ∃ i, i < (snL r q).length ∧ w = nI (10 + i)
        · obtain ⟨i, i1, i2⟩ := w3
          rw [a6 i i1 i2, b6 i i1 i2]
        · have : ∀ i, i < (snL r q).length → ¬ w = nI (10 + i) := fun i i1 i2 => w3 ⟨i, i1, i2⟩
          rw [a7 w0 w1 w2 this, b7 w0 w1 w2 this]
theorem nI_10 {i j : Nat} (hi : i ≤ 64) (hj : j < 10) : ¬ nI j = nI (10 + i) := by
  rw [z_eq (by omega) (by omega)]; omega
section VS
variable {r q : Nat → Int32} {w v : Int32}
theorem vSeen.k0 (O : okC r) (hw : w = 0) (hv : v = nI (snL r q).length) : vSeen r q w v := by
  have hL := snL_le O q
  subst hw
  exact ⟨fun _ => hv, fun e => absurd e (by decide), fun e => absurd e (by decide), fun e => absurd e (by decide), fun e => absurd e (by decide), fun i i1 e => absurd e (nI_10 (j := 0) (by omega) (by omega)), fun e => absurd rfl e⟩
theorem vSeen.k1 (O : okC r) (hw : w = 1) (h0 : (snL r q).length = 0 → v = -1) (h1 : ¬ (snL r q).length = 0 → v = andL id (snL r q) (nI (2 ^ gN r 3 - 1)) (snL r q).length) : vSeen r q w v := by
  have hL := snL_le O q
  subst hw
  exact ⟨fun e => absurd e (by decide), fun _ => h0, fun _ => h1, fun e => absurd e (by decide), fun e => absurd e (by decide), fun i i1 e => absurd e (nI_10 (j := 1) (by omega) (by omega)), fun _ e => absurd rfl e⟩
theorem vSeen.k2 (O : okC r) (hw : w = 2) (h0 : (snL r q).length = 0 → v = -1) (h1 : ¬ (snL r q).length = 0 → ∃ c, fmn (ldG r q) (cells r) c ∧ v = nI c) : vSeen r q w v := by
  have hL := snL_le O q
  subst hw
  exact ⟨fun e => absurd e (by decide), fun e => absurd e (by decide), fun e => absurd e (by decide), fun _ => h0, fun _ => h1, fun i i1 e => absurd e (nI_10 (j := 2) (by omega) (by omega)), fun _ _ e => absurd rfl e⟩
theorem vSeen.k3 (O : okC r) {i : Nat} (hi : i < (snL r q).length) (hw : w = nI (10 + i)) (hv : v = nI ((snL r q).getD i 0)) : vSeen r q w v := by
  have hL := snL_le O q
  have ne : ∀ j, j < 10 → ¬ w = nI j := fun j hj e => nI_10 (i := i) (by omega) hj (e.symm.trans hw)
  refine ⟨fun e => absurd e (ne 0 (by omega)), fun e => absurd e (ne 1 (by omega)), fun e => absurd e (ne 1 (by omega)), fun e => absurd e (ne 2 (by omega)), fun e => absurd e (ne 2 (by omega)), fun i' i1 e => ?_, fun _ _ _ e => absurd hw (e i hi)⟩
  rw [hw, z_eq (by omega) (by omega)] at e
  have : i' = i := by omega
  rw [this]; exact hv
theorem vSeen.k4 (h0 : ¬ w = 0) (h1 : ¬ w = 1) (h2 : ¬ w = 2) (h3 : ∀ i, i < (snL r q).length → ¬ w = nI (10 + i)) (hv : v = -2) : vSeen r q w v :=
  ⟨fun e => absurd e h0, fun e => absurd e h1, fun e => absurd e h1, fun e => absurd e h2, fun e => absurd e h2, fun i i1 e => absurd e (h3 i i1), fun _ _ _ _ => hv⟩
end VS
theorem and_zero (A S : Nat) : A &&& S = 0 ↔ ∀ i, (A.testBit i && S.testBit i) = false := by
  constructor
  · intro h i
    rw [← Nat.testBit_and, h, Nat.zero_testBit]
  · intro h
    apply Nat.eq_of_testBit_eq
    intro i
    rw [Nat.testBit_and, h i, Nat.zero_testBit]
theorem hmS_and {r : Nat → Int32} {s S : Nat} (hs : inS r s) : ¬ hmS r s &&& S = 0 ↔ hb r S (ceS r s) := by
  rw [and_zero]
  constructor
  · intro h
    refine Classical.byContradiction fun q => h fun i => ?_
    unfold hmS
    rw [mkm_bit]
    cases e : (decide (i < gN r 3) && pb (inS r s ∧ hrC r i (ceS r s)) && S.testBit i) with
    | false => rfl
    | true =>
      rw [Bool.and_eq_true, Bool.and_eq_true, decide_eq_true_eq] at e
      exact absurd ⟨i, e.1.1, e.2, (pb_iff.mp e.1.2).2⟩ q
  · rintro ⟨p, h1, h2, h3⟩ h
    have := h p
    unfold hmS at this
    rw [mkm_bit, decide_eq_true h1, pb_iff.mpr ⟨hs, h3⟩, h2] at this
    cases this
section SEEN
variable {l : Launch} {d h o o2 x z T : Nat} {kd : pm_K} {mr : pm_R} {mi : pm_I} {ml : pm_L} {k ms : Nat} {r q : Nat → Int32}
theorem s_spotRow {i : Nat} {u : Int32} {K : Int32 → pm_I → pm_L → Prop} (to2 : TX6s kd mr o2) (R : RR mi o2 0 q) (N : okS q) (hu : u = nI i) (hi : i < gN q 0) (k9 : K (nI (8 * fy q i + fx q i)) mi ml) : wI l M_X6_spotAtRow (d + 1) [.ref o2, .int u] kd mr mi ml K := by
  subst hu
  obtain ⟨n1, n2, n3⟩ := R.n
  obtain ⟨a1, a2, a3, a4, -⟩ := N.at hi
  obtain ⟨n, hn, -, g2, g3⟩ := R
  have hn' : i < n := by
    have : gN q 0 = n := by show (q 0).toNatClampNeg = n; rw [g2, z_cl (by omega)]
    omega
  obtain ⟨-, h2, h3⟩ := g3 i hn'
  have e1 : mi (o2 + 2) i = nI (fx q i) := by rw [h2, show 0 + 1 + 3 * i + 1 = 2 + 3 * i by omega]; exact a3
  have e2 : mi (o2 + 3) i = nI (fy q i) := by rw [h3, show 0 + 1 + 3 * i + 2 = 3 + 3 * i by omega]; exact a4
  refine w_X6_spotAtRow to2 ⟨z_in (by omega) (by omega), z_in (by omega) (by omega), w_X11_spotAt ?_⟩
  rw [z_cl (by omega), e1, e2]
  have : (8 : Int32) * nI (fy q i) + nI (fx q i) = nI (8 * fy q i + fx q i) := by rw [show (8 : Int32) * nI (fy q i) = nI (8 * fy q i) from z_mul 8 _, nI_add]
  rw [this]; exact k9
theorem s_holds {K : Bool → pm_I → pm_L → Prop} (to : TX0s kd mr o) (to2 : TX6s kd mr o2) (C : CC mi ml o r) (O : okC r) (R : RR mi o2 0 q) (N : okS q) (k0 : ¬ hoP r q → K false mi ml) (k1 : hoP r q → K true mi ml) : wB l M_X0_holds (d + 2) [.ref o, .ref o2] kd mr mi ml K := by
  obtain ⟨n1, n2, n3⟩ := R.n
  refine w_X0_holds to to2 (s_inside to C O fun ins hins => ?_)
  have loop : ∀ (u i : Nat), i + u = gN q 0 → (∀ j, j < i → fx q j < gN r 0 ∧ fy q j < gN r 1) → c_X0_holds_8 l (d + 2) kd mr o o2 ins (nI i) mi ml K := by
    intro u
    induction u with
    | zero =>
      intro i hi hj
      have : i = gN q 0 := by omega
      subst this
      exact w_X0_holds_8 to to2 ⟨fun _ => k1 hj, fun h => absurd (by rw [n1]; exact nI_le (Nat.le_refl _) (by omega)) h⟩
    | succ u ih =>
      intro i hi hj
      have hi2 : i < gN q 0 := by omega
      obtain ⟨a1, a2, -⟩ := N.at hi2
      refine w_X0_holds_8 to to2 ⟨fun h => absurd h (by rw [n1]; exact nI_ge (by omega) (by omega)), fun _ => s_spotRow to2 R N rfl hi2 (s_hasX rfl (by omega) ?_)⟩
      rw [hins _ (by omega)]
      have e1 : (8 * fy q i + fx q i) % 8 = fx q i := by omega
      have e2 : (8 * fy q i + fx q i) / 8 = fy q i := by omega
      rw [e1, e2]
      refine ⟨fun h => ?_, fun h => k0 fun h2 => ?_⟩
      · rw [decide_eq_true_eq] at h
        rw [nI_1]
        refine ih (i + 1) (by omega) fun j hj2 => ?_
        by_cases e : j = i
        · subst e; exact h
        · exact hj j (by omega)
      · rw [decide_eq_false_iff_not] at h
        exact h (h2 i hi2)
  exact loop (gN q 0) 0 (by omega) fun j hj => by omega
theorem s_isLoudX {s S : Nat} {u v : Int32} {K : Bool → pm_I → pm_L → Prop} (th : TX1s kd mr h) (O : okC r) (hh : hX r h mi ml) (hu : u = nI S) (hS : S < 256) (hv : v = nI s) (hs : s < 64) (hi : inS r s) (k9 : K (pb (hb r S (ceS r s))) mi ml) : wB l M_X1_isLoud d [.ref h, .int u, .int v] kd mr mi ml K := by
  subst hu; subst hv
  refine w_X1_isLoud th ⟨z_in hs (by omega), ?_⟩
  rw [z_cl (by omega), hh.2 s hs, z_and]
  have hA := hmS_lt O s
  have hle : hmS r s &&& S ≤ hmS r s := Nat.and_le_left
  have e : (nI (hmS r s &&& S) = 0) = (hmS r s &&& S = 0) := z_eq (b := 0) (by omega) (by omega)
  have e2 : (!decide (nI (hmS r s &&& S) = 0)) = pb (hb r S (ceS r s)) := by
    simp only [e]
    have h2 := hmS_and (S := S) hi
    by_cases q9 : hb r S (ceS r s)
    · rw [pb_iff.mpr q9, decide_eq_false (h2.mpr q9)]; rfl
    · have : hmS r s &&& S = 0 := Classical.byContradiction fun q8 => q9 (h2.mp q8)
      rw [decide_eq_true this]
      cases e3 : pb (hb r S (ceS r s)) with
      | false => rfl
      | true => exact absurd (pb_iff.mp e3) q9
  rw [e2]; exact k9
theorem s_agrees {S : Nat} {u : Int32} {K : Bool → pm_I → pm_L → Prop} (th : TX1s kd mr h) (to2 : TX6s kd mr o2) (O : okC r) (hh : hX r h mi ml) (R : RR mi o2 0 q) (N : okS q) (ho : hoP r q) (hu : u = nI S) (hS : S < 256) (k9 : K (snB r q S) mi ml) : wB l M_X1_agrees (d + 2) [.ref h, .int u, .ref o2] kd mr mi ml K := by
  subst hu
  obtain ⟨n1, n2, n3⟩ := R.n
  have loop : ∀ (u i : Nat), i + u = gN q 0 → (∀ j, j < i → (q (1 + 3 * j) = 1 ↔ hb r S (clC r (fx q j) (fy q j)))) → c_X1_agrees_2 l (d + 2) kd mr h o2 (nI S) (nI i) mi ml K := by
    intro u
    induction u with
    | zero =>
      intro i hi hj
      have : i = gN q 0 := by omega
      subst this
      have e : snB r q S = true := pb_iff.mpr hj
      rw [e] at k9
      exact w_X1_agrees_2 th to2 ⟨fun _ => k9, fun h => absurd (by rw [n1]; exact nI_le (Nat.le_refl _) (by omega)) h⟩
    | succ u ih =>
      intro i hi hj
      have hi2 : i < gN q 0 := by omega
      obtain ⟨a1, a2, -, -, a5⟩ := N.at hi2
      obtain ⟨b1, b2⟩ := ho i hi2
      have e1 : (8 * fy q i + fx q i) % 8 = fx q i := by omega
      have e2 : (8 * fy q i + fx q i) / 8 = fy q i := by omega
      have his : inS r (8 * fy q i + fx q i) := by unfold inS; rw [e1, e2]; exact ⟨b1, b2⟩
      have ece : ceS r (8 * fy q i + fx q i) = clC r (fx q i) (fy q i) := by unfold ceS; rw [e1, e2]
      have e3 : mi (o2 + 1) i = q (1 + 3 * i) := by
        obtain ⟨n, hn, -, g2, g3⟩ := R
        have hn' : i < n := by
          have : gN q 0 = n := by show (q 0).toNatClampNeg = n; rw [g2, z_cl (by omega)]
          omega
        rw [(g3 i hn').1, show 0 + 1 + 3 * i = 1 + 3 * i by omega]
      refine w_X1_agrees_2 th to2 ⟨fun h => absurd h (by rw [n1]; exact nI_ge (by omega) (by omega)), fun _ => s_spotRow to2 R N rfl hi2 (s_isLoudX th O hh rfl hS rfl (by omega) his ⟨z_in (by omega) (by omega), ?_⟩)⟩
      rw [z_cl (by omega), e3, ece]
      have key : (b2i (decide (pb (hb r S (clC r (fx q i) (fy q i))) = true)) = q (1 + 3 * i)) ↔ (q (1 + 3 * i) = 1 ↔ hb r S (clC r (fx q i) (fy q i))) := by
        rw [decide_eq_true_iff_pb]
        by_cases q9 : hb r S (clC r (fx q i) (fy q i))
        · rw [pb_iff.mpr q9]
          exact ⟨fun e => ⟨fun _ => q9, fun _ => e.symm⟩, fun e => (e.mpr q9).symm⟩
        · have : pb (hb r S (clC r (fx q i) (fy q i))) = false := by
            cases e3 : pb (hb r S (clC r (fx q i) (fy q i))) with
            | false => rfl
            | true => exact absurd (pb_iff.mp e3) q9
          rw [this]
          rcases a5 with a5 | a5
          · rw [a5]; exact ⟨fun _ => ⟨fun e => absurd e (by decide), fun e => absurd e q9⟩, fun _ => rfl⟩
          · rw [a5]; exact ⟨fun e => absurd e (by decide), fun e => absurd (e.mp rfl) q9⟩
      refine ⟨fun h => ?_, fun h => ?_⟩
      · rw [nI_1]
        refine ih (i + 1) (by omega) fun j hj2 => ?_
        by_cases e : j = i
        · subst e; exact key.mp h
        · exact hj j (by omega)
      · have e : snB r q S = false := by
          cases e3 : snB r q S with
          | false => rfl
          | true => exact absurd (key.mpr (pb_iff.mp e3 i hi2)) h
        rw [e] at k9
        exact k9
  exact w_X1_agrees th to2 (loop (gN q 0) 0 (by omega) fun j hj => by omega)
where
  decide_eq_true_iff_pb {b : Bool} : decide (b = true) = b := by cases b <;> rfl
def snS (r q : Nat → Int32) (v : Int64) : Prop := ∀ s, s < 64 → (bl v s = true ↔ s < 2 ^ gN r 3 ∧ snB r q s = true)
theorem s_setsSeen {K : Int64 → pm_I → pm_L → Prop} (th : TX1s kd mr h) (to : TX0s kd mr o) (to2 : TX6s kd mr o2) (C : CC mi ml o r) (O : okC r) (hh : hX r h mi ml) (R : RR mi o2 0 q) (N : okS q) (ho : hoP r q) (k9 : ∀ v, snS r q v → K v mi ml) : wL l M_X1_setsSeen (d + 3) [.ref h, .ref o, .ref o2] kd mr mi ml K := by
  have h3 := O.2.2.2.2.1
  have hpw := pw_le h3
  have eN : (1 : Int32) <<< ((mi o 4) &&& 31) = nI (2 ^ gN r 3) := by rw [C.np O]; exact z_shl _ (by omega)
  have loop : ∀ (u i : Nat) (v : Int64), i + u = 2 ^ gN r 3 → (∀ s, s < 64 → (bl v s = true ↔ s < i ∧ snB r q s = true)) → c_X1_setsSeen_5 l (d + 3) kd mr h o o2 v (nI i) mi ml K := by
    intro u
    induction u with
    | zero =>
      intro i v hi hv
      have : i = 2 ^ gN r 3 := by omega
      subst this
      exact w_X1_setsSeen_5 th to to2 ⟨fun _ => k9 v hv, fun h => absurd (by rw [eN]; exact nI_le (Nat.le_refl _) (by omega)) h⟩
    | succ u ih =>
      intro i v hi hv
      refine w_X1_setsSeen_5 th to to2 ⟨fun h => absurd h (by rw [eN]; exact nI_ge (by omega) (by omega)), fun _ => s_agrees th to2 O hh R N ho rfl (by omega) ⟨fun hf => w_X1_setsSeen_33 th to to2 ?_, fun ht => w_X1_setsSeen_33 th to to2 ?_⟩⟩
      · rw [nI_1]
        refine ih (i + 1) v (by omega) fun s hs => ?_
        rw [hv s hs]
        constructor
        · rintro ⟨g1, g2⟩; exact ⟨by omega, g2⟩
        · rintro ⟨g1, g2⟩
          have : s ≠ i := fun e => by rw [e, hf] at g2; cases g2
          exact ⟨by omega, g2⟩
      · rw [nI_1]
        refine ih (i + 1) _ (by omega) fun s hs => ?_
        rw [bl_or, Bool.or_eq_true, hv s hs, bl_only (by omega) hs, decide_eq_true_eq]
        constructor
        · rintro (⟨g1, g2⟩ | rfl)
          · exact ⟨by omega, g2⟩
          · exact ⟨by omega, ht⟩
        · rintro ⟨g1, g2⟩
          by_cases e : s = i
          · exact Or.inr e
          · exact Or.inl ⟨by omega, g2⟩
  exact w_X1_setsSeen th to to2 (loop (2 ^ gN r 3) 0 0 (by omega) fun s _ => by rw [bl_0]; simp)
theorem pop_snS {v : Int64} (O : okC r) (hv : snS r q v) : pop v = (snL r q).length := by
  have hpw := pw_le O.2.2.2.2.1
  unfold snL
  rw [fl_cnt]
  unfold pop
  obtain ⟨b, hb2⟩ := Nat.exists_eq_add_of_le hpw.1
  rw [hb2, cnt_all _ (2 ^ gN r 3) b fun i h1 h2 => by
    cases e : bl v i with
    | false => rfl
    | true => have := ((hv i (by omega)).mp e).1; omega]
  refine cnt_congr fun i hi => ?_
  have := hv i (by omega)
  cases e1 : bl v i <;> cases e2 : snB r q i <;> first | rfl | (rw [e1, e2] at this; simp at this; done) | (rw [e1, e2] at this; simp [hi] at this)
theorem s_inAllX {v : Int64} {K : Int32 → pm_I → pm_L → Prop} (th : TX1s kd mr h) (to : TX0s kd mr o) (C : CC mi ml o r) (O : okC r) (hv : snS r q v) (k9 : K (andL id (snL r q) (nI (2 ^ gN r 3 - 1)) (snL r q).length) mi ml) : wI l M_X1_inAll (d + 2) [.ref h, .ref o, .long v] kd mr mi ml K := by
  have h3 := O.2.2.2.2.1
  have hpw := pw_le h3
  have eN : (1 : Int32) <<< ((mi o 4) &&& 31) = nI (2 ^ gN r 3) := by rw [C.np O]; exact z_shl _ (by omega)
  have loop : ∀ (u i : Nat), i + u = 2 ^ gN r 3 → c_X1_inAll_13 l (d + 2) kd mr h o v (andL id (fl (snB r q) i) (nI (2 ^ gN r 3 - 1)) (fl (snB r q) i).length) (nI i) mi ml K := by
    intro u
    induction u with
    | zero =>
      intro i hi
      have : i = 2 ^ gN r 3 := by omega
      subst this
      exact w_X1_inAll_13 th to ⟨fun _ => k9, fun h => absurd (by rw [eN]; exact nI_le (Nat.le_refl _) (by omega)) h⟩
    | succ u ih =>
      intro i hi
      refine w_X1_inAll_13 th to ⟨fun h => absurd h (by rw [eN]; exact nI_ge (by omega) (by omega)), fun _ => s_hasX rfl (by omega) ?_⟩
      have hvi := hv i (by omega)
      have e : (if bl v i = true then andL id (fl (snB r q) i) (nI (2 ^ gN r 3 - 1)) (fl (snB r q) i).length &&& nI i else andL id (fl (snB r q) i) (nI (2 ^ gN r 3 - 1)) (fl (snB r q) i).length) = andL id (fl (snB r q) (i + 1)) (nI (2 ^ gN r 3 - 1)) (fl (snB r q) (i + 1)).length := by
        by_cases hp : snB r q i = true
        · rw [if_pos (hvi.mpr ⟨by omega, hp⟩), show fl (snB r q) (i + 1) = fl (snB r q) i ++ [i] from if_pos hp, andL_s]; rfl
        · rw [if_neg (fun e => hp (hvi.mp e).2), show fl (snB r q) (i + 1) = fl (snB r q) i from if_neg hp]
      rw [e, nI_1]
      exact ih (i + 1) (by omega)
  refine w_X1_inAll th to ?_
  rw [eN, show nI (2 ^ gN r 3) - 1 = nI (2 ^ gN r 3 - 1) from z_sub (b := 1) (by omega)]
  exact loop (2 ^ gN r 3) 0 (by omega)
theorem s_kthOf {v : Int64} {i : Nat} {u : Int32} {K : Int32 → pm_I → pm_L → Prop} (th : TX1s kd mr h) (O : okC r) (hv : snS r q v) (hu : u = nI i) (hi : i < (snL r q).length) (k9 : K (nI ((snL r q).getD i 0)) mi ml) : wI l M_X1_kthOf (d + 2) [.ref h, .long v, .int u] kd mr mi ml K := by
  subst hu
  have h3 := O.2.2.2.2.1
  have hpw := pw_le h3
  have hL := snL_le O q
  have hi' : i < cnt (snB r q) (2 ^ gN r 3) := by rw [← fl_cnt]; exact hi
  have loop : ∀ (w j : Nat) (y : Int64), j + w = i → (∀ s, s < 64 → (bl y s = true ↔ (s < 2 ^ gN r 3 ∧ snB r q s = true) ∧ j ≤ cnt (snB r q) s)) → c_X1_kthOf_6 l (d + 2) kd mr h (nI i) y (nI j) mi ml K := by
    intro w
    induction w with
    | zero =>
      intro j y hj hy
      have : j = i := by omega
      subst this
      obtain ⟨s, g1, g2, g3⟩ := cnt_at _ _ hi'
      refine w_X1_kthOf_6 th ⟨fun _ => s_leastOf (fun e => ?_) (fun t t1 t2 t3 => ?_), fun h => absurd (nI_le (Nat.le_refl _) (by omega)) h⟩
      · have := (hy s (by omega)).mpr ⟨⟨g1, g2⟩, by omega⟩
        rw [e, bl_0] at this; cases this
      · have hs := (hy s (by omega)).mpr ⟨⟨g1, g2⟩, by omega⟩
        have ht := (hy t t1).mp t2
        have : t = s := by
          rcases Nat.lt_trichotomy t s with e | e | e
          · have := cnt_up ht.1.2 e; omega
          · exact e
          · rw [t3 s e] at hs; cases hs
        subst this
        have e := fl_rank g2 _ g1
        rw [g3] at e
        have e' : (snL r q).getD j 0 = t := e
        rw [e'] at k9
        exact k9
    | succ w ih =>
      intro j y hj hy
      obtain ⟨s, g1, g2, g3⟩ := cnt_at (P := snB r q) (2 ^ gN r 3) j (by omega)
      refine w_X1_kthOf_6 th ⟨fun h => absurd h (nI_ge (by omega) (by omega)), fun _ => ?_⟩
      rw [nI_1]
      refine ih (j + 1) _ (by omega) fun t ht => ?_
      have hs := (hy s (by omega)).mpr ⟨⟨g1, g2⟩, by omega⟩
      have hlow : ∀ t, t < s → bl y t = false := by
        intro t ht
        cases e : bl y t with
        | false => rfl
        | true =>
          have := (hy t (by omega)).mp e
          have := cnt_up this.1.2 ht
          omega
      rw [bl_drop hs hlow ht, Bool.and_eq_true, decide_eq_true_eq, hy t ht]
      constructor
      · rintro ⟨⟨q1, q2⟩, q3⟩
        refine ⟨q1, ?_⟩
        rcases Nat.lt_or_gt_of_ne q3 with e | e
        · have := hlow t e
          rw [(hy t ht).mpr ⟨q1, q2⟩] at this; cases this
        · have := cnt_up g2 e; omega
      · rintro ⟨q1, q2⟩
        refine ⟨⟨q1, by omega⟩, fun e => ?_⟩
        subst e; omega
  exact w_X1_kthOf th (loop i 0 v (by omega) fun s hs => (hv s hs).trans ⟨fun e => ⟨e, Nat.zero_le _⟩, fun e => e.1⟩)
theorem s_howManyLoud {v : Int64} {s : Nat} {u : Int32} {K : Int32 → pm_I → pm_L → Prop} (th : TX1s kd mr h) (O : okC r) (hh : hX r h mi ml) (hv : snS r q v) (hu : u = nI s) (hs : s < 64) (hi : inS r s) (k9 : K (nI (ldN r q (ceS r s))) mi ml) : wI l M_X1_howManyLoud (d + 2) [.ref h, .long v, .int u] kd mr mi ml K := by
  subst hu
  have hpw := pw_le O.2.2.2.2.1
  have loop : ∀ (w S : Nat), S + w = 64 → c_X1_howManyLoud_6 l (d + 2) kd mr h v (nI s) (nI (cnt (fun S => bl v S && pb (hb r S (ceS r s))) S)) (nI S) mi ml K := by
    intro w
    induction w with
    | zero =>
      intro S hS
      have : S = 64 := by omega
      subst this
      refine w_X1_howManyLoud_6 th ⟨fun _ => ?_, fun h => absurd (nI_le (Nat.le_refl 64) (by omega)) h⟩
      have e : cnt (fun S => bl v S && pb (hb r S (ceS r s))) 64 = ldN r q (ceS r s) := by
        obtain ⟨b, hb2⟩ := Nat.exists_eq_add_of_le hpw.1
        rw [hb2, cnt_all _ (2 ^ gN r 3) b fun i h1 h2 => by
          cases e : bl v i with
          | false => rfl
          | true => have := ((hv i (by omega)).mp e).1; omega]
        refine cnt_congr fun i hi => ?_
        have := hv i (by omega)
        have e9 : bl v i = snB r q i := by
          cases e1 : bl v i <;> cases e2 : snB r q i <;> first | rfl | (rw [e1, e2] at this; simp at this; done) | (rw [e1, e2] at this; simp [hi] at this)
        rw [e9]
      rw [e]; exact k9
    | succ w ih =>
      intro S hS
      have nx := ih (S + 1) (by omega)
      have e1 : cnt (fun S => bl v S && pb (hb r S (ceS r s))) (S + 1) = cnt (fun S => bl v S && pb (hb r S (ceS r s))) S + if (bl v S && pb (hb r S (ceS r s))) = true then 1 else 0 := rfl
      refine w_X1_howManyLoud_6 th ⟨fun h => absurd h (nI_ge (b := 64) (by omega) (by omega)), fun _ => s_hasX rfl (by omega) ⟨fun hf => w_X1_howManyLoud_35 th ?_, fun ht => s_isLoudX th O hh rfl (by omega) rfl hs hi ⟨fun hf => w_X1_howManyLoud_35 th ?_, fun ht2 => w_X1_howManyLoud_35 th ?_⟩⟩⟩
      · rw [e1, hf] at nx; rw [nI_1]; exact nx
      · rw [e1, hf, Bool.and_false] at nx; rw [nI_1]; exact nx
      · rw [e1, ht, ht2] at nx; rw [nI_1, nI_1]; exact nx
  exact w_X1_howManyLoud th (loop 64 0 rfl)
theorem s_bestToListen {v : Int64} {u : Int32} {K : Int32 → pm_I → pm_L → Prop} (th : TX1s kd mr h) (to : TX0s kd mr o) (C : CC mi ml o r) (O : okC r) (hh : hX r h mi ml) (hv : snS r q v) (hu : u = nI (snL r q).length) (k9 : ∀ c, fmn (ldG r q) (cells r) c → K (nI (spC r c)) mi ml) : wI l M_X1_bestToListen (d + 3) [.ref h, .ref o, .long v, .int u] kd mr mi ml K := by
  subst hu
  have hw := O.w
  have hL := snL_le O q
  refine w_X1_bestToListen th to (s_inside to C O fun ins hins => ?_)
  rw [nI_1]
  have hin : ∀ s, s < 64 → (bl ins s = true ↔ inS r s) := fun s hs => by rw [hins s hs, decide_eq_true_eq]; rfl
  have loop : ∀ (w s n : Nat) (x7 x8 : Int32), s + w = 64 → n ≤ cells r → (∀ c, c < cells r → (spC r c < s ↔ c < n)) → ((n = 0 ∧ x8 = nI ((snL r q).length + 1)) ∨ ∃ c0, fmn (ldG r q) n c0 ∧ x7 = nI (spC r c0) ∧ x8 = nI (ldG r q c0)) → c_X1_bestToListen_18 l (d + 3) kd mr h o v (nI (snL r q).length) ins x7 x8 (nI s) mi ml K := by
    intro w
    induction w with
    | zero =>
      intro s n x7 x8 hs hn hb hx
      have : s = 64 := by omega
      subst this
      have := below_end O hn hb
      subst this
      refine w_X1_bestToListen_18 th to ⟨fun _ => ?_, fun h => absurd (nI_le (Nat.le_refl 64) (by omega)) h⟩
      rcases hx with ⟨h1, -⟩ | ⟨c0, h1, rfl, -⟩
      · omega
      · exact k9 c0 h1
    | succ w ih =>
      intro s n x7 x8 hs hn hb hx
      refine w_X1_bestToListen_18 th to ⟨fun h => absurd h (nI_ge (b := 64) (by omega) (by omega)), fun _ => s_hasX rfl (by omega) ⟨fun hf => w_X1_bestToListen_71 th to ?_, fun ht => ?_⟩⟩
      · rw [nI_1]
        have hni : ¬ inS r s := fun q => by rw [(hin s (by omega)).mpr q] at hf; cases hf
        exact ih (s + 1) n x7 x8 (by omega) hn (below_same O hb hni) hx
      · have hi := (hin s (by omega)).mp ht
        obtain ⟨g1, g2, g3⟩ := below_next O hn hb hi
        have eS : spC r n = s := by rw [← g1]; exact spC_ceS hi
        refine s_howManyLoud th O hh hv rfl (by omega) hi ?_
        rw [g1]
        have hl := ldN_le r q n
        have hg := ldG_le r q n
        rw [z_sub hl, mx_X9 _ _ (by omega) (by omega)]
        have eG : mx (ldN r q n) ((snL r q).length - ldN r q n) = ldG r q n := rfl
        rw [eG]
        rcases hx with ⟨rfl, rfl⟩ | ⟨c0, h1, rfl, rfl⟩
        · refine ⟨fun h9 => absurd h9 (nI_ge (by omega) (by omega)), fun _ => w_X1_bestToListen_71 th to ?_⟩
          rw [nI_1]
          exact ih (s + 1) 1 _ _ (by omega) (by omega) g3 (Or.inr ⟨0, fmn.one _, by rw [eS], rfl⟩)
        · have hg0 := ldG_le r q c0
          have st := h1.step
          rw [z_le (by omega) (by omega)]
          refine ⟨fun h9 => w_X1_bestToListen_71 th to ?_, fun h9 => w_X1_bestToListen_71 th to ?_⟩
          · rw [nI_1]
            rw [if_neg (by omega)] at st
            exact ih (s + 1) (n + 1) _ _ (by omega) (by omega) g3 (Or.inr ⟨c0, st, rfl, rfl⟩)
          · rw [nI_1]
            rw [if_pos (by omega)] at st
            exact ih (s + 1) (n + 1) _ _ (by omega) (by omega) g3 (Or.inr ⟨n, st, by rw [eS], rfl⟩)
  exact loop 64 0 0 0 _ rfl (Nat.zero_le _) below_0 (Or.inl ⟨rfl, rfl⟩)
theorem s_whoPlayed {w : Int32} {K : Int32 → pm_I → pm_L → Prop} (th : TX1s kd mr h) (to : TX0s kd mr o) (to2 : TX6s kd mr o2) (C : CC mi ml o r) (O : okC r) (hh : hX r h mi ml) (R : RR mi o2 0 q) (N : okS q) (ho : hoP r q) (k9 : ∀ v, vSeen r q w v → K v mi ml) : wI l M_X1_whoPlayed (d + 4) [.ref h, .ref o, .ref o2, .int w] kd mr mi ml K := by
  have hL := snL_le O q
  refine w_X1_whoPlayed th to to2 (s_setsSeen th to to2 C O hh R N ho fun v hv => s_popX ?_)
  rw [pop_snS O hv]
  have e0 : w.toInt = 0 ↔ w = 0 := z_ti (n := 0) (by omega)
  have e1 : w.toInt = 1 ↔ w = 1 := z_ti (n := 1) (by omega)
  have e2 : w.toInt = 2 ↔ w = 2 := z_ti (n := 2) (by omega)
  have ez : (nI (snL r q).length = 0) = ((snL r q).length = 0) := z_eq (b := 0) (by omega) (by omega)
  refine ⟨fun hw => ?_, fun hw => k9 _ (vSeen.k0 O (e0.mp hw) rfl), fun hw => ⟨fun hl => ?_, fun hl => ?_⟩, fun hw => ⟨fun hl => ?_, fun hl => ?_⟩⟩
  · have n0 : ¬ w = 0 := fun e => by have := e0.mpr e; omega
    have n1 : ¬ w = 1 := fun e => by have := e1.mpr e; omega
    have n2 : ¬ w = 2 := fun e => by have := e2.mpr e; omega
    refine ⟨fun h => k9 _ (vSeen.k4 n0 n1 n2 (fun i hi e => ?_) rfl), fun h => ?_⟩
    · have c1 : (nI (10 + i) < 10) = (10 + i < 10) := z_lt (b := 10) (by omega) (by omega)
      rw [e] at h
      have := c1.mp h
      omega
    · obtain ⟨n, hn, rfl⟩ : ∃ n : Nat, n < 2147483648 ∧ w = nI n := by
        rcases z_cases w with q | q
        · exact absurd (z_ltm q (a := 10) (by omega)) h
        · exact q
      have c1 : (nI n < 10) = (n < 10) := z_lt (b := 10) (by omega) (by omega)
      have hn10 : ¬ n < 10 := fun q => h (c1.mpr q)
      have c2 : nI n - 10 = nI (n - 10) := z_sub (b := 10) (by omega)
      rw [c2, z_le (by omega) (by omega)]
      refine ⟨fun hl => k9 _ (vSeen.k4 n0 n1 n2 (fun i hi e => ?_) rfl), fun hl => s_kthOf th O hv rfl (by omega) (k9 _ (vSeen.k3 O (i := n - 10) (by omega) (by rw [show 10 + (n - 10) = n by omega]) rfl))⟩
      rw [z_eq (by omega) (by omega)] at e
      omega
  · have hl2 : ¬ (snL r q).length = 0 := fun e => hl (ez.mpr e)
    exact s_inAllX th to C O hv (k9 _ (vSeen.k1 O (e1.mp hw) (fun e => absurd e hl2) fun _ => rfl))
  · have hl2 := ez.mp hl
    exact k9 _ (vSeen.k1 O (e1.mp hw) (fun _ => rfl) fun e => absurd hl2 e)
  · have hl2 : ¬ (snL r q).length = 0 := fun e => hl (ez.mpr e)
    exact s_bestToListen th to C O hh hv rfl fun c hc => s_cellOfX to C O rfl hc.1 (k9 _ (vSeen.k2 O (e2.mp hw) (fun e => absurd e hl2) fun _ => ⟨c, hc, rfl⟩))
  · have hl2 := ez.mp hl
    exact k9 _ (vSeen.k2 O (e2.mp hw) (fun _ => rfl) fun e => absurd hl2 e)
end SEEN
