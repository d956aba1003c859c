/-! what is told, in the class and in the reference; a first method through and through: hears -/
/-- what a call of the class may change: its own helpers -/
def frX (x : Nat) (mi mi' : pm_I) (ml ml' : pm_L) : Prop := ∀ a, (a ≤ x + 182 ∨ (x + 229 ≤ a ∧ a ≤ x + 231) ∨ x + 235 ≤ a) → mi' a = mi a ∧ ml' a = ml a
/-- what a call of the reference may change -/
def frZ (z : Nat) (mi mi' : pm_I) (ml ml' : pm_L) : Prop := ∀ a, (a < z ∨ (z < a ∧ a ≤ z + 9) ∨ z + 31 ≤ a) → mi' a = mi a ∧ ml' a = ml a
theorem frX.rf {x : Nat} {mi : pm_I} {ml : pm_L} : frX x mi mi ml ml := fun _ _ => ⟨rfl, rfl⟩
theorem frZ.rf {x : Nat} {mi : pm_I} {ml : pm_L} : frZ x mi mi ml ml := fun _ _ => ⟨rfl, rfl⟩
theorem frX.tr {x : Nat} {mi mi' mi2 : pm_I} {ml ml' ml2 : pm_L} (h1 : frX x mi mi' ml ml') (h2 : frX x mi' mi2 ml' ml2) : frX x mi mi2 ml ml2 := fun a ha => ⟨(h2 a ha).1.trans (h1 a ha).1, (h2 a ha).2.trans (h1 a ha).2⟩
theorem frZ.tr {x : Nat} {mi mi' mi2 : pm_I} {ml ml' ml2 : pm_L} (h1 : frZ x mi mi' ml ml') (h2 : frZ x mi' mi2 ml' ml2) : frZ x mi mi2 ml ml2 := fun a ha => ⟨(h2 a ha).1.trans (h1 a ha).1, (h2 a ha).2.trans (h1 a ha).2⟩
theorem frX.urL {x : Nat} {mi : pm_I} {ml : pm_L} {a : Nat} {g : Nat → Int64} (h : (x + 182 < a ∧ a < x + 229) ∨ (x + 231 < a ∧ a < x + 235)) : frX x mi mi ml (pm_ur ml a g) := fun b hb => ⟨rfl, pm_ur_k ml g (by omega)⟩
theorem frX.urI {x : Nat} {mi : pm_I} {ml : pm_L} {a : Nat} {g : Nat → Int32} (h : (x + 182 < a ∧ a < x + 229) ∨ (x + 231 < a ∧ a < x + 235)) : frX x mi (pm_ur mi a g) ml ml := fun b hb => ⟨pm_ur_k mi g (by omega), rfl⟩
theorem frX.upI {x : Nat} {mi : pm_I} {ml : pm_L} {a j : Nat} {v : Int32} (h : (x + 182 < a ∧ a < x + 229) ∨ (x + 231 < a ∧ a < x + 235)) : frX x mi (pm_up mi a j v) ml ml := fun b hb => ⟨pm_up_row mi v (by omega), rfl⟩
theorem frX.upL {x : Nat} {mi : pm_I} {ml : pm_L} {a j : Nat} {v : Int64} (h : (x + 182 < a ∧ a < x + 229) ∨ (x + 231 < a ∧ a < x + 235)) : frX x mi mi ml (pm_up ml a j v) := fun b hb => ⟨rfl, pm_up_row ml v (by omega)⟩
theorem frZ.urL {x : Nat} {mi : pm_I} {ml : pm_L} {a : Nat} {g : Nat → Int64} (h : a = x ∨ (x + 9 < a ∧ a < x + 31)) : frZ x mi mi ml (pm_ur ml a g) := fun b hb => ⟨rfl, pm_ur_k ml g (by omega)⟩
theorem frZ.urI {x : Nat} {mi : pm_I} {ml : pm_L} {a : Nat} {g : Nat → Int32} (h : a = x ∨ (x + 9 < a ∧ a < x + 31)) : frZ x mi (pm_ur mi a g) ml ml := fun b hb => ⟨pm_ur_k mi g (by omega), rfl⟩
theorem frZ.upI {x : Nat} {mi : pm_I} {ml : pm_L} {a j : Nat} {v : Int32} (h : a = x ∨ (x + 9 < a ∧ a < x + 31)) : frZ x mi (pm_up mi a j v) ml ml := fun b hb => ⟨pm_up_row mi v (by omega), rfl⟩
theorem frZ.upL {x : Nat} {mi : pm_I} {ml : pm_L} {a j : Nat} {v : Int64} (h : a = x ∨ (x + 9 < a ∧ a < x + 31)) : frZ x mi mi ml (pm_up ml a j v) := fun b hb => ⟨rfl, pm_up_row ml v (by omega)⟩
/-- the rows of a night, a sighting (from 1), a trial's sayings (from 3) -/
def RR (mi : pm_I) (o c0 : Nat) (q : Nat → Int32) : Prop := ∃ n, n ≤ 40 ∧ mi o 3 = nI n ∧ q c0 = nI n ∧ ∀ i, i < n → mi (o + 1) i = q (c0 + 1 + 3 * i) ∧ mi (o + 2) i = q (c0 + 1 + 3 * i + 1) ∧ mi (o + 3) i = q (c0 + 1 + 3 * i + 2)
/-- the cities told: m of them, their rows R; the class's at x -/
def tC (mi : pm_I) (ml : pm_L) (T z t m : Nat) : Prop := m ≤ 2 ∧ mi (T + 2) 0 = nI m ∧ mi (z + 5) (4 * t) = nI m ∧ ∀ k, k < m → okC (fun j => mi (z + 6) (106 * t + 53 * k + j)) ∧ CC mi ml (T + 7 + 19 * k) (fun j => mi (z + 6) (106 * t + 53 * k + j))
section TOP
variable {l : Launch} {d x z o T : Nat} {kd : pm_K} {mr : pm_R} {mi : pm_I} {ml : pm_L} {r : Nat → Int32} {m : Nat}
theorem s_hasOne {s : Nat} {y c : Int32} {K : Bool → pm_I → pm_L → Prop} (tT : TX9s kd mr T) (hc : c = nI s) (hs : s < 4) (hm : mi (T + 2) s = nI m) (hm2 : m ≤ 2) (k9 : K (isK y m) mi ml) : wB l M_X9_hasOne d [.ref T, .int c, .int y] kd mr mi ml K := by
  subst hc
  refine w_X9_hasOne tT ⟨fun h => by rw [isK_neg h] at k9; exact k9, fun h => ⟨z_in hs (by omega), ?_⟩⟩
  rw [z_cl (by omega), hm]
  obtain ⟨n, hn, rfl⟩ : ∃ n, n < 2147483648 ∧ y = nI n := (z_cases y).resolve_left h
  have e : (!decide (nI m ≤ nI n) && !decide ((2 : Int32) ≤ nI n)) = isK (nI n) m := by
    rw [isK_nI hn]
    have q1 : (nI m ≤ nI n) = (m ≤ n) := z_le (by omega) (by omega)
    have q2 : ((2 : Int32) ≤ nI n) = (2 ≤ n) := z_le (a := 2) (by omega) (by omega)
    simp only [q1, q2]
    by_cases h1 : n < m
    · have : ¬ m ≤ n := by omega
      have : ¬ 2 ≤ n := by omega
      simp [*]
    · have : m ≤ n := by omega
      simp [*]
  rw [e]; exact k9
theorem isK_iff {y : Int32} {m : Nat} : isK y m = true ↔ ∃ k, k < m ∧ k < 2147483648 ∧ y = nI k := by
  rcases z_cases y with h | ⟨n, hn, rfl⟩
  · rw [isK_neg h]
    refine ⟨fun q => (by cases q), ?_⟩
    rintro ⟨k, -, hk, rfl⟩
    exact absurd h (nI_pos hk)
  · rw [isK_nI hn, decide_eq_true_eq]
    refine ⟨fun q => ⟨n, q, hn, rfl⟩, ?_⟩
    rintro ⟨k, h1, h2, h3⟩
    rw [nI_eq hn h2] at h3
    omega
theorem s_cityAt {t : Nat} {y : Int32} {K : Option Nat → pm_I → pm_L → Prop} (tT : TX9s kd mr T) (I : tC mi ml T z t m) (k0 : isK y m = false → K none mi ml) (k1 : ∀ k, k < m → y = nI k → TX0s kd mr (T + 7 + 19 * k) → K (some (T + 7 + 19 * k)) mi ml) : wR l M_X9_cityAt (d + 1) [.ref T, .int y] kd mr mi ml K := by
  obtain ⟨hm, e1, -, -⟩ := I
  refine w_X9_cityAt tT (s_hasOne (s := 0) tT rfl (by omega) e1 hm ⟨k0, fun h => ?_⟩)
  obtain ⟨k, hk, hk2, rfl⟩ := isK_iff.mp h
  refine ⟨z_in (by omega) (by omega), T + 7 + 19 * k, ?_, ?_, ?_⟩
  · rw [z_cl hk2]
    rcases (show k = 0 ∨ k = 1 by omega) with rfl | rfl
    · exact TX9s_e3_0 tT
    · exact TX9s_e3_1 tT
  · rcases (show k = 0 ∨ k = 1 by omega) with rfl | rfl
    · exact TX9s_o3_0 tT
    · exact TX9s_o3_1 tT
  · refine k1 k hk rfl ?_
    rcases (show k = 0 ∨ k = 1 by omega) with rfl | rfl
    · exact TX9s_o3_0 tT
    · exact TX9s_o3_1 tT
theorem z_six {y : Int32} {n : Nat} (hn : n ≤ 6) : (!decide (y < 0) && (!decide (nI n ≤ y) && !decide ((6 : Int32) ≤ y))) = isK y n := by
  rcases z_cases y with h | ⟨q, hq, rfl⟩
  · rw [isK_neg h]; simp [h]
  · rw [isK_nI hq]
    have q0 : (nI q < 0) = False := z_nn hq
    have q1 : (nI n ≤ nI q) = (n ≤ q) := z_le (by omega) (by omega)
    have q2 : ((6 : Int32) ≤ nI q) = (6 ≤ q) := z_le (a := 6) (by omega) (by omega)
    simp only [q0, q1, q2]
    by_cases h1 : q < n
    · have : ¬ n ≤ q := by omega
      have : ¬ 6 ≤ q := by omega
      simp [*]
    · have : n ≤ q := by omega
      simp [*]
theorem s_hasPlayer {y : Int32} {K : Bool → pm_I → pm_L → Prop} (to : TX0s kd mr o) (C : CC mi ml o r) (O : okC r) (k9 : K (isK y (gN r 3)) mi ml) : wB l M_X0_hasPlayer d [.ref o, .int y] kd mr mi ml K := by
  refine w_X0_hasPlayer to ?_
  rw [C.np O, z_six O.2.2.2.2.1]; exact k9
theorem s_hasPerson {y : Int32} {K : Bool → pm_I → pm_L → Prop} (to : TX0s kd mr o) (C : CC mi ml o r) (O : okC r) (k9 : K (isK y (gN r 4)) mi ml) : wB l M_X0_hasPerson d [.ref o, .int y] kd mr mi ml K := by
  refine w_X0_hasPerson to ?_
  rw [C.nq O, z_six O.2.2.2.2.2.1]; exact k9
theorem s_spotOf {y : Int32} {K : Int32 → pm_I → pm_L → Prop} (to : TX0s kd mr o) (C : CC mi ml o r) (O : okC r) (k0 : isK y (cells r) = false → K (-1) mi ml) (k1 : ∀ c, c < cells r → y = nI c → K (nI (spC r c)) mi ml) : wI l M_X0_spotOf (d + 1) [.ref o, .int y] kd mr mi ml K := by
  have hb := O.w
  refine w_X0_spotOf to ?_
  rw [C.w O, C.hi O, z_mul]
  refine ⟨fun h => absurd h (nI_nlt (b := 1) (by omega) (by omega)), fun _ => ⟨fun h => k0 (isK_neg h _), fun h => ?_⟩⟩
  obtain ⟨n, hn, rfl⟩ : ∃ n, n < 2147483648 ∧ y = nI n := (z_cases y).resolve_left h
  have q1 : (nI n < nI (gN r 0 * gN r 1)) = (n < cells r) := z_lt hn (by show cells r < _; omega)
  rw [q1, isK_nI hn] at *
  refine ⟨fun h1 => ⟨nI_ne0 (by omega) (by omega), nI_ne0 (by omega) (by omega), w_X11_spotAt ?_⟩, fun h1 => k0 (by simpa using h1)⟩
  rw [z_rem (by omega) (by omega), z_div (by omega) (by omega)]
  have : (8 : Int32) * nI (n / gN r 0) + nI (n % gN r 0) = nI (spC r n) := by
    show nI 8 * _ + _ = _
    rw [z_mul, nI_add]; rfl
  rw [this]
  exact k1 n h1 rfl
theorem s_cellOfX {c : Nat} {y : Int32} {K : Int32 → pm_I → pm_L → Prop} (to : TX0s kd mr o) (C : CC mi ml o r) (O : okC r) (hy : y = nI (spC r c)) (hc : c < cells r) (k9 : K (nI c) mi ml) : wI l M_X0_cellOf d [.ref o, .int y] kd mr mi ml K := by
  subst hy
  have hb := O.w
  obtain ⟨h1, h2⟩ := cell_xy O hc
  obtain ⟨-, -, h3⟩ := spC_in O hc
  refine w_X0_cellOf to ?_
  rw [C.w O]
  have e1 : nI (spC r c) / 8 = nI (spC r c / 8) := z_div (b := 8) (by omega) (by omega)
  have e2 : nI (spC r c) - nI (spC r c) / 8 * 8 = nI (spC r c % 8) := z_rem (b := 8) (by omega) (by omega)
  have e3 : spC r c / 8 = c / gN r 0 := by unfold spC; omega
  have e4 : spC r c % 8 = c % gN r 0 := by unfold spC; omega
  rw [e2, e1, e3, e4, z_mul, nI_add, Nat.div_add_mod]
  exact k9
/-- where a player stands at first -/
theorem cellC_lt (O : okC r) {a p : Nat} (ha : (a = 9 ∧ p < gN r 3) ∨ (a = 27 ∧ p < gN r 4)) : cellC r a p < cells r ∧ spC r (cellC r a p) = 8 * gN r (a + 12 + p) + gN r (a + 6 + p) := by
  have key : gN r (a + 6 + p) < gN r 0 ∧ gN r (a + 12 + p) < gN r 1 := by
    rcases ha with ⟨rfl, h⟩ | ⟨rfl, h⟩
    · obtain ⟨-, h1, h2, -⟩ := O.2.2.2.2.2.2.2.1 p h
      exact ⟨h1, h2⟩
    · obtain ⟨-, h1, h2, -⟩ := O.2.2.2.2.2.2.2.2.1 p h
      exact ⟨h1, h2⟩
  exact ⟨clC_lt key.1 key.2, spC_xy key.1⟩
/-- the answer of a call that asks for the x-th of n -/
def vK (x : Int32) (n : Nat) (v0 : Int32) (P : Nat → Int32 → Prop) (v : Int32) : Prop := if isK x n = true then P x.toNatClampNeg v else v = v0
theorem vK_no {y : Int32} {n : Nat} {v0 : Int32} {P : Nat → Int32 → Prop} (h : isK y n = false) : vK y n v0 P v0 := by unfold vK; rw [if_neg (by rw [h]; decide)]
theorem vK_yes {y : Int32} {n k : Nat} {v0 v : Int32} {P : Nat → Int32 → Prop} (hk : k < n) (hk2 : k < 2147483648) (hy : y = nI k) (h : P k v) : vK y n v0 P v := by
  unfold vK
  rw [if_pos (isK_iff.mpr ⟨k, hk, hk2, hy⟩), hy, z_cl hk2]
  exact h
theorem vK_uniq {y : Int32} {n : Nat} {v0 v v' : Int32} {P : Nat → Int32 → Prop} (hP : ∀ k v v', k < n → P k v → P k v' → v = v') (h1 : vK y n v0 P v) (h2 : vK y n v0 P v') : v = v' := by
  unfold vK at h1 h2
  split at h1
  · rename_i h
    rw [if_pos h] at h2
    obtain ⟨k, hk, hk2, hy⟩ := isK_iff.mp h
    rw [hy, z_cl hk2] at h1 h2
    exact hP k v v' hk h1 h2
  · rename_i h
    rw [if_neg h] at h2
    rw [h1, h2]
/-- hears: what is answered -/
def vHears (m : Nat) (R : Nat → Nat → Int32) (a b c : Int32) : Int32 → Prop := vK a m (-1) fun k => vK b (gN (R k) 3) (-1) fun p => vK c (cells (R k)) (-1) fun e v => ∃ n, isD (R k) (cellC (R k) 9 p) e n ∧ v = nI n
theorem vHears.uniq {m : Nat} {R : Nat → Nat → Int32} {a b c v v' : Int32} (h1 : vHears m R a b c v) (h2 : vHears m R a b c v') : v = v' := by
  unfold vHears at h1 h2
  refine vK_uniq (fun k v v' _ g1 g2 => ?_) h1 h2
  refine vK_uniq (fun p v v' _ g1 g2 => ?_) g1 g2
  refine vK_uniq (fun e v v' _ g1 g2 => ?_) g1 g2
  obtain ⟨n1, a1, e1⟩ := g1
  obtain ⟨n2, a2, e2⟩ := g2
  rw [e1, e2, a1.uniq a2]
theorem t_hearsX {t : Nat} {a b c : Int32} {K : Int32 → pm_I → pm_L → Prop} (tx : TX11s kd mr x) (I : tC mi ml (x + 1) z t m) (k9 : ∀ v ml', vHears m (fun k j => mi (z + 6) (106 * t + 53 * k + j)) a b c v → frX x mi mi ml ml' → K v mi ml') : wI l M_X11_hears (d + 4) [.ref x, .int a, .int b, .int c] kd mr mi ml K := by
  refine w_X11_hears tx (s_cityAt (TX11s_a0 tx) I (fun h => ⟨fun _ => k9 _ _ (vK_no h) frX.rf, fun b hb => by cases hb⟩) (fun k hk ha to => ⟨fun h => (by cases h), fun b4 hb4 => ?_⟩))
  cases hb4
  obtain ⟨O, C⟩ := I.2.2.2 k hk
  have hI := I.1
  have hw := O.w
  refine ⟨to, s_hasPlayer to C O ⟨fun h => ?_, fun h => k9 _ _ (vK_yes hk (by omega) ha (vK_no h)) frX.rf⟩⟩
  obtain ⟨p, hp, hp2, hb⟩ := isK_iff.mp h
  obtain ⟨c1, c2⟩ := cellC_lt O (Or.inl ⟨rfl, hp⟩)
  have hp6 := O.2.2.2.2.1
  refine s_spotOf to C O (fun h2 => ⟨fun h3 => absurd rfl h3, fun _ => k9 _ _ (vK_yes hk (by omega) ha (vK_yes hp hp2 hb (vK_no h2))) frX.rf⟩) (fun e he hc => ⟨fun _ => ?_, fun h3 => ?_⟩)
  · subst hb
    refine ⟨z_in (by omega) (by omega), ?_⟩
    rw [z_cl hp2, (C.pl hp).2]
    refine s_costX (TX11s_a4 tx) to C O (by omega) c1 he (by rw [c2]) rfl (fun n g hn => k9 _ _ (vK_yes hk (by omega) ha (vK_yes hp hp2 rfl (vK_yes he (by omega) hc ⟨n, hn, rfl⟩))) (frX.urL (by omega)))
  · have := (spC_in O he).2.2
    have q := z_m1 (Nat.lt_of_lt_of_le this (by decide : 64 ≤ 2147483648))
    exact (q ▸ (h3 : nI _ = -nI 1)).elim
theorem row0 (mi : pm_I) (z k : Nat) : (fun j => mi (z + 6) (53 * k + j)) = fun j => mi (z + 6) (106 * 0 + 53 * k + j) := by
  funext j; rw [show 106 * 0 + 53 * k = 53 * k by omega]
/-- the reference's city in hand -/
theorem s_handZ {y : Int32} {K : Bool → pm_I → pm_L → Prop} {T : Nat} {mi0 : pm_I} (tz : TX12s kd mr z) (I : tC mi0 ml T z 0 m) (h5 : mi (z + 5) = mi0 (z + 5)) (h6 : mi (z + 6) = mi0 (z + 6))
    (k0 : isK y m = false → K false mi ml) (k1 : ∀ k, k < m → y = nI k → ∀ mi', (∀ a, a ≠ z → mi' a = mi a) → (∀ b, b < 25 ∨ 29 < b → mi' z b = mi z b) → Hd mi' z k (fun j => mi0 (z + 6) (106 * 0 + 53 * k + j)) → K true mi' ml) : wB l M_X12_hand (d + 3) [.ref z, .int y] kd mr mi ml K := by
  refine s_hand tz (m := m) (by rw [h5]; exact I.2.2.1) I.1 (fun k hk => ?_) k0 (fun k hk hy mi' g1 g2 g3 => k1 k hk hy mi' g1 g2 ?_)
  · have := (I.2.2.2 k hk).1
    rw [← row0] at this
    rw [h6]; exact this
  · rw [h6, row0] at g3; exact g3
theorem t_hearsZ {T : Nat} {a b c : Int32} {K : Int32 → pm_I → pm_L → Prop} (tz : TX12s kd mr z) (I : tC mi ml T z 0 m) (k9 : ∀ v mi', vHears m (fun k j => mi (z + 6) (106 * 0 + 53 * k + j)) a b c v → frZ z mi mi' ml ml → K v mi' ml) : wI l M_X12_hears (d + 4) [.ref z, .int a, .int b, .int c] kd mr mi ml K := by
  have f1 : frZ z mi (pm_up mi z 0 0) ml ml := frZ.upI (Or.inl rfl)
  refine w_X12_hears tz (s_handZ tz I (pm_up_row mi _ (by omega)) (pm_up_row mi _ (by omega)) (fun h => ⟨fun _ => k9 _ _ (vK_no h) f1, fun h2 => (by cases h2)⟩) (fun k hk ha mi' g1 g2 H => ⟨fun h2 => (by cases h2), fun _ => ?_⟩))
  have f2 : frZ z mi mi' ml ml := f1.tr fun a ha => ⟨g1 a (by omega), rfl⟩
  obtain ⟨O, -⟩ := I.2.2.2 k hk
  have hI := I.1
  refine s_isPlayer tz H O ⟨fun h => k9 _ _ (vK_yes hk (by omega) ha (vK_no h)) f2, fun h => ?_⟩
  obtain ⟨p, hp, hp2, hb⟩ := isK_iff.mp h
  obtain ⟨c1, c2⟩ := cellC_lt O (Or.inl ⟨rfl, hp⟩)
  have hp6 := O.2.2.2.2.1
  have hw := O.w
  refine s_isCell tz H O ⟨fun h2 => ?_, fun h2 => k9 _ _ (vK_yes hk (by omega) ha (vK_yes hp hp2 hb (vK_no h2))) f2⟩
  obtain ⟨e, he, he2, hc⟩ := isK_iff.mp h2
  refine s_cellOf (a := 9) tz H O rfl hb (by omega) (by omega) (s_findCost tz H O rfl c1 (fun g a2 hg => ?_))
  obtain ⟨h3, h4, h5, h6⟩ := hg e he
  subst hc
  have h7 := h6 56 (reach_all O c1 he)
  refine ⟨z_in (by omega) (by omega), ?_⟩
  rw [z_cl he2, pm_ur_s, h3]
  exact k9 _ _ (vK_yes hk (by omega) ha (vK_yes hp hp2 hb (vK_yes he he2 rfl ⟨a2 e, ⟨h5 (by omega), h6⟩, rfl⟩))) (f2.tr (frZ.urI (by omega)))
end TOP
