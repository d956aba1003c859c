/-! flows: pure -/
def sm (f : Nat → Int) : Nat → Int
  | 0 => 0
  | n + 1 => sm f n + f n
theorem sm_s (f : Nat → Int) (n : Nat) : sm f (n + 1) = sm f n + f n := rfl
theorem sm_congr {f g : Nat → Int} : ∀ n, (∀ i, i < n → f i = g i) → sm f n = sm g n := by
  intro n
  induction n with
  | zero => intro _; rfl
  | succ n ih => intro h; rw [sm_s, sm_s, ih fun i hi => h i (by omega), h n (by omega)]
theorem sm_add (f g : Nat → Int) : ∀ n, sm (fun i => f i + g i) n = sm f n + sm g n := by
  intro n
  induction n with
  | zero => rfl
  | succ n ih => rw [sm_s, sm_s, sm_s, ih]; omega
theorem sm_sub (f g : Nat → Int) : ∀ n, sm (fun i => f i - g i) n = sm f n - sm g n := by
  intro n
  induction n with
  | zero => rfl
  | succ n ih => rw [sm_s, sm_s, sm_s, ih]; omega
theorem sm_mul (c : Int) (f : Nat → Int) : ∀ n, sm (fun i => c * f i) n = c * sm f n := by
  intro n
  induction n with
  | zero => exact (Int.mul_zero c).symm
  | succ n ih => rw [sm_s, sm_s, ih, Int.mul_add]
theorem sm_le {f g : Nat → Int} : ∀ n, (∀ i, i < n → f i ≤ g i) → sm f n ≤ sm g n := by
  intro n
  induction n with
  | zero => intro _; exact Int.le_refl _
  | succ n ih =>
    intro h
    have h1 := ih fun i hi => h i (by omega)
    have h2 := h n (by omega)
    rw [sm_s, sm_s]; omega
theorem sm_zero : ∀ n, sm (fun _ => 0) n = 0 := by
  intro n
  induction n with
  | zero => rfl
  | succ n ih => rw [sm_s, ih]; rfl
theorem sm_swap (f : Nat → Nat → Int) (m : Nat) : ∀ n, sm (fun i => sm (fun j => f i j) m) n = sm (fun j => sm (fun i => f i j) n) m := by
  intro n
  induction n with
  | zero => exact (sm_zero m).symm
  | succ n ih =>
    rw [sm_s, ih, ← sm_add]
    exact sm_congr m fun j _ => rfl
theorem sm_up {f : Nat → Int} {j : Nat} {y : Int} : ∀ n, j < n → sm (fun i => if i = j then y else f i) n = sm f n + (y - f j) := by
  intro n
  induction n with
  | zero => intro h; omega
  | succ n ih =>
    intro h
    rw [sm_s, sm_s]
    by_cases q : j = n
    · subst q
      rw [if_pos rfl, sm_congr (g := f) j fun i hi => if_neg (by omega)]
      omega
    · rw [ih (by omega), if_neg (by omega)]
      omega
theorem sm_one {v : Int} {j n : Nat} (hj : j < n) : sm (fun i => if i = j then v else 0) n = v := by
  rw [sm_up (f := fun _ => 0) n hj, sm_zero]; omega
def bI (b : Bool) : Int := if b = true then 1 else 0
theorem bI_t : bI true = 1 := rfl
theorem bI_f : bI false = 0 := rfl
theorem bI_01 (b : Bool) : 0 ≤ bI b ∧ bI b ≤ 1 := by cases b <;> decide
theorem sm_nn {P : Nat → Bool} : ∀ n, 0 ≤ sm (fun i => bI (P i)) n := by
  intro n
  induction n with
  | zero => exact Int.le_refl _
  | succ n ih => rw [sm_s]; have := (bI_01 (P n)).1; omega
theorem sm_ge {P : Nat → Bool} : ∀ n, ∀ i, i < n → P i = true → 1 ≤ sm (fun i => bI (P i)) n := by
  intro n
  induction n with
  | zero => intro i hi; omega
  | succ n ih =>
    intro i hi h
    rw [sm_s]
    have h1 := sm_nn (P := P) n
    have h2 := (bI_01 (P n)).1
    by_cases q : i = n
    · subst q; rw [h, bI_t]; omega
    · have := ih i (by omega) h; omega
theorem sm_none {P : Nat → Bool} {n : Nat} (h : sm (fun i => bI (P i)) n = 0) : ∀ i, i < n → P i = false := by
  intro i hi
  cases q : P i with
  | false => rfl
  | true => have := sm_ge n i hi q; omega
theorem sm_uniq {P : Nat → Bool} : ∀ n, sm (fun i => bI (P i)) n ≤ 1 → ∀ i j, i < n → j < n → P i = true → P j = true → i = j := by
  intro n
  induction n with
  | zero => intro _ i j hi; omega
  | succ n ih =>
    intro h i j hi hj h1 h2
    rw [sm_s] at h
    have h3 := (bI_01 (P n)).1
    by_cases qi : i = n
    · by_cases qj : j = n
      · omega
      · have := sm_ge n j (by omega) h2
        rw [← qi, h1, bI_t] at h
        rw [qi] at h
        omega
    · by_cases qj : j = n
      · have := sm_ge n i (by omega) h1
        rw [← qj, h2, bI_t] at h
        rw [qj] at h
        omega
      · exact ih (by omega) i j (by omega) (by omega) h1 h2
theorem sm_some {P : Nat → Bool} : ∀ n, 1 ≤ sm (fun i => bI (P i)) n → ∃ i, i < n ∧ P i = true := by
  intro n
  induction n with
  | zero => intro h; exact absurd (show (1 : Int) ≤ 0 from h) (by decide)
  | succ n ih =>
    intro h
    rw [sm_s] at h
    cases q : P n with
    | true => exact ⟨n, by omega, q⟩
    | false =>
      rw [q, bI_f] at h
      obtain ⟨i, h1, h2⟩ := ih (by omega)
      exact ⟨i, by omega, h2⟩
def outF (F : Nat → Nat → Bool) (u : Nat) : Int := sm (fun v => bI (F u v)) 64
def inF (F : Nat → Nat → Bool) (v : Nat) : Int := sm (fun u => bI (F u v)) 64
/-- a flow of value n from a to b over arcs ar (T: the spots that it goes through), and one unit more from cur on -/
def Flw (ar : Nat → Nat → Prop) (a b : Nat) (F : Nat → Nat → Bool) (T : Nat → Bool) (n : Int) (cur : Nat) : Prop :=
  (∀ u v, F u v = true → u < 64 ∧ v < 64 ∧ ar u v ∧ v ≠ a) ∧ (∀ v, T v = true → v < 64 ∧ v ≠ a ∧ v ≠ b) ∧
  (∀ v, v < 64 → v ≠ b → inF F v + (if cur = v then 1 else 0) = bI (T v)) ∧
  (∀ u, u < 64 → u ≠ a → outF F u = bI (T u) + (if cur = 64 + u then 1 else 0)) ∧ outF F a = n + (if cur = 64 + a then 1 else 0)
section FLOW
variable {ar : Nat → Nat → Prop} {a b : Nat}
theorem Flw.plain {F : Nat → Nat → Bool} {T : Nat → Bool} {n : Int} (h : Flw ar a b F T n b) (ha : a < 64) (hb : b < 64) : T a = false ∧ (∀ v, v < 64 → v ≠ b → inF F v = bI (T v)) ∧ (∀ u, u < 64 → u ≠ a → outF F u = bI (T u)) ∧ outF F a = n := by
  obtain ⟨-, h2, h3, h4, h5⟩ := h
  refine ⟨?_, fun v hv hvb => ?_, fun u hu hua => ?_, ?_⟩
  · cases q : T a with
    | false => rfl
    | true => exact absurd rfl (h2 a q).2.1
  · have := h3 v hv hvb
    rw [if_neg (fun q => hvb q.symm)] at this
    omega
  · have := h4 u hu hua
    rw [if_neg (by omega)] at this
    omega
  · rw [if_neg (by omega)] at h5; omega
theorem Flw.val {F : Nat → Nat → Bool} {T : Nat → Bool} {n : Int} (h : Flw ar a b F T n b) (ha : a < 64) (hb : b < 64) (E X : Nat → Bool) (xa : X a = true) (eb : E b = false) :
    n = sm (fun u => sm (fun v => bI (F u v) * (bI (X u) - bI (E v))) 64) 64 + sm (fun v => bI (T v) * (bI (E v) - bI (X v))) 64 := by
  obtain ⟨ta, h3, h4, h5⟩ := h.plain ha hb
  have e1 : sm (fun u => bI (X u) * (outF F u - bI (T u))) 64 = n := by
    rw [sm_congr (g := fun u => if u = a then n else 0) 64 fun u hu => ?_, sm_one ha]
    by_cases q : u = a
    · subst q; rw [if_pos rfl, xa, ta, bI_t, bI_f, h5]; omega
    · rw [if_neg q, h4 u hu q, Int.sub_self, Int.mul_zero]
  have e2 : sm (fun v => bI (E v) * (bI (T v) - inF F v)) 64 = 0 := by
    rw [sm_congr (g := fun _ => 0) 64 fun v hv => ?_, sm_zero]
    by_cases q : v = b
    · subst q; rw [eb, bI_f, Int.zero_mul]
    · rw [h3 v hv q, Int.sub_self, Int.mul_zero]
  have e3 : sm (fun u => sm (fun v => bI (F u v) * (bI (X u) - bI (E v))) 64) 64 = sm (fun u => bI (X u) * outF F u) 64 - sm (fun v => bI (E v) * inF F v) 64 := by
    have i1 : sm (fun u => sm (fun v => bI (F u v) * (bI (X u) - bI (E v))) 64) 64 = sm (fun u => bI (X u) * outF F u - sm (fun v => bI (E v) * bI (F u v)) 64) 64 := by
      refine sm_congr 64 fun u _ => ?_
      unfold outF
      rw [← sm_mul, ← sm_sub]
      refine sm_congr 64 fun v _ => ?_
      rw [Int.mul_sub, Int.mul_comm (bI (F u v)) (bI (X u)), Int.mul_comm (bI (F u v)) (bI (E v))]
    have i2 : sm (fun j => sm (fun i => bI (E j) * bI (F i j)) 64) 64 = sm (fun v => bI (E v) * inF F v) 64 := sm_congr 64 fun v _ => sm_mul _ _ 64
    rw [i1, sm_sub, sm_swap, i2]
  have e4 : sm (fun v => bI (T v) * (bI (E v) - bI (X v))) 64 = sm (fun v => bI (E v) * bI (T v)) 64 - sm (fun v => bI (X v) * bI (T v)) 64 := by
    rw [← sm_sub]
    refine sm_congr 64 fun v _ => ?_
    rw [Int.mul_sub, Int.mul_comm (bI (T v)) (bI (E v)), Int.mul_comm (bI (T v)) (bI (X v))]
  have e5 : sm (fun u => bI (X u) * (outF F u - bI (T u))) 64 = sm (fun u => bI (X u) * outF F u) 64 - sm (fun v => bI (X v) * bI (T v)) 64 := by
    rw [← sm_sub]
    exact sm_congr 64 fun v _ => Int.mul_sub _ _ _
  have e6 : sm (fun v => bI (E v) * (bI (T v) - inF F v)) 64 = sm (fun v => bI (E v) * bI (T v)) 64 - sm (fun v => bI (E v) * inF F v) 64 := by
    rw [← sm_sub]
    exact sm_congr 64 fun v _ => Int.mul_sub _ _ _
  omega
theorem fl_cut {F F' : Nat → Nat → Bool} {T T' : Nat → Bool} {n n' : Int} (h : Flw ar a b F T n b) (h' : Flw ar a b F' T' n' b) (ha : a < 64) (hb : b < 64) (E X : Nat → Bool) (xa : X a = true) (eb : E b = false)
    (c1 : ∀ u v, u < 64 → v < 64 → X u = true → ar u v → v ≠ a → F u v = false → E v = true) (c2 : ∀ u v, u < 64 → v < 64 → E v = true → F u v = true → X u = true)
    (c3 : ∀ v, v < 64 → E v = true → v ≠ a → v ≠ b → T v = false → X v = true) (c4 : ∀ v, v < 64 → X v = true → T v = true → E v = true) : n' ≤ n := by
  rw [h.val ha hb E X xa eb, h'.val ha hb E X xa eb]
  have p1 : sm (fun u => sm (fun v => bI (F' u v) * (bI (X u) - bI (E v))) 64) 64 ≤ sm (fun u => sm (fun v => bI (F u v) * (bI (X u) - bI (E v))) 64) 64 := by
    refine sm_le 64 fun u hu => sm_le 64 fun v hv => ?_
    cases qx : X u <;> cases qe : E v <;> cases q : F u v <;> cases q' : F' u v <;> first | decide | skip
    · exact absurd (c2 u v hu hv qe q) (by rw [qx]; decide)
    · obtain ⟨-, -, g3, g4⟩ := h'.1 u v q'
      exact absurd (c1 u v hu hv qx g3 g4 q) (by rw [qe]; decide)
  have p2 : sm (fun v => bI (T' v) * (bI (E v) - bI (X v))) 64 ≤ sm (fun v => bI (T v) * (bI (E v) - bI (X v))) 64 := by
    refine sm_le 64 fun v hv => ?_
    cases qx : X v <;> cases qe : E v <;> cases q : T v <;> cases q' : T' v <;> first | decide | skip
    · obtain ⟨-, g3, g4⟩ := h'.2.1 v q'
      exact absurd (c3 v hv qe g3 g4 q) (by rw [qx]; decide)
    · exact absurd (c4 v hv qx q) (by rw [qe]; decide)
  omega
theorem fl_four {F : Nat → Nat → Bool} {T : Nat → Bool} {n : Int} (h : Flw ar a b F T n b) (ha : a < 64) (hb : b < 64) (o : Nat → Option Nat) (ho : ∀ v, ar a v → ∃ w, w < 4 ∧ o w = some v) : n ≤ 4 := by
  obtain ⟨-, -, -, h5⟩ := h.plain ha hb
  have h1 : outF F a ≤ sm (fun v => sm (fun w => bI (decide (o w = some v))) 4) 64 := by
    refine sm_le 64 fun v _ => ?_
    cases q : F a v with
    | false => exact sm_nn 4
    | true =>
      obtain ⟨w, w1, w2⟩ := ho v (h.1 a v q).2.2.1
      exact sm_ge (P := fun w => decide (o w = some v)) 4 w w1 (decide_eq_true w2)
  have h2 : sm (fun v => sm (fun w => bI (decide (o w = some v))) 4) 64 ≤ sm (fun _ => 1) 4 := by
    rw [sm_swap]
    refine sm_le 4 fun w _ => ?_
    cases q : o w with
    | none =>
      rw [sm_congr (g := fun _ => 0) 64 fun v _ => ?_, sm_zero]
      · decide
      · rw [decide_eq_false (by simp)]; rfl
    | some t =>
      by_cases ht : t < 64
      · rw [sm_congr (g := fun v => if v = t then 1 else 0) 64 fun v _ => ?_, sm_one ht]
        · exact Int.le_refl _
        · by_cases e : v = t
          · subst e; rw [if_pos rfl, decide_eq_true rfl]; rfl
          · rw [if_neg e, decide_eq_false (by simp; omega)]; rfl
      · rw [sm_congr (g := fun _ => 0) 64 fun v hv => ?_, sm_zero]
        · decide
        · rw [decide_eq_false (by simp; omega)]; rfl
  have h3 : sm (fun _ => 1) 4 = 4 := by decide
  omega
/-- one more can go from x to y -/
def Rs (ar : Nat → Nat → Prop) (a b : Nat) (F : Nat → Nat → Bool) (T : Nat → Bool) (x y : Nat) : Prop :=
  (∃ u v, x = 64 + u ∧ y = v ∧ u < 64 ∧ v < 64 ∧ ar u v ∧ v ≠ a ∧ F u v = false) ∨ (∃ u v, x = v ∧ y = 64 + u ∧ u < 64 ∧ v < 64 ∧ F u v = true) ∨
  (∃ v, x = v ∧ y = 64 + v ∧ v < 64 ∧ v ≠ a ∧ v ≠ b ∧ T v = false) ∨ ∃ v, x = 64 + v ∧ y = v ∧ v < 64 ∧ T v = true
/-- it goes -/
def stF (F : Nat → Nat → Bool) (p c : Nat) : Nat → Nat → Bool := fun u v => if p = 64 + u ∧ c = v ∧ ¬ u = v then true else if p = v ∧ c = 64 + u ∧ ¬ u = v then false else F u v
def stT (T : Nat → Bool) (p c : Nat) : Nat → Bool := fun v => if p = v ∧ c = 64 + v then true else if p = 64 + v ∧ c = v then false else T v
theorem sm_b {P Q : Nat → Bool} {j : Nat} {y : Bool} (hj : j < 64) (h : ∀ i, i < 64 → Q i = if i = j then y else P i) : sm (fun i => bI (Q i)) 64 = sm (fun i => bI (P i)) 64 + (bI y - bI (P j)) := by
  rw [← sm_up 64 hj]
  refine sm_congr 64 fun i hi => ?_
  rw [h i hi]
  split <;> rfl
theorem aug1 {F : Nat → Nat → Bool} {T : Nat → Bool} {n : Int} {p c : Nat} (ir : ∀ u, ¬ ar u u) (h : Flw ar a b F T n c) (R : Rs ar a b F T p c) (hc : c ≠ 64 + a) : Flw ar a b (stF F p c) (stT T p c) n p := by
  obtain ⟨h1, h2, h3, h4, h5⟩ := h
  rcases R with ⟨u0, v0, rfl, rfl, hu, hv, har, hva, hF⟩ | ⟨u0, v0, rfl, rfl, hu, hv, hF⟩ | ⟨v0, rfl, rfl, hv, hva, hvb, hT⟩ | ⟨v0, rfl, rfl, hv, hT⟩
  · -- over a free arc
    have hne : ¬ u0 = c := fun q => ir c (q ▸ har)
    have eF : ∀ u v, v < 64 → stF F (64 + u0) c u v = if u = u0 ∧ v = c then true else F u v := by
      intro u v hv2
      unfold stF
      by_cases q : u = u0 ∧ v = c
      · rw [if_pos q, if_pos ⟨by omega, q.2.symm, by omega⟩]
      · rw [if_neg q, if_neg (fun z => q ⟨by omega, z.2.1.symm⟩), if_neg (by omega)]
    have eT : stT T (64 + u0) c = T := by
      funext v; unfold stT
      rw [if_neg (by omega), if_neg (by omega)]
    have eo : ∀ u, u ≠ u0 → outF (stF F (64 + u0) c) u = outF F u := fun u hu2 => sm_congr 64 fun v hv2 => by rw [eF u v hv2, if_neg (fun z => hu2 z.1)]
    have eo2 : outF (stF F (64 + u0) c) u0 = outF F u0 + 1 := by
      have := sm_b (P := F u0) (Q := stF F (64 + u0) c u0) (y := true) hv (fun i hi => by rw [eF u0 i hi]; by_cases z : i = c <;> simp [z])
      unfold outF
      rw [this, hF, bI_t, bI_f]; rfl
    have ei : ∀ v, v < 64 → v ≠ c → inF (stF F (64 + u0) c) v = inF F v := fun v hv1 hv2 => sm_congr 64 fun u _ => by rw [eF u v hv1, if_neg (fun z => hv2 z.2)]
    have ei2 : inF (stF F (64 + u0) c) c = inF F c + 1 := by
      have := sm_b (P := fun u => F u c) (Q := fun u => stF F (64 + u0) c u c) (y := true) hu (fun i hi => by rw [eF i c hv]; by_cases z : i = u0 <;> simp [z])
      unfold inF
      rw [this, hF, bI_t, bI_f]; rfl
    refine ⟨fun u v hh => ?_, fun v hh => h2 v (by rw [eT] at hh; exact hh), fun v hv2 hvb => ?_, fun u hu2 hua => ?_, ?_⟩
    · unfold stF at hh
      split at hh
      · rename_i q
        obtain ⟨q1, q2, q3⟩ := q
        have : u0 = u := by omega
        subst this; subst q2
        exact ⟨hu, hv, har, hva⟩
      · split at hh
        · cases hh
        · exact h1 u v hh
    · have := h3 v hv2 hvb
      rw [eT, if_neg (by omega)]
      by_cases q : v = c
      · subst q; rw [ei2]; rw [if_pos rfl] at this; omega
      · rw [ei v hv2 q]; rw [if_neg (by omega)] at this; omega
    · have := h4 u hu2 hua
      rw [if_neg (by omega)] at this
      rw [eT]
      by_cases q : u = u0
      · subst q; rw [eo2, if_pos rfl]; omega
      · rw [eo u q, if_neg (by omega)]; omega
    · rw [if_neg (by omega)] at h5
      by_cases q : a = u0
      · subst q; rw [eo2, if_pos rfl]; omega
      · rw [eo a q, if_neg (by omega)]; omega
  · -- back over an arc
    obtain ⟨-, -, har, hva⟩ := h1 u0 p hF
    have hne : ¬ u0 = p := fun q => ir p (q ▸ har)
    have eF : ∀ u v, v < 64 → stF F p (64 + u0) u v = if u = u0 ∧ v = p then false else F u v := by
      intro u v hv2
      unfold stF
      rw [if_neg (by omega)]
      by_cases q : u = u0 ∧ v = p
      · rw [if_pos q, if_pos ⟨q.2.symm, by omega, by omega⟩]
      · rw [if_neg q, if_neg (fun z => q ⟨by omega, z.1.symm⟩)]
    have eT : stT T p (64 + u0) = T := by
      funext v; unfold stT
      rw [if_neg (by omega), if_neg (by omega)]
    have eo : ∀ u, u ≠ u0 → outF (stF F p (64 + u0)) u = outF F u := fun u hu2 => sm_congr 64 fun v hv2 => by rw [eF u v hv2, if_neg (fun z => hu2 z.1)]
    have eo2 : outF (stF F p (64 + u0)) u0 = outF F u0 - 1 := by
      have := sm_b (P := F u0) (Q := stF F p (64 + u0) u0) (y := false) hv (fun i hi => by rw [eF u0 i hi]; by_cases z : i = p <;> simp [z])
      unfold outF
      rw [this, hF, bI_t, bI_f]; omega
    have ei : ∀ v, v < 64 → v ≠ p → inF (stF F p (64 + u0)) v = inF F v := fun v hv1 hv2 => sm_congr 64 fun u _ => by rw [eF u v hv1, if_neg (fun z => hv2 z.2)]
    have ei2 : inF (stF F p (64 + u0)) p = inF F p - 1 := by
      have := sm_b (P := fun u => F u p) (Q := fun u => stF F p (64 + u0) u p) (y := false) hu (fun i hi => by rw [eF i p hv]; by_cases z : i = u0 <;> simp [z])
      unfold inF
      rw [this, hF, bI_t, bI_f]; omega
    refine ⟨fun u v hh => ?_, fun v hh => h2 v (by rw [eT] at hh; exact hh), fun v hv2 hvb => ?_, fun u hu2 hua => ?_, ?_⟩
    · unfold stF at hh
      rw [if_neg (by omega)] at hh
      split at hh
      · cases hh
      · exact h1 u v hh
    · have := h3 v hv2 hvb
      rw [if_neg (by omega)] at this
      rw [eT]
      by_cases q : v = p
      · subst q; rw [ei2, if_pos rfl]; omega
      · rw [ei v hv2 q, if_neg (by omega)]; omega
    · have := h4 u hu2 hua
      rw [eT, if_neg (by omega)]
      by_cases q : u = u0
      · subst q; rw [eo2]; rw [if_pos rfl] at this; omega
      · rw [eo u q]; rw [if_neg (by omega)] at this; omega
    · have ha : ¬ a = u0 := by omega
      rw [if_neg (by omega)] at h5
      rw [eo a ha, if_neg (by omega)]; omega
  · -- through a spot
    have eF : stF F p (64 + p) = F := by
      funext u v; unfold stF
      rw [if_neg (by omega), if_neg (by omega)]
    have eT : ∀ v, stT T p (64 + p) v = if v = p then true else T v := by
      intro v; unfold stT
      by_cases q : v = p
      · rw [if_pos q, if_pos ⟨q.symm, by omega⟩]
      · rw [if_neg q, if_neg (by omega), if_neg (by omega)]
    rw [eF]
    refine ⟨h1, fun v hh => ?_, fun v hv2 hvb2 => ?_, fun u hu2 hua => ?_, ?_⟩
    · rw [eT v] at hh
      split at hh
      · rename_i q; subst q; exact ⟨hv, hva, hvb⟩
      · exact h2 v hh
    · have := h3 v hv2 hvb2
      rw [if_neg (by omega)] at this
      rw [eT v]
      by_cases q : v = p
      · subst q; rw [if_pos rfl, if_pos rfl, bI_t]; rw [hT, bI_f] at this; omega
      · rw [if_neg (by omega), if_neg q]; omega
    · have := h4 u hu2 hua
      rw [eT u, if_neg (show ¬ p = 64 + u by omega)]
      by_cases q : u = p
      · subst q; rw [if_pos rfl, bI_t]; rw [if_pos rfl, hT, bI_f] at this; omega
      · rw [if_neg q]; rw [if_neg (by omega)] at this; omega
    · rw [if_neg (by omega)] at h5
      rw [if_neg (by omega)]; omega
  · -- back through a spot
    obtain ⟨-, hva, hvb⟩ := h2 c hT
    have eF : stF F (64 + c) c = F := by
      funext u v; unfold stF
      rw [if_neg (by omega), if_neg (by omega)]
    have eT : ∀ v, stT T (64 + c) c v = if v = c then false else T v := by
      intro v; unfold stT
      by_cases q : v = c
      · rw [if_pos q, if_neg (by omega), if_pos ⟨by omega, q.symm⟩]
      · rw [if_neg q, if_neg (by omega), if_neg (by omega)]
    rw [eF]
    refine ⟨h1, fun v hh => ?_, fun v hv2 hvb2 => ?_, fun u hu2 hua => ?_, ?_⟩
    · rw [eT v] at hh
      split at hh
      · cases hh
      · exact h2 v hh
    · have := h3 v hv2 hvb2
      rw [eT v, if_neg (by omega)]
      by_cases q : v = c
      · subst q; rw [if_pos rfl, bI_f]; rw [if_pos rfl, hT, bI_t] at this; omega
      · rw [if_neg q]; rw [if_neg (by omega)] at this; omega
    · have := h4 u hu2 hua
      rw [if_neg (by omega)] at this
      rw [eT u]
      by_cases q : u = c
      · subst q; rw [if_pos rfl, if_pos rfl, bI_f]; rw [hT, bI_t] at this; omega
      · rw [if_neg q, if_neg (by omega)]; omega
    · rw [if_neg hc] at h5
      rw [if_neg (by omega)]; omega
theorem aug2 {F : Nat → Nat → Bool} {T : Nat → Bool} {p c x y : Nat} (R : Rs ar a b F T x y) (n1 : ¬ (x = p ∧ y = c)) (n2 : ¬ (x = c ∧ y = p)) : Rs ar a b (stF F p c) (stT T p c) x y := by
  have eF : ∀ u v, u < 64 → v < 64 → ¬ (p = 64 + u ∧ c = v) → ¬ (p = v ∧ c = 64 + u) → stF F p c u v = F u v := by
    intro u v _ _ q1 q2; unfold stF
    rw [if_neg (fun z => q1 ⟨z.1, z.2.1⟩), if_neg (fun z => q2 ⟨z.1, z.2.1⟩)]
  have eT : ∀ v, ¬ (p = v ∧ c = 64 + v) → ¬ (p = 64 + v ∧ c = v) → stT T p c v = T v := by
    intro v q1 q2; unfold stT
    rw [if_neg q1, if_neg q2]
  rcases R with ⟨u, v, rfl, rfl, hu, hv, har, hva, hF⟩ | ⟨u, v, rfl, rfl, hu, hv, hF⟩ | ⟨v, rfl, rfl, hv, hva, hvb, hT⟩ | ⟨v, rfl, rfl, hv, hT⟩
  · exact Or.inl ⟨u, y, rfl, rfl, hu, hv, har, hva, by rw [eF u y hu hv (by omega) (by omega)]; exact hF⟩
  · exact Or.inr (Or.inl ⟨u, x, rfl, rfl, hu, hv, by rw [eF u x hu hv (by omega) (by omega)]; exact hF⟩)
  · exact Or.inr (Or.inr (Or.inl ⟨x, rfl, rfl, hv, hva, hvb, by rw [eT x (by omega) (by omega)]; exact hT⟩))
  · exact Or.inr (Or.inr (Or.inr ⟨y, rfl, rfl, hv, by rw [eT y (by omega) (by omega)]; exact hT⟩))
theorem Flw.fin {F : Nat → Nat → Bool} {T : Nat → Bool} {n : Int} (h : Flw ar a b F T n (64 + a)) (ha : a < 64) (hb : b < 64) : Flw ar a b F T (n + 1) b := by
  obtain ⟨h1, h2, h3, h4, h5⟩ := h
  refine ⟨h1, h2, fun v hv hvb => ?_, fun u hu hua => ?_, ?_⟩
  · have := h3 v hv hvb
    rw [if_neg (by omega)] at this
    rw [if_neg (fun q => hvb q.symm)]; exact this
  · have := h4 u hu hua
    rw [if_neg (by omega)] at this
    rw [if_neg (by omega)]; exact this
  · rw [if_pos rfl] at h5
    rw [if_neg (by omega)]; omega
theorem Flw.zero (hb : b < 64) (hab : a ≠ b) : Flw ar a b (fun _ _ => false) (fun _ => false) 0 b := by
  have e : sm (fun _ => bI false) 64 = 0 := sm_zero 64
  refine ⟨fun u v h => (nomatch (show false = true from h)), fun v h => (nomatch (show false = true from h)), fun v hv hvb => ?_, fun u hu hua => ?_, ?_⟩
  · unfold inF; rw [e, if_neg (fun q => hvb q.symm)]; rfl
  · unfold outF; rw [e, if_neg (by omega)]; rfl
  · unfold outF
    rw [e]
    by_cases q : b = 64 + a
    · omega
    · rw [if_neg q]; rfl
end FLOW
/-! a search in width -/
/-- q: the nodes in the order in which they were met; pr: from where; the first hd have been looked at -/
def Bq (R Rc : Nat → Nat → Prop) (root : Nat) (q : Nat → Nat) (m : Nat) (pr : Nat → Option Nat) (hd : Nat) : Prop :=
  1 ≤ m ∧ q 0 = root ∧ (∀ j, j < m → q j < 128) ∧ (∀ x, (pr x).isSome = true ↔ ∃ j, j < m ∧ q j = x) ∧ (∀ i j, i < m → j < m → q i = q j → i = j) ∧ (∀ j, 0 < j → j < m → ∃ i, i < j ∧ pr (q j) = some (q i) ∧ R (q i) (q j)) ∧
  cnt (fun x => (pr x).isSome) 128 = m ∧ hd ≤ m ∧ ∀ i, i < hd → ∀ y, Rc (q i) y → ∃ j, j < m ∧ q j = y
section BQ
variable {R Rc : Nat → Nat → Prop} {root m hd : Nat} {q : Nat → Nat} {pr : Nat → Option Nat}
theorem Bq.le (h : Bq R Rc root q m pr hd) : m ≤ 128 := by
  have := h.2.2.2.2.2.2.1
  have h2 := cnt_le (fun x => (pr x).isSome) 128
  omega
theorem cnt_one {P : Nat → Bool} {y : Nat} : ∀ n, y < n → (∀ i, i < n → i ≠ y → P i = false) → P y = true → cnt P n = 1 := by
  intro n hy h1 h2
  have e := cnt_less (P := P) (Q := fun _ => false) (j := y) h2 n hy fun s hs => by
    by_cases q : s = y
    · simp [q]
    · rw [h1 s hs q]; rfl
  have z : ∀ n, cnt (fun _ => false) n = 0 := by
    intro n
    induction n with
    | zero => rfl
    | succ n ih => unfold cnt; rw [ih]; rfl
  rw [z n] at e
  omega
theorem Bq.init {p0 : Nat} (hr : root < 128) : Bq R Rc root (fun _ => root) 1 (fun x => if x = root then some p0 else none) 0 := by
  refine ⟨by omega, rfl, fun _ _ => hr, fun x => ?_, fun i j hi hj _ => by omega, fun j h1 h2 => by omega, ?_, by omega, fun i hi => by omega⟩
  · dsimp only
    by_cases q : x = root
    · subst q; rw [if_pos rfl]; exact ⟨fun _ => ⟨0, by omega, rfl⟩, fun _ => rfl⟩
    · rw [if_neg q]; exact ⟨fun z => (by cases z), fun ⟨j, _, z⟩ => absurd z.symm q⟩
  · exact cnt_one 128 hr (fun i _ hi => by dsimp only; rw [if_neg hi]; rfl) (by dsimp only; rw [if_pos rfl]; rfl)
/-- one more is met -/
theorem Bq.add {y x : Nat} (h : Bq R Rc root q m pr hd) (hx : q hd = x) (hm : hd < m) (hy : y < 128) (hn : pr y = none) (hR : R x y) : m < 128 ∧ Bq R Rc root (fun j => if j = m then y else q j) (m + 1) (fun z => if z = y then some x else pr z) hd := by
  obtain ⟨h1, h2, h3, h4, h5, h6, h7, h8, h9⟩ := id h
  subst hx
  have hny : ∀ j, j < m → q j ≠ y := fun j hj z => by
    have := (h4 y).mpr ⟨j, hj, z⟩
    rw [hn] at this; cases this
  have ec : cnt (fun z => ((if z = y then some (q hd) else pr z) : Option Nat).isSome) 128 = m + 1 := by
    have := cnt_less (P := fun z => ((if z = y then some (q hd) else pr z) : Option Nat).isSome) (Q := fun z => (pr z).isSome) (j := y) (by simp) 128 hy fun s _ => by
      by_cases z : s = y
      · subst z; rw [hn]; simp
      · simp [z]
    omega
  have hlt : m < 128 := by
    have := cnt_le (fun z => ((if z = y then some (q hd) else pr z) : Option Nat).isSome) 128
    omega
  refine ⟨hlt, by omega, ?_, fun j hj => ?_, fun z => ?_, fun i j hi hj e => ?_, fun j hj1 hj2 => ?_, ec, by omega, fun i hi z hz => ?_⟩
  · dsimp only; rw [if_neg (by omega)]; exact h2
  · dsimp only; split
    · exact hy
    · exact h3 j (by omega)
  · dsimp only
    by_cases e : z = y
    · subst e
      rw [if_pos rfl]
      exact ⟨fun _ => ⟨m, by omega, if_pos rfl⟩, fun _ => rfl⟩
    · rw [if_neg e, h4 z]
      constructor
      · rintro ⟨j, j1, j2⟩; exact ⟨j, by omega, by rw [if_neg (by omega)]; exact j2⟩
      · rintro ⟨j, j1, j2⟩
        by_cases g : j = m
        · rw [if_pos g] at j2; exact absurd j2.symm e
        · rw [if_neg g] at j2; exact ⟨j, by omega, j2⟩
  · dsimp only at e
    by_cases gi : i = m
    · by_cases gj : j = m
      · omega
      · rw [if_pos gi, if_neg gj] at e; exact absurd e.symm (hny j (by omega))
    · by_cases gj : j = m
      · rw [if_neg gi, if_pos gj] at e; exact absurd e (hny i (by omega))
      · rw [if_neg gi, if_neg gj] at e; exact h5 i j (by omega) (by omega) e
  · by_cases gj : j = m
    · refine ⟨hd, by omega, ?_, ?_⟩
      · dsimp only; rw [if_pos gj, if_pos rfl, if_neg (by omega)]
      · dsimp only; rw [if_pos gj, if_neg (by omega)]; exact hR
    · obtain ⟨i, i1, i2, i3⟩ := h6 j hj1 (by omega)
      refine ⟨i, i1, ?_, ?_⟩
      · dsimp only; rw [if_neg gj, if_neg (hny j (by omega)), if_neg (by omega)]; exact i2
      · dsimp only; rw [if_neg gj, if_neg (by omega)]; exact i3
  · dsimp only at hz
    rw [if_neg (by omega)] at hz
    obtain ⟨j, j1, j2⟩ := h9 i hi z hz
    exact ⟨j, by omega, by dsimp only; rw [if_neg (by omega)]; exact j2⟩
theorem Bq.next (h : Bq R Rc root q m pr hd) (hm : hd < m) (hc : ∀ y, Rc (q hd) y → ∃ j, j < m ∧ q j = y) : Bq R Rc root q m pr (hd + 1) := by
  obtain ⟨h1, h2, h3, h4, h5, h6, h7, h8, h9⟩ := h
  refine ⟨h1, h2, h3, h4, h5, h6, h7, by omega, fun i hi y hy => ?_⟩
  by_cases e : i = hd
  · subst e; exact hc y hy
  · exact h9 i (by omega) y hy
theorem Bq.met (h : Bq R Rc root q m pr hd) {y : Nat} : pr y = none ↔ ¬ ∃ j, j < m ∧ q j = y := by
  rw [← h.2.2.2.1 y]
  cases pr y <;> simp
theorem Bq.par (h : Bq R Rc root q m pr hd) {x p : Nat} (hx : x ≠ root) (hp : pr x = some p) : p < 128 ∧ R p x ∧ ∃ i j, i < j ∧ j < m ∧ q j = x ∧ q i = p := by
  obtain ⟨h1, h2, h3, h4, h5, h6, h7, h8, h9⟩ := h
  obtain ⟨j, j1, rfl⟩ := (h4 x).mp (by rw [hp]; rfl)
  have j0 : 0 < j := Nat.pos_of_ne_zero fun z => by subst z; exact hx h2
  obtain ⟨i, i1, i2, i3⟩ := h6 j j0 j1
  rw [hp] at i2
  have e : p = q i := by injection i2
  subst e
  exact ⟨h3 i (by omega), i3, i, j, i1, j1, rfl, rfl⟩
def Gw (q : Nat → Nat) (m : Nat) (q' : Nat → Nat) (m' : Nat) : Prop := m ≤ m' ∧ ∀ j, j < m → q' j = q j
theorem Gw.rf : Gw q m q m := ⟨Nat.le_refl m, fun _ _ => rfl⟩
theorem Gw.tr {q1 q2 : Nat → Nat} {m1 m2 : Nat} (h1 : Gw q m q1 m1) (h2 : Gw q1 m1 q2 m2) : Gw q m q2 m2 := ⟨Nat.le_trans h1.1 h2.1, fun j hj => (h2.2 j (Nat.lt_of_lt_of_le hj h1.1)).trans (h1.2 j hj)⟩
theorem Gw.met {q1 : Nat → Nat} {m1 y : Nat} (h : Gw q m q1 m1) (hy : ∃ j, j < m ∧ q j = y) : ∃ j, j < m1 ∧ q1 j = y := by
  obtain ⟨j, j1, j2⟩ := hy
  exact ⟨j, Nat.lt_of_lt_of_le j1 h.1, (h.2 j j1).trans j2⟩
end BQ
/-- the greatest value of a flow -/
def isMx (ar : Nat → Nat → Prop) (a b : Nat) (v : Nat) : Prop := (∃ F T, Flw ar a b F T (v : Int) b) ∧ ∀ F T n, Flw ar a b F T n b → n ≤ (v : Int)
theorem isMx.uniq {ar : Nat → Nat → Prop} {a b v v' : Nat} (h : isMx ar a b v) (h' : isMx ar a b v') : v = v' := by
  obtain ⟨⟨F, T, h1⟩, h2⟩ := h
  obtain ⟨⟨F', T', h1'⟩, h2'⟩ := h'
  have g1 := h2 _ _ _ h1'
  have g2 := h2' _ _ _ h1
  omega
/-- nothing more is met, b never was: the flow is a greatest one -/
theorem cut_Bq {ar : Nat → Nat → Prop} {a b m n : Nat} {F : Nat → Nat → Bool} {T : Nat → Bool} {R Rc : Nat → Nat → Prop} {q : Nat → Nat} {pr : Nat → Option Nat} (h : Flw ar a b F T (n : Int) b) (ha : a < 64) (hb : b < 64) (hR : ∀ x y, (pr x).isSome = true → Rs ar a b F T x y → Rc x y) (B : Bq R Rc (64 + a) q m pr m) (hno : pr b = none) : isMx ar a b n := by
  refine ⟨⟨F, T, h⟩, fun F' T' n' h' => ?_⟩
  have cl : ∀ x y, (pr x).isSome = true → Rs ar a b F T x y → (pr y).isSome = true := fun x y hx hr => by
    obtain ⟨i, i1, rfl⟩ := (B.2.2.2.1 x).mp hx
    exact (B.2.2.2.1 y).mpr (B.2.2.2.2.2.2.2.2 i i1 y (hR _ _ hx hr))
  refine fl_cut h h' ha hb (fun v => (pr v).isSome) (fun u => (pr (64 + u)).isSome) ?_ ?_ ?_ ?_ ?_ ?_
  · exact (B.2.2.2.1 _).mpr ⟨0, by have := B.1; omega, B.2.1⟩
  · show (pr b).isSome = false
    rw [hno]; rfl
  · exact fun u v hu hv hx har hva hF => cl _ _ hx (Or.inl ⟨u, v, rfl, rfl, hu, hv, har, hva, hF⟩)
  · exact fun u v hu hv hx hF => cl _ _ hx (Or.inr (Or.inl ⟨u, v, rfl, rfl, hu, hv, hF⟩))
  · exact fun v hv hx hva hvb hT => cl _ _ hx (Or.inr (Or.inr (Or.inl ⟨v, rfl, rfl, hv, hva, hvb, hT⟩)))
  · exact fun v hv hx hT => cl _ _ hx (Or.inr (Or.inr (Or.inr ⟨v, rfl, rfl, hv, hT⟩)))
