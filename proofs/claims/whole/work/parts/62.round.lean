/-! round: orders of the people; forwards and backwards -/
/-- S is visited from the start m, a last, at a cost of k -/
def Fw (D : Nat → Nat → Nat) (m : Nat) : Nat → Nat → Nat → Nat → Prop
  | 0 => fun S a k => a < m ∧ S = 2 ^ a ∧ k = D m a
  | n + 1 => fun S a k => a < m ∧ S.testBit a = true ∧ ∃ p k', Fw D m n (S ^^^ 2 ^ a) p k' ∧ k = k' + D p a
/-- from p all of S are visited at a cost of k -/
def Bw (D : Nat → Nat → Nat) (m : Nat) : Nat → Nat → Nat → Nat → Prop
  | 0 => fun S _ k => S = 0 ∧ k = 0
  | n + 1 => fun S p k => ∃ o k', o < m ∧ S.testBit o = true ∧ Bw D m n (S ^^^ 2 ^ o) o k' ∧ k = D p o + k'
theorem xb (S a i : Nat) : (S ^^^ 2 ^ a).testBit i = (S.testBit i ^^ decide (a = i)) := by rw [Nat.testBit_xor, Nat.testBit_two_pow]
theorem xx (S a : Nat) : S ^^^ 2 ^ a ^^^ 2 ^ a = S := by rw [Nat.xor_assoc, Nat.xor_self, Nat.xor_zero]
section FWB
variable {D : Nat → Nat → Nat} {m : Nat}
theorem Fw.bit : ∀ n S a k, Fw D m n S a k → a < m ∧ S.testBit a = true := by
  intro n S a k h
  cases n with
  | zero => exact ⟨h.1, by rw [h.2.1, Nat.testBit_two_pow_self]⟩
  | succ n => exact ⟨h.1, h.2.1⟩
theorem Fw.not0 {n a k : Nat} (h : Fw D m n 0 a k) : False := by
  have := (Fw.bit _ _ _ _ h).2
  rw [Nat.zero_testBit] at this; cases this
theorem Fw.toB : ∀ n S p k, Fw D m n S p k → ∀ j T k', Bw D m j T p k' → (∀ i, S.testBit i = true → T.testBit i = false) → ∃ j', Bw D m j' (S ^^^ T) m (k + k') := by
  intro n
  induction n with
  | zero =>
    rintro S p k ⟨h1, rfl, rfl⟩ j T k' hB hd
    refine ⟨j + 1, p, k', h1, ?_, ?_, rfl⟩
    · rw [Nat.testBit_xor, Nat.testBit_two_pow_self, hd p (Nat.testBit_two_pow_self)]; rfl
    · rw [Nat.xor_comm (2 ^ p) T, xx]; exact hB
  | succ n ih =>
    rintro S a k ⟨h1, h2, p, k1, h3, rfl⟩ j T k' hB hd
    have hTa := hd a h2
    have hB' : Bw D m (j + 1) (T ^^^ 2 ^ a) p (D p a + k') := ⟨a, k', h1, by rw [xb, hTa]; simp, by rw [xx]; exact hB, rfl⟩
    obtain ⟨j', hj⟩ := ih _ p k1 h3 (j + 1) _ _ hB' fun i hi => by
      rw [xb] at hi ⊢
      by_cases e : a = i
      · subst e; rw [h2] at hi; simp at hi
      · rw [decide_eq_false e, Bool.xor_false] at hi ⊢
        exact hd i hi
    refine ⟨j', ?_⟩
    have e1 : S ^^^ 2 ^ a ^^^ (T ^^^ 2 ^ a) = S ^^^ T := by
      rw [Nat.xor_assoc, Nat.xor_comm T, ← Nat.xor_assoc (2 ^ a), Nat.xor_self, Nat.zero_xor]
    rw [e1] at hj
    rw [Nat.add_assoc]; exact hj
theorem Bw.toF : ∀ j T p k', Bw D m j T p k' → ∀ n S k, Fw D m n S p k → (∀ i, S.testBit i = true → T.testBit i = false) → ∃ n' a, Fw D m n' (S ^^^ T) a (k + k') := by
  intro j
  induction j with
  | zero =>
    rintro T p k' ⟨rfl, rfl⟩ n S k hF _
    exact ⟨n, p, by rw [Nat.xor_zero]; exact hF⟩
  | succ j ih =>
    rintro T p k' ⟨o, k1, h1, h2, h3, rfl⟩ n S k hF hd
    have hSo : S.testBit o = false := by
      cases e : S.testBit o with
      | false => rfl
      | true => rw [hd o e] at h2; cases h2
    have hF' : Fw D m (n + 1) (S ^^^ 2 ^ o) o (k + D p o) := ⟨h1, by rw [xb, hSo]; simp, p, k, by rw [xx]; exact hF, rfl⟩
    obtain ⟨n', a, hn⟩ := ih _ o k1 h3 (n + 1) _ _ hF' fun i hi => by
      rw [xb] at hi ⊢
      by_cases e : o = i
      · subst e; rw [h2]; simp
      · rw [decide_eq_false e, Bool.xor_false] at hi ⊢
        exact hd i hi
    refine ⟨n', a, ?_⟩
    have e1 : S ^^^ 2 ^ o ^^^ (T ^^^ 2 ^ o) = S ^^^ T := by
      rw [Nat.xor_assoc, Nat.xor_comm T, ← Nat.xor_assoc (2 ^ o), Nat.xor_self, Nat.zero_xor]
    rw [e1] at hn
    rw [← Nat.add_assoc]; exact hn
theorem Fw.whole {n S a k : Nat} (h : Fw D m n S a k) : ∃ j, Bw D m j S m k := by
  obtain ⟨j, hj⟩ := Fw.toB n S a k h 0 0 0 ⟨rfl, rfl⟩ fun i _ => Nat.zero_testBit i
  rw [Nat.xor_zero] at hj
  exact ⟨j, hj⟩
theorem Bw.whole {j S k : Nat} (h : Bw D m j S m k) (hS : S ≠ 0) : ∃ n a, Fw D m n S a k := by
  cases j with
  | zero => exact absurd h.1 hS
  | succ j =>
    obtain ⟨o, k1, h1, h2, h3, rfl⟩ := h
    obtain ⟨n, a, hn⟩ := Bw.toF j _ o k1 h3 0 (2 ^ o) (D m o) ⟨h1, rfl, rfl⟩ fun i hi => by
      rw [Nat.testBit_two_pow, decide_eq_true_eq] at hi
      subst hi
      rw [xb, h2]; simp
    rw [Nat.xor_comm, xx] at hn
    exact ⟨n, a, hn⟩
theorem Fw.le (hD : ∀ i j, i ≤ m → j < m → D i j ≤ 63) (hx : ∀ S a, S < 64 → a < 6 → S.testBit a = true → S ^^^ 2 ^ a < S) (hm : m ≤ 6) : ∀ n S a k, Fw D m n S a k → S < 64 → k ≤ 64 * S := by
  intro n
  induction n with
  | zero =>
    rintro S a k ⟨h1, rfl, rfl⟩ _
    have := hD m a (Nat.le_refl _) h1
    have : 1 ≤ 2 ^ a := Nat.one_le_two_pow
    omega
  | succ n ih =>
    rintro S a k ⟨h1, h2, p, k1, h3, rfl⟩ hS
    have h4 := hx S a hS (by omega) h2
    have h5 := ih _ p k1 h3 (by omega)
    have h6 := (Fw.bit _ _ _ _ h3).1
    have := hD p a (by omega) h1
    omega
/-- what costs less than F is come to all along -/
theorem Bw.cn {F : Nat} {R : Nat → Nat → Prop} (hR : ∀ i j, i ≤ m → j < m → D i j < F → R i j) (ht : ∀ a b c, R a b → R b c → R a c) : ∀ n S p k, p ≤ m → Bw D m n S p k → k < F → ∀ o, S.testBit o = true → R p o := by
  intro n
  induction n with
  | zero =>
    rintro S p k _ ⟨rfl, -⟩ _ o ho
    rw [Nat.zero_testBit] at ho; cases ho
  | succ n ih =>
    rintro S p k hp ⟨q, k1, h1, h2, h3, rfl⟩ hk o ho
    have hpq := hR p q hp h1 (by omega)
    by_cases e : q = o
    · subst e; exact hpq
    · exact ht _ _ _ hpq (ih _ q k1 (by omega) h3 (by omega) o (by rw [xb, ho, decide_eq_false e]; rfl))
end FWB
theorem x_lt : ∀ S, S < 64 → ∀ a, a < 6 → S.testBit a = true → S ^^^ 2 ^ a < S := by decide +kernel
theorem z_rm : ∀ S, S < 64 → ∀ a, a < 6 → nI S &&& (((1 : Int32) <<< (nI a &&& 31)) ^^^ (-1)) = nI (if S.testBit a = true then S ^^^ 2 ^ a else S) := by decide +kernel
theorem z_tb {S a : Nat} (hS : S < 64) (ha : a < 6) : (((nI S >>> (nI a &&& 31)) &&& 1) = 0) = (S.testBit a = false) := by
  have e : (nI S >>> (nI a &&& 31)) &&& 1 = nI (if S.testBit a = true then 1 else 0) := z_bit S (by omega) a (by omega)
  rw [e]
  cases S.testBit a <;> decide
theorem z_th {S a : Nat} (hS : S < 64) (ha : a < 6) : decide ((((nI S >>> (nI a &&& 31)) &&& 1) = 1)) = S.testBit a := by
  have e : (nI S >>> (nI a &&& 31)) &&& 1 = nI (if S.testBit a = true then 1 else 0) := z_bit S (by omega) a (by omega)
  rw [e]
  cases S.testBit a <;> decide
theorem bit_lt {S m a : Nat} (hS : S < 2 ^ m) (h : S.testBit a = true) : a < m := by
  refine Nat.lt_of_not_le fun q => ?_
  have := Nat.testBit_lt_two_pow (x := S) (i := a) (Nat.lt_of_lt_of_le hS (Nat.pow_le_pow_right (by omega) q))
  rw [this] at h; cases h
theorem bit_ex {S : Nat} (h : S ≠ 0) : ∃ a, S.testBit a = true := by
  refine Classical.byContradiction fun q => h (Nat.eq_of_testBit_eq fun i => ?_)
  rw [Nat.zero_testBit]
  cases e : S.testBit i with
  | false => rfl
  | true => exact absurd ⟨i, e⟩ q
/-- the stops: the people, and behind them the player -/
def sN (r : Nat → Int32) (p i : Nat) : Nat := if i < gN r 4 then cellC r 27 i else cellC r 9 p
noncomputable def dN (r : Nat → Int32) (f c : Nat) : Nat := @dite Nat (∃ n, rN (fre r) f n c ∧ ∀ m, rN (fre r) f m c → n ≤ m) (Classical.propDecidable _) (fun h => Classical.choose h) (fun _ => 1000000)
section DN
variable {r : Nat → Int32} {f c n p : Nat}
theorem dN_eq (h1 : rN (fre r) f n c) (h2 : ∀ m, rN (fre r) f m c → n ≤ m) : dN r f c = n := by
  have h : ∃ n, rN (fre r) f n c ∧ ∀ m, rN (fre r) f m c → n ≤ m := ⟨n, h1, h2⟩
  unfold dN
  rw [dif_pos h]
  have hs := Classical.choose_spec h
  exact Nat.le_antisymm (hs.2 _ h1) (h2 _ hs.1)
theorem dN_no (h : ∀ m, ¬ rN (fre r) f m c) : dN r f c = 1000000 := by
  unfold dN
  rw [dif_neg fun ⟨n, h1, _⟩ => h n h1]
theorem dN_cn (O : okC r) (hf : f < cells r) (h : cn r f c) : dN r f c < 64 ∧ rN (fre r) f (dN r f c) c ∧ ∀ k, rN (fre r) f k c → dN r f c ≤ k := by
  obtain ⟨k, hk⟩ := h
  obtain ⟨n, h1, h2⟩ := rN.least hk
  rw [dN_eq h1 h2]
  obtain ⟨j, j1, j2⟩ := rN.stab (fre_clo O) hf
  have := h2 j (j2 _ _ h1)
  have := O.w.2.2.2.2.2
  exact ⟨by omega, h1, h2⟩
theorem dN_far (h : ¬ cn r f c) : dN r f c = 1000000 := dN_no fun m hm => h ⟨m, hm⟩
theorem dN_sym (O : okC r) (hf : f < cells r) (hc : c < cells r) (ho : wlC r f = false) (ho2 : wlC r c = false) : dN r f c = dN r c f := by
  by_cases h : cn r f c
  · obtain ⟨-, h1, h2⟩ := dN_cn O hf h
    exact (dN_eq (rN_sym O hf ho _ _ h1) fun m hm => h2 m (rN_sym O hc ho2 _ _ hm)).symm
  · rw [dN_far h, dN_far fun q => h (q.sym O hc ho2)]
theorem sN_ok (O : okC r) (hp : p < gN r 3) {i : Nat} (hi : i ≤ gN r 4) : sN r p i < cells r ∧ wlC r (sN r p i) = false := by
  unfold sN
  split
  · rename_i h
    exact ⟨(cellC_lt O (Or.inr ⟨rfl, h⟩)).1, cellC_op O (Or.inr ⟨rfl, h⟩)⟩
  · exact ⟨(cellC_lt O (Or.inl ⟨rfl, hp⟩)).1, cellC_op O (Or.inl ⟨rfl, hp⟩)⟩
end DN
noncomputable def dD (r : Nat → Int32) (p i j : Nat) : Nat := dN r (sN r p i) (sN r p j)
section ROUND
variable {l : Launch} {d h o x z T p : Nat} {kd : pm_K} {mr : pm_R} {mi : pm_I} {ml : pm_L} {k : Nat} {r : Nat → Int32}
theorem s_measure {u : Int32} {K : Bool → pm_I → pm_L → Prop} (th : TX8s kd mr h) (to : TX0s kd mr o) (C : CC mi ml o r) (O : okC r) (hp : p < gN r 3) (ho : o + 5 < h) (hu : u = nI (spC r (cellC r 9 p)))
    (k0 : ∀ mi1, (∀ a, a ≠ h + 4 → a ≠ h + 5 → mi1 a = mi a) → (∃ i j, i ≤ gN r 4 ∧ j ≤ gN r 4 ∧ ¬ cn r (sN r p i) (sN r p j)) → K false mi1 ml)
    (k1 : ∀ mi1, (∀ a, a ≠ h + 4 → a ≠ h + 5 → mi1 a = mi a) → (∀ i j, i ≤ gN r 4 → j ≤ gN r 4 → cn r (sN r p i) (sN r p j) ∧ mi1 (h + 5) (7 * i + j) = nI (dD r p i j)) → K true mi1 ml) : wB l M_X8_measure (d + 3) [.ref h, .ref o, .int u] kd mr mi ml K := by
  subst hu
  have h4 := O.2.2.2.2.2.1
  have e5 := C.nq O
  refine w_X8_measure th to (s_openX to C O fun op hop => ?_)
  rw [e5, z_cl (by omega), show (0 : Int32).toNatClampNeg = 0 from rfl]
  refine ⟨⟨by decide, by decide, nI_pos (by omega), by omega, by omega⟩, fun mi4 e4 => ⟨z_in (by omega) (by omega), ?_⟩⟩
  have st : ∀ i, i ≤ gN r 4 → pm_up mi4 (h + 4) (gN r 4) (nI (spC r (cellC r 9 p))) (h + 4) i = nI (spC r (sN r p i)) := by
    intro i hi
    unfold sN
    by_cases q : i < gN r 4
    · rw [if_pos q, pm_up_j _ _ (by omega), e4, pm_ur_s, va_cpy0, if_pos q, (C.pe q).2, (cellC_lt O (Or.inr ⟨rfl, q⟩)).2]
    · have : i = gN r 4 := by omega
      subst this
      rw [if_neg q, pm_up_s]
  have fr : ∀ a, a ≠ h + 4 → a ≠ h + 5 → pm_up mi4 (h + 4) (gN r 4) (nI (spC r (cellC r 9 p))) a = mi a := fun a h1 h2 => by rw [pm_up_row _ _ h1, e4, pm_ur_k _ _ h1]
  generalize pm_up mi4 (h + 4) (gN r 4) (nI (spC r (cellC r 9 p))) = mi5 at st fr
  have outer : ∀ (q i : Nat) (mi1 : pm_I), i + q = gN r 4 + 1 → (∀ a, a ≠ h + 5 → mi1 a = mi5 a) → (∀ i' j', i' < i → j' < i → cn r (sN r p i') (sN r p j') ∧ mi1 (h + 5) (7 * i' + j') = nI (dD r p i' j')) → c_X8_measure_37 l (d + 3) kd mr h o op (nI (gN r 4)) (nI i) mi1 ml K := by
    intro q
    induction q with
    | zero =>
      intro i mi1 hi g1 g2
      refine w_X8_measure_37 th to ⟨fun _ => k1 mi1 (fun a a1 a2 => (g1 a a2).trans (fr a a1 a2)) fun i' j' b1 b2 => g2 i' j' (by omega) (by omega), fun h => absurd (nI_lt (by omega) (by omega)) h⟩
    | succ q ih =>
      intro i mi1 hi g1 g2
      refine w_X8_measure_37 th to ⟨fun h => absurd h (nI_nlt (by omega) (by omega)), fun _ => ?_⟩
      have inner : ∀ (u j : Nat) (mi1 : pm_I), j + u = i + 1 → (∀ a, a ≠ h + 5 → mi1 a = mi5 a) → (∀ i' j', (i' < i ∧ j' < i) ∨ (i' = i ∧ j' < j) ∨ (j' = i ∧ i' < j) → cn r (sN r p i') (sN r p j') ∧ mi1 (h + 5) (7 * i' + j') = nI (dD r p i' j')) → c_X8_measure_47 l (d + 3) kd mr h o op (nI (gN r 4)) (nI i) (nI j) mi1 ml K := by
        intro u
        induction u with
        | zero =>
          intro j mi1 hj g1 g2
          refine w_X8_measure_47 th to ⟨fun _ => ?_, fun h => absurd (nI_lt (by omega) (by omega)) h⟩
          rw [nI_1]
          exact ih (i + 1) mi1 (by omega) g1 fun i' j' b1 b2 => g2 i' j' (by omega)
        | succ u ihu =>
          intro j mi1 hj g1 g2
          obtain ⟨si1, si2⟩ := sN_ok O hp (show i ≤ gN r 4 by omega)
          obtain ⟨sj1, sj2⟩ := sN_ok O hp (show j ≤ gN r 4 by omega)
          refine w_X8_measure_47 th to ⟨fun h => absurd h (nI_nlt (by omega) (by omega)), fun _ => ⟨z_in (by omega) (by omega), z_in (by omega) (by omega), ?_⟩⟩
          rw [z_cl (by omega), z_cl (by omega), g1 (h + 4) (by omega), st i (by omega), st j (by omega)]
          refine s_fewestSteps (F := some (sN r p i)) (G := some (sN r p j)) th O hop rfl rfl (fun f hf => by cases hf; exact si1) (fun f hf => by cases hf; exact sj1) (fun hbad => ?_) (fun f t v hf ht _ _ hv => ?_)
          · exfalso
            rcases hbad with q | q | ⟨f, hf, q⟩ | ⟨f, hf, q⟩
            · cases q
            · cases q
            · cases hf; rw [si2] at q; cases q
            · cases hf; rw [sj2] at q; cases q
          · cases hf; cases ht
            rcases hv with ⟨n, rfl, hn, n1, n2⟩ | ⟨rfl, hno⟩
            · refine ⟨fun _ => ?_, fun e => absurd e (z_eq1 (by omega))⟩
              have ei : nI i * 7 + nI j = nI (7 * i + j) := by rw [show nI i * 7 = nI (i * 7) from z_mul i 7, nI_add, Nat.mul_comm]
              have ej : nI j * 7 + nI i = nI (7 * j + i) := by rw [show nI j * 7 = nI (j * 7) from z_mul j 7, nI_add, Nat.mul_comm]
              rw [ei, ej, z_cl (by omega), z_cl (by omega), nI_1]
              refine ⟨z_in (by omega) (by omega), z_in (by omega) (by omega), ihu (j + 1) _ (by omega) (fun a ha => by rw [pm_up_row _ _ ha, pm_up_row _ _ ha]; exact g1 a ha) fun i' j' hij => ?_⟩
              have d1 : dD r p i j = n := dN_eq n1 n2
              have d2 : dD r p j i = n := by unfold dD; rw [dN_sym O sj1 si1 sj2 si2]; exact d1
              have c1 : cn r (sN r p i) (sN r p j) := ⟨n, n1⟩
              have c2 : cn r (sN r p j) (sN r p i) := c1.sym O si1 si2
              by_cases q1 : i' = j ∧ j' = i
              · obtain ⟨rfl, rfl⟩ := q1
                rw [pm_up_s, d2]; exact ⟨c2, rfl⟩
              · by_cases q2 : i' = i ∧ j' = j
                · obtain ⟨rfl, rfl⟩ := q2
                  rw [pm_up_j _ _ (by omega), pm_up_s, d1]; exact ⟨c1, rfl⟩
                · rw [pm_up_j _ _ (by omega), pm_up_j _ _ (by omega)]
                  exact g2 i' j' (by omega)
            · refine ⟨fun e => absurd rfl e, fun _ => k0 mi1 (fun a a1 a2 => (g1 a a2).trans (fr a a1 a2)) ⟨i, j, by omega, by omega, fun ⟨n, hn⟩ => hno n hn⟩⟩
      exact inner (i + 1) 0 mi1 (by omega) g1 fun i' j' hij => g2 i' j' (by omega) (by omega)
  exact outer (gN r 4 + 1) 0 mi5 (by omega) (fun _ _ => rfl) fun i' j' b1 b2 => by omega
/-- the least of what is true -/
def lsF (D : Nat → Nat → Nat) (m S a v : Nat) : Prop := (∃ n, Fw D m n S a v) ∧ ∀ n k, Fw D m n S a k → v ≤ k
def okD (D : Nat → Nat → Nat) (m : Nat) : Prop := m ≤ 6 ∧ ∀ i j, i ≤ m → j < m → D i j ≤ 63
theorem lsF.le {D : Nat → Nat → Nat} {m S a v : Nat} (hD : okD D m) (h : lsF D m S a v) (hS : S < 64) : v ≤ 4096 := by
  obtain ⟨n, hn⟩ := h.1
  have := Fw.le hD.2 (fun S a hS ha => x_lt S hS a ha) hD.1 n S a v hn hS
  omega
theorem s_shortestTo {D : Nat → Nat → Nat} {m S a : Nat} {u v w : Int32} {K : Int32 → pm_I → pm_L → Prop} (th : TX8s kd mr h) (hD : okD D m) (hA : ∀ i j, i ≤ m → j < m → mi (h + 5) (7 * i + j) = nI (D i j)) (hS : S < 2 ^ m) (ha : S.testBit a = true)
    (hT : ∀ S' a', S' < S → S'.testBit a' = true → ∃ v, lsF D m S' a' v ∧ mi (h + 6) (6 * S' + a') = nI v) (hu : u = nI S) (hv : v = nI a) (hw : w = nI m) (k9 : ∀ v, lsF D m S a v → K (nI v) mi ml) : wI l M_X8_shortestTo (d + 1) [.ref h, .int u, .int v, .int w] kd mr mi ml K := by
  subst hu; subst hv; subst hw
  have hm := hD.1
  have hpw := pw_le hm
  have ham := bit_lt hS ha
  have hS6 : S < 64 := by omega
  have hlt := x_lt S hS6 a (by omega) ha
  refine w_X8_shortestTo th ?_
  rw [z_rm S hS6 a (by omega), if_pos ha]
  have e0 : (nI (S ^^^ 2 ^ a) = 0) = (S ^^^ 2 ^ a = 0) := z_eq (b := 0) (by omega) (by omega)
  rw [e0]
  refine ⟨fun hne => ?_, fun he => ?_⟩
  · have loop : ∀ (q p : Nat) (x5 : Int32), p + q = m → ((x5 = -1 ∧ ∀ p', p' < p → (S ^^^ 2 ^ a).testBit p' = false) ∨ ∃ v, x5 = nI v ∧ v ≤ 5000 ∧ (∃ n, Fw D m n S a v) ∧ ∀ p', p' < p → (S ^^^ 2 ^ a).testBit p' = true → ∀ n k, Fw D m n (S ^^^ 2 ^ a) p' k → v ≤ k + D p' a) → c_X8_shortestTo_35 l (d + 1) kd mr h (nI a) (nI m) (nI (S ^^^ 2 ^ a)) x5 (nI p) mi ml K := by
      intro q
      induction q with
      | zero =>
        intro p x5 hp hx
        have : p = m := by omega
        subst this
        refine w_X8_shortestTo_35 th ⟨fun _ => ?_, fun h => absurd (nI_le (Nat.le_refl _) (by omega)) h⟩
        rcases hx with ⟨-, h2⟩ | ⟨v, rfl, -, h1, h2⟩
        · exfalso
          obtain ⟨b, hb⟩ := bit_ex hne
          have := bit_lt (show S ^^^ 2 ^ a < 2 ^ p by omega) hb
          rw [h2 b this] at hb; cases hb
        · refine k9 v ⟨h1, fun n k hk => ?_⟩
          cases n with
          | zero => exact absurd (by rw [hk.2.1, Nat.xor_self]) hne
          | succ n =>
            obtain ⟨-, -, b, k', h3, rfl⟩ := hk
            obtain ⟨b1, b2⟩ := Fw.bit _ _ _ _ h3
            exact h2 b b1 b2 n k' h3
      | succ q ih =>
        intro p x5 hp hx
        have etb := z_tb (S := S ^^^ 2 ^ a) (a := p) (by omega) (by omega)
        refine w_X8_shortestTo_35 th ⟨fun h => absurd h (nI_ge (by omega) (by omega)), fun _ => ⟨fun hf => w_X8_shortestTo_102 th ?_, fun ht => ?_⟩⟩
        · have hf := etb.mp hf
          rw [nI_1]
          refine ih (p + 1) x5 (by omega) ?_
          rcases hx with ⟨h1, h2⟩ | ⟨v, h1, h2, h3, h4⟩
          · refine Or.inl ⟨h1, fun p' hp' => ?_⟩
            by_cases e : p' = p
            · subst e; exact hf
            · exact h2 p' (by omega)
          · refine Or.inr ⟨v, h1, h2, h3, fun p' hp' hb => ?_⟩
            by_cases e : p' = p
            · subst e; rw [hf] at hb; cases hb
            · exact h4 p' (by omega) hb
        · have ht : (S ^^^ 2 ^ a).testBit p = true := by
            cases e : (S ^^^ 2 ^ a).testBit p with
            | true => rfl
            | false => exact absurd (etb.mpr e) ht
          obtain ⟨v0, v1, v2⟩ := hT _ p hlt ht
          have v3 := v1.le hD (by omega)
          have dle := hD.2 p a (by omega) ham
          have ei : nI (S ^^^ 2 ^ a) * 6 + nI p = nI (6 * (S ^^^ 2 ^ a) + p) := by rw [show nI (S ^^^ 2 ^ a) * 6 = nI ((S ^^^ 2 ^ a) * 6) from z_mul _ 6, nI_add, Nat.mul_comm]
          have ej : nI p * 7 + nI a = nI (7 * p + a) := by rw [show nI p * 7 = nI (p * 7) from z_mul p 7, nI_add, Nat.mul_comm]
          rw [ei, ej, z_cl (by omega), z_cl (by omega), v2, hA p a (by omega) ham, nI_add]
          refine ⟨z_in (by omega) (by omega), z_in (by omega) (by omega), ?_⟩
          have hF : ∃ n, Fw D m n S a (v0 + D p a) := by
            obtain ⟨n, hn⟩ := v1.1
            exact ⟨n + 1, ham, ha, p, v0, hn, rfl⟩
          have nx : ∀ v, v ≤ 5000 → (∃ n, Fw D m n S a v) → v ≤ v0 + D p a → (∀ p', p' < p → (S ^^^ 2 ^ a).testBit p' = true → ∀ n k, Fw D m n (S ^^^ 2 ^ a) p' k → v ≤ k + D p' a) → c_X8_shortestTo_100 l (d + 1) kd mr h (nI a) (nI m) (nI (S ^^^ 2 ^ a)) (nI p) (nI v) mi ml K := by
            intro v b1 b2 b3 b4
            refine w_X8_shortestTo_100 th (w_X8_shortestTo_102 th ?_)
            rw [nI_1]
            refine ih (p + 1) _ (by omega) (Or.inr ⟨v, rfl, b1, b2, fun p' hp' hb n k hk => ?_⟩)
            by_cases e : p' = p
            · subst e
              have := v1.2 n k hk; omega
            · exact b4 p' (by omega) hb n k hk
          rcases hx with ⟨rfl, h2⟩ | ⟨v, rfl, h2, h3, h4⟩
          · refine ⟨fun e => absurd rfl e, fun _ => nx _ (by omega) hF (Nat.le_refl _) fun p' hp' hb => ?_⟩
            rw [h2 p' hp'] at hb; cases hb
          · refine ⟨fun _ => ?_, fun e => absurd e (z_eq1 (by omega))⟩
            have c9 : (nI (v0 + D p a) < nI v) = (v0 + D p a < v) := z_lt (by omega) (by omega)
            by_cases q9 : v0 + D p a < v
            · rw [if_pos (c9.mpr q9)]
              exact nx _ (by omega) hF (Nat.le_refl _) fun p' hp' hb n k hk => by have := h4 p' hp' hb n k hk; omega
            · rw [if_neg (fun e => q9 (c9.mp e))]
              exact nx v h2 h3 (by omega) h4
    exact loop m 0 (-1) (by omega) (Or.inl ⟨rfl, fun p' hp' => by omega⟩)
  · have ej : nI m * 7 + nI a = nI (7 * m + a) := by rw [show nI m * 7 = nI (m * 7) from z_mul m 7, nI_add, Nat.mul_comm]
    rw [ej, z_cl (by omega), hA m a (Nat.le_refl _) ham]
    have eS : S = 2 ^ a := by
      have := xx S a
      rw [he, Nat.zero_xor] at this; exact this.symm
    refine ⟨z_in (by omega) (by omega), k9 _ ⟨⟨0, ham, eS, rfl⟩, fun n k hk => ?_⟩⟩
    cases n with
    | zero => rw [hk.2.2]; exact Nat.le_refl _
    | succ n =>
      obtain ⟨-, -, b, k', h3, -⟩ := hk
      rw [he] at h3
      exact absurd h3 Fw.not0
end ROUND
