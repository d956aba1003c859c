/-! part and line -/
def cnt (P : Nat → Bool) : Nat → Nat
  | 0 => 0
  | n + 1 => cnt P n + if P n = true then 1 else 0
theorem cnt_le (P : Nat → Bool) (n : Nat) : cnt P n ≤ n := by
  induction n with
  | zero => exact Nat.le_refl _
  | succ n ih => unfold cnt; split <;> omega
theorem cnt_congr {P Q : Nat → Bool} {n : Nat} (h : ∀ i, i < n → P i = Q i) : cnt P n = cnt Q n := by
  induction n with
  | zero => rfl
  | succ n ih => unfold cnt; rw [ih (fun i hi => h i (by omega)), h n (by omega)]
/-- the least place of the least of g 0 .. g n -/
def amin (g : Nat → Nat) : Nat → Nat
  | 0 => 0
  | n + 1 => if g (n + 1) < g (amin g n) then n + 1 else amin g n
theorem amin_le (g : Nat → Nat) (n : Nat) : amin g n ≤ n := by
  induction n with
  | zero => exact Nat.le_refl _
  | succ n ih => unfold amin; split <;> omega
def ab (n L : Nat) : Nat := (n - 2 * L) + (2 * L - n)
theorem ab_X : ∀ n, n < 7 → ∀ L, L < 7 → (if 0 ≤ nI n - nI 2 * nI L then nI n - nI 2 * nI L else 0 - (nI n - nI 2 * nI L)) = nI (ab n L) := by decide +kernel
theorem ab_Z : ∀ n, n < 7 → ∀ L, L < 7 → (if 0 ≤ nI 2 * nI L - nI n then nI 2 * nI L - nI n else -(nI 2 * nI L - nI n)) = nI (ab n L) := by decide +kernel
/-- how many people stand left of column c -/
def leftC (r : Nat → Int32) (c : Nat) : Nat := cnt (fun p => decide (gN r (33 + p) < c)) (gN r 4)
def fairC (r : Nat → Int32) : Nat := amin (fun c => ab (gN r 4) (leftC r c)) (gN r 0)
def mx (a b : Nat) : Nat := if a < b then b else a
theorem mx_comm (a b : Nat) : mx a b = mx b a := by unfold mx; split <;> split <;> omega
def lineC (r : Nat → Int32) : Nat → Nat
  | 0 => 0
  | n + 1 => mx (lineC r n) (mx (cnt (fun p => decide (gN r (39 + p) = n)) (gN r 4)) (cnt (fun p => decide (gN r (33 + p) = n)) (gN r 4)))
section PEO
variable {l : Launch} {d x z o T k : Nat} {kd : pm_K} {mr : pm_R} {mi : pm_I} {ml : pm_L} {r : Nat → Int32} {m : Nat}
theorem peX (C : CC mi ml o r) (O : okC r) {p : Nat} (hp : p < gN r 4) : mi (o + 4) p = nI (8 * gN r (39 + p) + gN r (33 + p)) ∧ gN r (33 + p) < 8 ∧ gN r (39 + p) < 8 := by
  obtain ⟨-, h1, h2, -⟩ := O.2.2.2.2.2.2.2.2.1 p hp
  have := O.w
  exact ⟨(C.pe hp).2, by omega, by omega⟩
theorem s_peopleLeftOf {c : Nat} {y : Int32} {K : Int32 → pm_I → pm_L → Prop} (to : TX0s kd mr o) (C : CC mi ml o r) (O : okC r) (hy : y = nI c) (hc : c < 100) (k9 : K (nI (leftC r c)) mi ml) : wI l M_X0_peopleLeftOf d [.ref o, .int y] kd mr mi ml K := by
  subst hy
  have hq := O.2.2.2.2.2.1
  have loop : ∀ (q p : Nat), p + q = gN r 4 → c_X0_peopleLeftOf_4 l d kd mr o (nI c) (nI (cnt (fun p => decide (gN r (33 + p) < c)) p)) (nI p) mi ml K := by
    intro q
    induction q with
    | zero =>
      intro p hp
      have : p = gN r 4 := by omega
      subst this
      exact w_X0_peopleLeftOf_4 to ⟨fun _ => k9, fun h => absurd (by rw [C.nq O]; exact nI_le (Nat.le_refl _) (by omega)) h⟩
    | succ q ih =>
      intro p hp
      obtain ⟨e1, e2, e3⟩ := peX C O (show p < gN r 4 by omega)
      refine w_X0_peopleLeftOf_4 to ⟨fun h => absurd h (by rw [C.nq O]; exact nI_ge (by omega) (by omega)), fun _ => ⟨z_in (by omega) (by omega), ?_⟩⟩
      have e5 : nI (8 * gN r (39 + p) + gN r (33 + p)) - nI (8 * gN r (39 + p) + gN r (33 + p)) / 8 * 8 = nI (gN r (33 + p)) := by
        have := z_rem (a := 8 * gN r (39 + p) + gN r (33 + p)) (b := 8) (by omega) (by omega)
        rw [show (8 * gN r (39 + p) + gN r (33 + p)) % 8 = gN r (33 + p) by omega] at this
        exact this
      rw [z_cl (by omega), e1, e5, z_le (by omega) (by omega)]
      have := ih (p + 1) (by omega)
      unfold cnt at this
      refine ⟨fun h => w_X0_peopleLeftOf_28 to ?_, fun h => w_X0_peopleLeftOf_28 to ?_⟩
      · rw [nI_1]
        rw [if_neg (by simp; omega), Nat.add_zero] at this
        exact this
      · rw [nI_1, nI_1]
        rw [if_pos (by simp; omega)] at this
        exact this
  exact w_X0_peopleLeftOf to (loop (gN r 4) 0 (by omega))
theorem leftC_le (O : okC r) (c : Nat) : leftC r c ≤ 6 := Nat.le_trans (cnt_le _ _) O.2.2.2.2.2.1
theorem s_fairest {K : Int32 → pm_I → pm_L → Prop} (to : TX0s kd mr o) (C : CC mi ml o r) (O : okC r) (k9 : K (nI (fairC r)) mi ml) : wI l M_X0_fairestColumn (d + 1) [.ref o] kd mr mi ml K := by
  have hq := O.2.2.2.2.2.1
  have hb := O.w
  have loop : ∀ (q c : Nat) (b0 v0 : Int32), c + q = gN r 0 + 1 → ((c = 0 ∧ b0 = nI 0 ∧ v0 = nI (gN r 4 + 1)) ∨ ∃ c', c = c' + 1 ∧ b0 = nI (amin (fun c => ab (gN r 4) (leftC r c)) c') ∧ v0 = nI (ab (gN r 4) (leftC r (amin (fun c => ab (gN r 4) (leftC r c)) c')))) → c_X0_fairestColumn_11 l (d + 1) kd mr o b0 v0 (nI c) mi ml K := by
    intro q
    induction q with
    | zero =>
      intro c b0 v0 hc h
      rcases h with ⟨h, -⟩ | ⟨c', rfl, rfl, rfl⟩
      · omega
      · have : c' = gN r 0 := by omega
        subst this
        exact w_X0_fairestColumn_11 to ⟨fun _ => k9, fun h => absurd (by rw [C.w O]; exact nI_lt (by omega) (by omega)) h⟩
    | succ q ih =>
      intro c b0 v0 hc h
      have hl := leftC_le O c
      refine w_X0_fairestColumn_11 to ⟨fun h => absurd h (by rw [C.w O]; exact nI_nlt (by omega) (by omega)), fun _ => s_peopleLeftOf to C O rfl (by omega) ?_⟩
      have e := ab_X (gN r 4) (by omega) (leftC r c) (by omega)
      have e' : (if 0 ≤ mi o 5 - 2 * nI (leftC r c) then mi o 5 - 2 * nI (leftC r c) else 0 - (mi o 5 - 2 * nI (leftC r c))) = nI (ab (gN r 4) (leftC r c)) := by rw [C.nq O]; exact e
      rw [e']
      have hab : ∀ L, L ≤ 6 → ab (gN r 4) L ≤ 20 := fun L hL => by unfold ab; omega
      have hab1 := hab _ hl
      rcases h with ⟨rfl, rfl, rfl⟩ | ⟨c', rfl, rfl, rfl⟩
      · have h0 : ab (gN r 4) (leftC r 0) = gN r 4 := by
          have : leftC r 0 = 0 := by
            unfold leftC
            rw [cnt_congr (Q := fun _ => false) (fun i _ => by simp)]
            have : ∀ n, cnt (fun _ => false) n = 0 := fun n => by
              induction n with
              | zero => rfl
              | succ n ih => unfold cnt; rw [ih]; rfl
            exact this _
          rw [this]; unfold ab; omega
        rw [h0]
        refine ⟨fun h => absurd h (nI_ge (by omega) (by omega)), fun _ => w_X0_fairestColumn_47 to ?_⟩
        rw [nI_1]
        exact ih 1 _ _ (by omega) (Or.inr ⟨0, rfl, rfl, by show _ = nI (ab (gN r 4) (leftC r 0)); rw [h0]⟩)
      · have hab2 := hab _ (leftC_le O (amin (fun c => ab (gN r 4) (leftC r c)) c'))
        rw [z_le (by omega) (by omega)]
        refine ⟨fun h => w_X0_fairestColumn_47 to ?_, fun h => w_X0_fairestColumn_47 to ?_⟩
        · rw [nI_1]
          have ea : amin (fun c => ab (gN r 4) (leftC r c)) (c' + 1) = amin (fun c => ab (gN r 4) (leftC r c)) c' := by
            show (if _ then _ else _) = _
            rw [if_neg (Nat.not_lt.mpr h)]
          exact ih (c' + 1 + 1) _ _ (by omega) (Or.inr ⟨c' + 1, rfl, by rw [ea], by rw [ea]⟩)
        · rw [nI_1]
          have ea : amin (fun c => ab (gN r 4) (leftC r c)) (c' + 1) = c' + 1 := by
            show (if _ then _ else _) = _
            rw [if_pos (Nat.not_le.mp h)]
          exact ih (c' + 1 + 1) _ _ (by omega) (Or.inr ⟨c' + 1, rfl, by rw [ea], by rw [ea]⟩)
  refine w_X0_fairestColumn to (loop (gN r 0 + 1) 0 0 _ (by omega) (Or.inl ⟨rfl, rfl, ?_⟩))
  rw [C.nq O, nI_1]
end PEO
