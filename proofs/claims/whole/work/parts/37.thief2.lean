/-! thieves: whom to ask, the least broken; all together -/
def askA (L : List Nat) (W j : Nat) : Nat := 8 * (askL L W j / W) + askL L W j % W
def askM (L : List Nat) (W j : Nat) : Nat := sayG L (askL L W j / W) (askL L W j % W)
def ASt (L : List Nat) (W init j : Nat) (b v : Int32) : Prop := (j = 0 ∧ b = -1 ∧ v = nI init) ∨ ∃ j', j = j' + 1 ∧ b = nI (askA L W j') ∧ v = nI (askM L W j')
theorem askM_le (L : List Nat) (W j : Nat) : askM L W j ≤ L.length := sayG_le _ _ _
/-- one step on: it is better, or not -/
theorem ASt.on {L : List Nat} {W init j : Nat} {b v : Int32} (h : ASt L W init j b v) (hi : L.length < init) (hi2 : init < 2147483648) :
    (v ≤ nI (sayG L (j / W) (j % W)) → ASt L W init (j + 1) b v) ∧ (¬ v ≤ nI (sayG L (j / W) (j % W)) → ASt L W init (j + 1) (nI (8 * (j / W) + j % W)) (nI (sayG L (j / W) (j % W)))) := by
  have hg := sayG_le L (j / W) (j % W)
  rcases h with ⟨rfl, rfl, rfl⟩ | ⟨j', rfl, rfl, rfl⟩
  · rw [z_le (by omega) (by omega)]
    exact ⟨fun h => by omega, fun _ => Or.inr ⟨0, rfl, rfl, rfl⟩⟩
  · have hm := askM_le L W j'
    rw [z_le (by omega) (by omega)]
    have ea : askL L W (j' + 1) = if sayG L ((j' + 1) / W) ((j' + 1) % W) < askM L W j' then j' + 1 else askL L W j' := rfl
    refine ⟨fun h => Or.inr ⟨j' + 1, rfl, ?_, ?_⟩, fun h => Or.inr ⟨j' + 1, rfl, ?_, ?_⟩⟩
    · unfold askA; rw [ea, if_neg (by omega)]
    · unfold askM; rw [ea, if_neg (by omega)]
    · unfold askA; rw [ea, if_pos (by omega)]
    · unfold askM; rw [ea, if_pos (by omega)]
theorem jW {W w v : Nat} (hv : v < W) : (W * w + v) / W = w ∧ (W * w + v) % W = v := by
  constructor
  · rw [Nat.mul_add_div (by omega), Nat.div_eq_of_lt hv, Nat.add_zero]
  · rw [Nat.mul_add_mod, Nat.mod_eq_of_lt hv]
section TH2
variable {l : Launch} {d x z o T k a1 : Nat} {kd : pm_K} {mr : pm_R} {mi : pm_I} {ml : pm_L} {q : Nat → Int32} {m : Nat}
theorem s_bestQ {y : Int32} {L : List Nat} {K : Int32 → pm_I → pm_L → Prop} (to : TX10s kd mr o) (ka : kd[a1]? = some (1, 256)) (C : TC mi o q) (hr : rowL (mi a1) L) (hL : L.length ≤ 256) (h256 : ∀ i, i < L.length → L.getD i 0 < 256) (hy : y = nI L.length) (k9 : K (nI (askA L (gN q 0) (gN q 0 * gN q 0 - 1))) mi ml) : wI l M_X10_bestQuestion (d + 1) [.ref o, .ref a1, .int y] kd mr mi ml K := by
  subst hy
  have hw0 : mi o 0 = nI (gN q 0) := C.2.1.trans C.1.2.1
  have hW1 := C.1.2.2.1
  have hW8 := C.1.2.2.2.1
  have outer : ∀ (u w : Nat) (b v : Int32), w + u = gN q 0 → ASt L (gN q 0) (L.length + 1) (gN q 0 * w) b v → c_X10_bestQuestion_10 l (d + 1) kd mr o a1 256 (nI L.length) b v (nI w) mi ml K := by
    intro u
    induction u with
    | zero =>
      intro w b v hw h
      have : w = gN q 0 := by omega
      subst this
      refine w_X10_bestQuestion_10 to ka ⟨fun _ => ?_, fun h9 => absurd (by rw [hw0]; exact nI_le (Nat.le_refl _) (by omega)) h9⟩
      rcases h with ⟨h, -⟩ | ⟨j', h1, rfl, -⟩
      · have := Nat.mul_le_mul hW1 hW1; omega
      · rw [h1] at k9; exact k9
    | succ u ih =>
      intro w b v hw h
      refine w_X10_bestQuestion_10 to ka ⟨fun h9 => absurd h9 (by rw [hw0]; exact nI_ge (by omega) (by omega)), fun _ => ?_⟩
      have inner : ∀ (t v9 : Nat) (b v : Int32), v9 + t = gN q 0 → ASt L (gN q 0) (L.length + 1) (gN q 0 * w + v9) b v → c_X10_bestQuestion_22 l (d + 1) kd mr o a1 256 (nI L.length) b v (nI w) (nI v9) mi ml K := by
        intro t
        induction t with
        | zero =>
          intro v9 b v hv h
          have : v9 = gN q 0 := by omega
          subst this
          refine w_X10_bestQuestion_22 to ka ⟨fun _ => ?_, fun h9 => absurd (by rw [hw0]; exact nI_le (Nat.le_refl _) (by omega)) h9⟩
          rw [nI_1]
          exact ih (w + 1) b v (by omega) (by rw [Nat.mul_add, Nat.mul_one]; exact h)
        | succ t iht =>
          intro v9 b v hv h
          obtain ⟨j1, j2⟩ := jW (W := gN q 0) (w := w) (v := v9) (by omega)
          obtain ⟨g1, g2⟩ := h.on (by omega) (by omega)
          rw [j1, j2] at g1 g2
          have hs := sayL_le L w v9
          refine w_X10_bestQuestion_22 to ka ⟨fun h9 => absurd h9 (by rw [hw0]; exact nI_ge (by omega) (by omega)), fun _ => s_saidBy ka hr hL h256 rfl rfl rfl (by omega) (by omega) ?_⟩
          have e : (if nI (sayL L w v9) < nI L.length - nI (sayL L w v9) then nI L.length - nI (sayL L w v9) else nI (sayL L w v9)) = nI (sayG L w v9) := by
            rw [z_sub hs]; exact mx_X9 _ _ (by omega) (by omega)
          rw [e]
          refine ⟨fun h5 => w_X10_bestQuestion_73 to ka ?_, fun h5 => w_X10_bestQuestion_73 to ka ?_⟩
          · rw [nI_1]; exact iht (v9 + 1) b v (by omega) (g1 h5)
          · rw [nI_1, show (8 : Int32) * nI w = nI (8 * w) from z_mul 8 w, nI_add]
            exact iht (v9 + 1) _ _ (by omega) (g2 h5)
      exact inner (gN q 0) 0 b v (Nat.zero_add _) h
  refine w_X10_bestQuestion to ka ?_
  rw [nI_1]
  exact outer (gN q 0) 0 _ _ (Nat.zero_add _) (Or.inl ⟨rfl, rfl, rfl⟩)
theorem s_askOf {L : List Nat} {K : Int32 → pm_I → pm_L → Prop} (tz : TX12s kd mr z) (H : HT mi z k q) (O : okT q) (hr : rowL (mi (z + 22)) L) (hL : L.length ≤ 256) (h256 : ∀ i, i < L.length → L.getD i 0 < 256) (h48 : mi z 48 = nI L.length) (k9 : K (nI (askA L (gN q 0) (gN q 0 * gN q 0 - 1))) mi ml) : wI l M_X12_askOf (d + 1) [.ref z] kd mr mi ml K := by
  have hW1 := O.2.2.1
  have hW8 := O.2.2.2.1
  have outer : ∀ (u w : Nat) (b v : Int32), w + u = gN q 0 → ASt L (gN q 0) 1000000 (gN q 0 * w) b v → c_X12_askOf_8 l (d + 1) kd mr z b v (nI w) mi ml K := by
    intro u
    induction u with
    | zero =>
      intro w b v hw h
      have : w = gN q 0 := by omega
      subst this
      refine w_X12_askOf_8 tz (s_trialOf (a := 0) tz H rfl (by omega) ?_)
      rw [O.2.1]
      refine ⟨fun _ => ?_, fun h9 => absurd (nI_le (Nat.le_refl _) (by omega)) h9⟩
      rcases h with ⟨h, -⟩ | ⟨j', h1, rfl, -⟩
      · have := Nat.mul_le_mul hW1 hW1; omega
      · rw [h1] at k9; exact k9
    | succ u ih =>
      intro w b v hw h
      refine w_X12_askOf_8 tz (s_trialOf (a := 0) tz H rfl (by omega) ?_)
      rw [O.2.1]
      refine ⟨fun h9 => absurd h9 (nI_ge (by omega) (by omega)), fun _ => ?_⟩
      have inner : ∀ (t v9 : Nat) (b v : Int32), v9 + t = gN q 0 → ASt L (gN q 0) 1000000 (gN q 0 * w + v9) b v → c_X12_askOf_20 l (d + 1) kd mr z b v (nI w) (nI v9) mi ml K := by
        intro t
        induction t with
        | zero =>
          intro v9 b v hv h
          have : v9 = gN q 0 := by omega
          subst this
          refine w_X12_askOf_20 tz (s_trialOf (a := 0) tz H rfl (by omega) ?_)
          rw [O.2.1]
          refine ⟨fun _ => ?_, fun h9 => absurd (nI_le (Nat.le_refl _) (by omega)) h9⟩
          rw [nI_1]
          exact ih (w + 1) b v (by omega) (by rw [Nat.mul_add, Nat.mul_one]; exact h)
        | succ t iht =>
          intro v9 b v hv h
          obtain ⟨j1, j2⟩ := jW (W := gN q 0) (w := w) (v := v9) (by omega)
          obtain ⟨g1, g2⟩ := h.on (by omega) (by omega)
          rw [j1, j2] at g1 g2
          have hs := sayL_le L w v9
          refine w_X12_askOf_20 tz (s_trialOf (a := 0) tz H rfl (by omega) ?_)
          rw [O.2.1]
          refine ⟨fun h9 => absurd h9 (nI_ge (by omega) (by omega)), fun _ => ?_⟩
          have says : ∀ (t i : Nat), i + t = L.length → c_X12_askOf_36 l (d + 1) kd mr z b v (nI w) (nI v9) (nI (cnt (fun k => (L.getD k 0).testBit w ^^ (L.getD k 0).testBit v9) i)) (nI i) mi ml K := by
            intro t
            induction t with
            | zero =>
              intro i hi
              have : i = L.length := by omega
              subst this
              refine w_X12_askOf_36 tz ⟨fun _ => w_X12_greater ?_, fun h9 => absurd (by rw [h48]; exact nI_le (Nat.le_refl _) (by omega)) h9⟩
              have e : (if nI (sayL L w v9) ≤ mi z 48 - nI (sayL L w v9) then mi z 48 - nI (sayL L w v9) else nI (sayL L w v9)) = nI (sayG L w v9) := by
                rw [h48, z_sub hs]; exact mx_Z9 _ _ (by omega) (by omega)
              have e' : (if nI (cnt (fun k => (L.getD k 0).testBit w ^^ (L.getD k 0).testBit v9) L.length) ≤ mi z 48 - nI (cnt (fun k => (L.getD k 0).testBit w ^^ (L.getD k 0).testBit v9) L.length) then mi z 48 - nI (cnt (fun k => (L.getD k 0).testBit w ^^ (L.getD k 0).testBit v9) L.length) else nI (cnt (fun k => (L.getD k 0).testBit w ^^ (L.getD k 0).testBit v9) L.length)) = nI (sayG L w v9) := e
              rw [e']
              refine w_X12_lesser ?_
              have hg := sayG_le L w v9
              have hv' : ∃ n, n < 2147483648 ∧ v = nI n := by
                rcases h with ⟨-, -, rfl⟩ | ⟨j', -, -, rfl⟩
                · exact ⟨1000000, by omega, rfl⟩
                · have := askM_le L (gN q 0) j'
                  exact ⟨_, by omega, rfl⟩
              obtain ⟨n, hn, rfl⟩ := hv'
              rw [nI_1]
              by_cases h5 : n ≤ sayG L w v9
              · have g1 := g1 (nI_le h5 (by omega))
                rw [if_pos (nI_le h5 (by omega))]
                by_cases h6 : sayG L w v9 ≤ n
                · have : n = sayG L w v9 := by omega
                  subst this
                  rw [if_pos (nI_le h6 (by omega))]
                  exact iht (v9 + 1) _ _ (by omega) g1
                · rw [if_neg (nI_ge (by omega) (by omega))]
                  exact iht (v9 + 1) _ _ (by omega) g1
              · have g2 := g2 (nI_ge (by omega) (by omega))
                rw [if_neg (nI_ge (by omega) (by omega)), if_pos (nI_le (by omega) (by omega)), show (8 : Int32) * nI w = nI (8 * w) from z_mul 8 w, nI_add]
                exact iht (v9 + 1) _ _ (by omega) g2
            | succ t ihs =>
              intro i hi
              have h2 := h256 i (by omega)
              refine w_X12_askOf_36 tz ⟨fun h9 => absurd h9 (by rw [h48]; exact nI_ge (by omega) (by omega)), fun _ => ⟨z_in (by omega) (by omega), s_has (m := L.getD i 0) ?_ rfl h2 (show v9 < 8 by omega) ⟨z_in (by omega) (by omega), s_has (m := L.getD i 0) ?_ rfl h2 (show w < 8 by omega) ?_⟩⟩⟩
              · rw [z_cl (by omega)]; exact hr i (by omega)
              · rw [z_cl (by omega)]; exact hr i (by omega)
              · have e : b2i (!decide (b2i ((L.getD i 0).testBit v9) = b2i ((L.getD i 0).testBit w))) = nI (if ((L.getD i 0).testBit w ^^ (L.getD i 0).testBit v9) = true then 1 else 0) := by
                  cases (L.getD i 0).testBit v9 <;> cases (L.getD i 0).testBit w <;> rfl
                rw [e, nI_add, nI_1]
                exact ihs (i + 1) (by omega)
          exact says L.length 0 (Nat.zero_add _)
      exact inner (gN q 0) 0 b v (Nat.zero_add _) h
  exact w_X12_askOf tz (outer (gN q 0) 0 _ _ (Nat.zero_add _) (Or.inl ⟨rfl, rfl, rfl⟩))
/-- the least broken set, or by how much -/
def brV (q : Nat → Int32) (b : Bool) : Int32 := match fbest (isP q) (wrS q) (2 ^ gN q 0) with
  | none => -1
  | some s => if b = true then nI s else nI (wrS q s)
def brB (q : Nat → Int32) (n : Nat) : Int32 := match fbest (isP q) (wrS q) n with
  | none => -1
  | some s => nI s
def brL (q : Nat → Int32) (n : Nat) : Int32 := match fbest (isP q) (wrS q) n with
  | none => -1
  | some s => nI (wrS q s)
theorem br_no {n : Nat} (h : isP q n = false) : fbest (isP q) (wrS q) (n + 1) = fbest (isP q) (wrS q) n := by
  show (if _ then _ else _) = _
  rw [if_neg (by rw [h]; decide)]
theorem br_yes {n : Nat} (h : isP q n = true) : fbest (isP q) (wrS q) (n + 1) = (match fbest (isP q) (wrS q) n with
    | none => some n
    | some b => if wrS q n < wrS q b then some n else some b) := by
  show (if _ then _ else _) = _
  rw [if_pos h]
  rfl
theorem s_leastBroken {b : Bool} {K : Int32 → pm_I → pm_L → Prop} (to : TX10s kd mr o) (C : TC mi o q) (k9 : K (brV q b) mi ml) : wI l M_X10_leastBroken (d + 2) [.ref o, .int (b2i b)] kd mr mi ml K := by
  obtain ⟨p1, p2, p3, p4⟩ := C.1.pw
  have hw0 : mi o 0 = nI (gN q 0) := C.2.1.trans C.1.2.1
  have hq := C.1.1
  have hwr := fun s => wrS_le q s
  have loop : ∀ (u n : Nat), n + u = 2 ^ gN q 0 → c_X10_leastBroken_7 l (d + 2) kd mr o (b2i b) (brB q n) (brL q n) (nI n) mi ml K := by
    intro u
    induction u with
    | zero =>
      intro n hn
      have : n = 2 ^ gN q 0 := by omega
      subst this
      refine w_X10_leastBroken_7 to ⟨fun _ => ?_, fun h => absurd (by rw [hw0, p4]; exact nI_le (Nat.le_refl _) (by omega)) h⟩
      have : (if b2i b = 0 then brL q (2 ^ gN q 0) else brB q (2 ^ gN q 0)) = brV q b := by
        unfold brL brB brV
        cases fbest (isP q) (wrS q) (2 ^ gN q 0) <;> cases b <;> rfl
      rw [this]; exact k9
    | succ u ih =>
      intro n hn
      have hs := p3 n (by omega)
      have nx := ih (n + 1) (by omega)
      refine w_X10_leastBroken_7 to ⟨fun h => absurd h (by rw [hw0, p4]; exact nI_ge (by omega) (by omega)), fun _ => s_isAsMany to C rfl hs ⟨fun h => w_X10_leastBroken_52 to ?_, fun h => s_wrong to C rfl hs ?_⟩⟩
      · unfold brB brL at nx
        rw [br_no h] at nx
        rw [nI_1]; exact nx
      · unfold brB brL at nx
        rw [br_yes h] at nx
        have e1 : brL q n = (match fbest (isP q) (wrS q) n with | none => -1 | some s => nI (wrS q s)) := rfl
        have e2 : brB q n = (match fbest (isP q) (wrS q) n with | none => -1 | some s => nI s) := rfl
        rw [e1, e2]
        cases hf : fbest (isP q) (wrS q) n with
        | none =>
          rw [hf] at nx
          refine ⟨fun _ => w_X10_leastBroken_46 to (w_X10_leastBroken_52 to ?_), fun h9 => absurd rfl h9⟩
          rw [nI_1]; exact nx
        | some s =>
          rw [hf] at nx
          have h1 := hwr s
          have h2 := hwr n
          refine ⟨fun h9 => absurd h9 (z_eq1 (by omega)), fun _ => ?_⟩
          show (nI (wrS q s) ≤ nI (wrS q n) → _) ∧ (¬ nI (wrS q s) ≤ nI (wrS q n) → _)
          rw [z_le (by omega) (by omega)]
          refine ⟨fun h3 => w_X10_leastBroken_52 to ?_, fun h3 => w_X10_leastBroken_46 to (w_X10_leastBroken_52 to ?_)⟩
          · dsimp only at nx
            rw [if_neg (by omega)] at nx
            rw [nI_1]; exact nx
          · dsimp only at nx
            rw [if_pos (by omega)] at nx
            rw [nI_1]; exact nx
  exact w_X10_leastBroken to (loop _ 0 (Nat.zero_add _))
theorem s_broken {b : Bool} {K : Int32 → pm_I → pm_L → Prop} (tz : TX12s kd mr z) (H : HT mi z k q) (O : okT q) (n2 : q 2 = nI (gN q 2)) (k9 : K (brV q b) mi ml) : wI l M_X12_broken (d + 3) [.ref z, .int (b2i b)] kd mr mi ml K := by
  obtain ⟨p1, p2, p3, p4⟩ := O.pw
  have hq := O.1
  have hwr := fun s => wrS_le q s
  have loop : ∀ (u n : Nat), n + u = 2 ^ gN q 0 → c_X12_broken_4 l (d + 3) kd mr z (b2i b) (brB q n) (nI n) mi ml K := by
    intro u
    induction u with
    | zero =>
      intro n hn
      have : n = 2 ^ gN q 0 := by omega
      subst this
      refine w_X12_broken_4 tz (s_trialOf (a := 0) tz H rfl (by omega) ?_)
      rw [O.2.1, p4]
      refine ⟨fun _ => ?_, fun h => absurd (nI_le (Nat.le_refl _) (by omega)) h⟩
      unfold brV at k9
      have e2 : brB q (2 ^ gN q 0) = (match fbest (isP q) (wrS q) (2 ^ gN q 0) with | none => -1 | some s => nI s) := rfl
      rw [e2]
      cases hf : fbest (isP q) (wrS q) (2 ^ gN q 0) with
      | none =>
        rw [hf] at k9
        exact ⟨fun _ => k9, fun h => absurd rfl h⟩
      | some s =>
        rw [hf] at k9
        have hs := p3 s (fbest_lt hf)
        refine ⟨fun h => absurd h (z_eq1 (by omega)), fun _ => ⟨fun h => s_against tz H O n2 rfl hs ?_, fun h => ?_⟩⟩
        · have hb : b = false := by cases b; rfl; exact absurd h (by decide)
          rw [hb] at k9; exact k9
        · have hb : b = true := by cases b; exact absurd rfl h; rfl
          rw [hb] at k9; exact k9
    | succ u ih =>
      intro n hn
      have hs := p3 n (by omega)
      have nx := ih (n + 1) (by omega)
      refine w_X12_broken_4 tz (s_trialOf (a := 0) tz H rfl (by omega) ?_)
      rw [O.2.1, p4]
      refine ⟨fun h => absurd h (nI_ge (by omega) (by omega)), fun _ => s_areMany tz H rfl hs ⟨fun h => w_X12_broken_45 tz (w_X12_broken_46 tz ?_), fun h => ?_⟩⟩
      · unfold brB at nx
        rw [br_no h] at nx
        rw [nI_1]; exact nx
      · unfold brB at nx
        rw [br_yes h] at nx
        have e2 : brB q n = (match fbest (isP q) (wrS q) n with | none => -1 | some s => nI s) := rfl
        rw [e2]
        cases hf : fbest (isP q) (wrS q) n with
        | none =>
          rw [hf] at nx
          refine ⟨fun _ => w_X12_broken_41 tz (w_X12_broken_46 tz ?_), fun h9 => absurd rfl h9⟩
          rw [nI_1]; exact nx
        | some s =>
          rw [hf] at nx
          have h1 := hwr s
          have h2 := hwr n
          have hs2 := fbest_lt hf
          refine ⟨fun h9 => absurd h9 (z_eq1 (by omega)), fun _ => s_against tz H O n2 rfl hs (s_against tz H O n2 rfl (by omega) ?_)⟩
          dsimp only at nx ⊢
          rw [nI_1]
          by_cases h3 : wrS q s ≤ wrS q n
          · rw [if_neg (by omega)] at nx
            rw [if_pos (nI_le h3 (by omega))]; exact nx
          · rw [if_pos (by omega)] at nx
            rw [if_neg (nI_ge (by omega) (by omega))]; exact nx
  exact w_X12_broken tz (loop _ 0 (Nat.zero_add _))
theorem FLn_len (O : okT q) : (FLn q (2 ^ gN q 0)).length ≤ 256 ∧ ∀ i, i < (FLn q (2 ^ gN q 0)).length → (FLn q (2 ^ gN q 0)).getD i 0 < 256 := by
  obtain ⟨p1, p2, p3, p4⟩ := O.pw
  exact ⟨Nat.le_trans (fl_len _ _) p1, fun i hi => p3 _ (fl_get hi).1⟩
/-- thieves: what is answered -/
def thF (q : Nat → Int32) (w : Int32) : Int32 :=
  if w = nI 4 then brV q false else if w = nI 5 then brV q true
  else if w = nI 0 then nI (FLn q (2 ^ gN q 0)).length
  else if w = nI 1 then (if (FLn q (2 ^ gN q 0)).length = 0 then -1 else andL id (FLn q (2 ^ gN q 0)) (nI (2 ^ gN q 0) - 1) (FLn q (2 ^ gN q 0)).length)
  else if w = nI 2 then (if (FLn q (2 ^ gN q 0)).length = 0 then -1 else andL (fun v => v ^^^ (-1)) (FLn q (2 ^ gN q 0)) (nI (2 ^ gN q 0) - 1) (FLn q (2 ^ gN q 0)).length)
  else if w = nI 3 then (if (FLn q (2 ^ gN q 0)).length = 0 then -1 else nI (askA (FLn q (2 ^ gN q 0)) (gN q 0) (gN q 0 * gN q 0 - 1)))
  else if isK w (10 + (FLn q (2 ^ gN q 0)).length) = true ∧ 10 ≤ w.toNatClampNeg then nI ((FLn q (2 ^ gN q 0)).getD (w.toNatClampNeg - 10) 0) else -2
theorem thF_no {w : Int32} (h : ∀ j, j < 6 → w ≠ nI j) (h2 : ¬ (isK w (10 + (FLn q (2 ^ gN q 0)).length) = true ∧ 10 ≤ w.toNatClampNeg)) : thF q w = -2 := by
  unfold thF
  rw [if_neg (h 4 (by omega)), if_neg (h 5 (by omega)), if_neg (h 0 (by omega)), if_neg (h 1 (by omega)), if_neg (h 2 (by omega)), if_neg (h 3 (by omega)), if_neg h2]
theorem thF_yes {n : Nat} (h : n < 10 + (FLn q (2 ^ gN q 0)).length) (h2 : 10 ≤ n) (h3 : n < 2147483648) : thF q (nI n) = nI ((FLn q (2 ^ gN q 0)).getD (n - 10) 0) := by
  unfold thF
  have ne : ∀ j, j < 6 → nI n ≠ nI j := fun j hj e => by rw [z_eq (by omega) (by omega)] at e; omega
  rw [if_neg (ne 4 (by omega)), if_neg (ne 5 (by omega)), if_neg (ne 0 (by omega)), if_neg (ne 1 (by omega)), if_neg (ne 2 (by omega)), if_neg (ne 3 (by omega)), isK_nI h3, z_cl h3, if_pos ⟨by simp [h], h2⟩]
theorem th_neg {w : Int32} (h : w < 0) : ∀ j, j < 6 → w ≠ nI j := fun j hj e => by subst e; exact nI_pos (by omega) h
theorem th_mid {n : Nat} (h1 : 6 ≤ n) (h3 : n < 2147483648) : ∀ j, j < 6 → nI n ≠ nI j := fun j hj e => by rw [z_eq (by omega) (by omega)] at e; omega
theorem th_cases (w : Int32) : w < 0 ∨ w = nI 0 ∨ w = nI 1 ∨ w = nI 2 ∨ w = nI 3 ∨ w = nI 4 ∨ w = nI 5 ∨ ∃ n, 6 ≤ n ∧ n < 2147483648 ∧ w = nI n := by
  rcases z_cases w with h | ⟨n, hn, rfl⟩
  · exact Or.inl h
  · rcases (show n = 0 ∨ n = 1 ∨ n = 2 ∨ n = 3 ∨ n = 4 ∨ n = 5 ∨ 6 ≤ n by omega) with rfl | rfl | rfl | rfl | rfl | rfl | h
    · exact Or.inr (Or.inl rfl)
    · exact Or.inr (Or.inr (Or.inl rfl))
    · exact Or.inr (Or.inr (Or.inr (Or.inl rfl)))
    · exact Or.inr (Or.inr (Or.inr (Or.inr (Or.inl rfl))))
    · exact Or.inr (Or.inr (Or.inr (Or.inr (Or.inr (Or.inl rfl)))))
    · exact Or.inr (Or.inr (Or.inr (Or.inr (Or.inr (Or.inr (Or.inl rfl))))))
    · exact Or.inr (Or.inr (Or.inr (Or.inr (Or.inr (Or.inr (Or.inr ⟨n, h, hn, rfl⟩))))))
theorem s_judge {w : Int32} {K : Int32 → pm_I → pm_L → Prop} (to : TX10s kd mr o) (ka : kd[a1]? = some (1, 256)) (C : TC mi o q) (hne : a1 < o ∨ o + 4 < a1) (k9 : ∀ mi', (∀ a, a ≠ a1 → mi' a = mi a) → K (thF q w) mi' ml) : wI l M_X10_judge (d + 3) [.ref o, .int w, .ref a1] kd mr mi ml K := by
  obtain ⟨hL1, hL2⟩ := FLn_len C.1
  have k0 := k9 mi fun _ _ => rfl
  have ff := fun (K' : Int32 → pm_I → pm_L → Prop) k => s_findFit (l := l) (d := d) (ml := ml) (K := K') to ka C hne k
  refine w_X10_judge to ka ⟨fun h => ?_, fun h => ⟨fun h2 => ff _ fun mi' f hr => ?_, fun h2 => ?_⟩⟩
  · have h : w = nI 4 := h
    subst h
    exact w_X10_judge_10 to ka (s_leastBroken (b := false) to C k0)
  · have C' : TC mi' o q := C.same fun a g1 g2 => f a (by omega)
    have k1 := k9 mi' f
    have r3 : ∀ n : Nat, ¬ (FLn q (2 ^ gN q 0)).length = 0 → nI (FLn q (2 ^ gN q 0)).length ≠ 0 := fun _ h => nI_ne0 (by omega) (by omega)
    have e0 : (nI (FLn q (2 ^ gN q 0)).length = 0) = ((FLn q (2 ^ gN q 0)).length = 0) := z_eq (b := 0) (by omega) (by omega)
    rw [e0]
    refine ⟨fun h3 => ?_, fun h3 => ?_, fun h3 => ?_, fun h3 => ?_, fun h3 => ?_⟩
    · rcases th_cases w with h4 | rfl | rfl | rfl | rfl | rfl | rfl | ⟨n, hn, hn2, rfl⟩
      · refine ⟨fun _ => ?_, fun h5 => absurd (z_ltm h4 (a := 10) (by omega)) h5⟩
        rw [thF_no (th_neg h4) (fun g => by rw [isK_neg h4] at g; exact absurd g.1 (by decide))] at k1; exact k1
      · exact absurd h3 (by decide)
      · exact absurd h3 (by decide)
      · exact absurd h3 (by decide)
      · exact absurd h3 (by decide)
      · exact absurd rfl h
      · exact absurd rfl h2
      · refine ⟨fun h5 => ?_, fun h5 => ?_⟩
        · have h5 : nI n < nI 10 := h5
          rw [z_lt hn2 (by omega)] at h5
          rw [thF_no (th_mid hn hn2) (fun g => by rw [z_cl hn2] at g; omega)] at k1; exact k1
        · have h5 : ¬ nI n < nI 10 := h5
          rw [z_lt hn2 (by omega)] at h5
          have e : nI n - 10 = nI (n - 10) := z_sub (b := 10) (by omega)
          rw [e, z_le (by omega) (by omega)]
          refine ⟨fun h6 => ?_, fun h6 => ⟨z_in (by omega) (by omega), ?_⟩⟩
          · rw [thF_no (th_mid hn hn2) (fun g => by rw [isK_nI hn2] at g; have := g.1; simp at this; omega)] at k1; exact k1
          · rw [z_cl (by omega), hr _ (by omega)]
            rw [thF_yes (by omega) (by omega) hn2] at k1; exact k1
    · have := (z_ti (n := 0) (by omega)).mp h3
      subst this; exact k1
    · have := (z_ti (n := 1) (by omega)).mp h3
      subst this
      have k1 : K (if (FLn q (2 ^ gN q 0)).length = 0 then -1 else andL id (FLn q (2 ^ gN q 0)) (nI (2 ^ gN q 0) - 1) (FLn q (2 ^ gN q 0)).length) mi' ml := k1
      refine ⟨fun h4 => s_inAll to ka C' hr hL1 rfl ?_, fun h4 => ?_⟩
      · rw [if_neg h4] at k1; exact k1
      · rw [if_pos h4] at k1; exact k1
    · have := (z_ti (n := 2) (by omega)).mp h3
      subst this
      have k1 : K (if (FLn q (2 ^ gN q 0)).length = 0 then -1 else andL (fun v => v ^^^ (-1)) (FLn q (2 ^ gN q 0)) (nI (2 ^ gN q 0) - 1) (FLn q (2 ^ gN q 0)).length) mi' ml := k1
      refine ⟨fun h4 => s_inNone to ka C' hr hL1 rfl ?_, fun h4 => ?_⟩
      · rw [if_neg h4] at k1; exact k1
      · rw [if_pos h4] at k1; exact k1
    · have := (z_ti (n := 3) (by omega)).mp h3
      subst this
      have k1 : K (if (FLn q (2 ^ gN q 0)).length = 0 then -1 else nI (askA (FLn q (2 ^ gN q 0)) (gN q 0) (gN q 0 * gN q 0 - 1))) mi' ml := k1
      refine ⟨fun h4 => s_bestQ to ka C' hr hL1 hL2 rfl ?_, fun h4 => ?_⟩
      · rw [if_neg h4] at k1; exact k1
      · rw [if_pos h4] at k1; exact k1
  · have h2 : w = nI 5 := h2
    subst h2
    exact w_X10_judge_10 to ka (s_leastBroken (b := true) to C k0)
theorem s_thvZ {w : Int32} {K : Int32 → pm_I → pm_L → Prop} (tz : TX12s kd mr z) (H : HT mi z k q) (O : okT q) (n2 : q 2 = nI (gN q 2)) (hr : rowL (mi (z + 22)) (FLn q (2 ^ gN q 0))) (h48 : mi z 48 = nI (FLn q (2 ^ gN q 0)).length) (h1 : ∀ j, 1 ≤ j → j ≤ 3 → w = nI j → ¬ (FLn q (2 ^ gN q 0)).length = 0) (h10 : w < nI 10) (k9 : K (thF q w) mi ml) : c_X12_thieves_70 l (d + 4) kd mr z w mi ml K := by
  obtain ⟨hL1, hL2⟩ := FLn_len O
  refine w_X12_thieves_70 tz ⟨fun h => ?_, fun h => ?_, fun h => ?_, fun h => ?_, fun h => ?_, fun h => ?_, fun h => ?_⟩
  · have ne : ∀ j, j < 6 → w ≠ nI j := fun j hj e => by subst e; rw [z_toInt (by omega)] at h; omega
    rw [thF_no ne (fun g => ?_)] at k9
    · exact k9
    · obtain ⟨g1, g2⟩ := g
      obtain ⟨n, hn, hn2, rfl⟩ := isK_iff.mp g1
      rw [z_lt hn2 (by omega)] at h10
      rw [z_cl hn2] at g2; omega
  · have := (z_ti (n := 0) (by omega)).mp h
    subst this; rw [h48]; exact k9
  · have := (z_ti (n := 1) (by omega)).mp h
    subst this
    refine s_common (b := true) tz H O hr hL1 h48 ?_
    have k1 : K (if (FLn q (2 ^ gN q 0)).length = 0 then -1 else andL id (FLn q (2 ^ gN q 0)) (nI (2 ^ gN q 0) - 1) (FLn q (2 ^ gN q 0)).length) mi ml := k9
    rw [if_neg (h1 1 (by omega) (by omega) rfl)] at k1
    exact k1
  · have := (z_ti (n := 2) (by omega)).mp h
    subst this
    refine s_common (b := false) tz H O hr hL1 h48 ?_
    have k1 : K (if (FLn q (2 ^ gN q 0)).length = 0 then -1 else andL (fun v => v ^^^ (-1)) (FLn q (2 ^ gN q 0)) (nI (2 ^ gN q 0) - 1) (FLn q (2 ^ gN q 0)).length) mi ml := k9
    rw [if_neg (h1 2 (by omega) (by omega) rfl)] at k1
    exact k1
  · have := (z_ti (n := 3) (by omega)).mp h
    subst this
    refine s_askOf tz H O hr hL1 hL2 h48 ?_
    have k1 : K (if (FLn q (2 ^ gN q 0)).length = 0 then -1 else nI (askA (FLn q (2 ^ gN q 0)) (gN q 0) (gN q 0 * gN q 0 - 1))) mi ml := k9
    rw [if_neg (h1 3 (by omega) (by omega) rfl)] at k1
    exact k1
  · have := (z_ti (n := 4) (by omega)).mp h
    subst this; exact s_broken (b := false) tz H O n2 k9
  · have := (z_ti (n := 5) (by omega)).mp h
    subst this; exact s_broken (b := true) tz H O n2 k9
theorem z_cut13 (w : Int32) : (!decide (w < nI 1) && !decide (nI 3 < w)) = true ↔ ∃ j, 1 ≤ j ∧ j ≤ 3 ∧ w = nI j := by
  rcases z_cases w with h | ⟨n, hn, rfl⟩
  · have h1 := z_ltm h (a := 1) (by omega)
    constructor
    · intro g; simp [h1] at g
    · rintro ⟨j, h2, h3, rfl⟩; exact absurd h (nI_pos (by omega))
  · rw [Bool.and_eq_true, Bool.not_eq_true', Bool.not_eq_true', decide_eq_false_iff_not, decide_eq_false_iff_not, z_lt hn (by omega), z_lt (by omega) hn]
    constructor
    · rintro ⟨g1, g2⟩; exact ⟨n, by omega, by omega, rfl⟩
    · rintro ⟨j, h2, h3, e⟩; rw [z_eq hn (by omega)] at e; omega
theorem c_thieves {a w : Int32} (tx : TX11s kd mr x) (tz : TX12s kd mr z) (I : IV x z mi ml) : wI l M_X11_thieves (d + 5) [.ref x, .int a, .int w] kd mr mi ml fun r mi1 ml1 => wI l M_X12_thieves (d + 5) [.ref z, .int a, .int w] kd mr mi1 ml1 fun r2 mi2 ml2 => r = r2 ∧ IV x z mi2 ml2 := by
  obtain ⟨m, Im⟩ := I.2.1.2.2.2.1
  have hm := Im.1
  have hz := I.1
  refine w_X11_thieves tx (s_trialAt (TX11s_a0 tx) Im (fun h => ⟨fun _ => ?_, fun b hb => (by cases hb)⟩) (fun k hk ha to C => ⟨fun h => (by cases h), fun b4 hb4 => ?_⟩))
  · have h5 : pm_up mi z 0 (0 : Int32) (z + 5) 2 = nI m := by rw [pm_up_row _ _ (by omega)]; exact Im.2.2.1
    have f1 : frZ z mi (pm_up (pm_up mi z 0 0) z 46 a) ml ml := (frZ.upI (Or.inl rfl)).tr (frZ.upI (Or.inl rfl))
    refine w_X12_thieves tz (s_hasTrial tz h5 hm (fun _ => ⟨fun h => (by cases h), fun _ => ⟨rfl, I.smZ f1⟩⟩) (fun k hk ha _ => ?_))
    rw [ha, isK_nI (by omega)] at h; simp at h; omega
  · cases hb4
    refine ⟨to, s_judge to (TX11s_a10 tx) C (by omega) fun mi1 g1 => ?_⟩
    have I1 : IV x z mi1 ml := I.smX fun b hb => ⟨g1 b (by omega), rfl⟩
    have h5 : pm_up mi1 z 0 (0 : Int32) (z + 5) 2 = nI m := by rw [pm_up_row _ _ (by omega), g1 _ (by omega)]; exact Im.2.2.1
    have f1 : frZ z mi1 (pm_up (pm_up mi1 z 0 0) z 46 a) ml ml := (frZ.upI (Or.inl rfl)).tr (frZ.upI (Or.inl rfl))
    refine w_X12_thieves tz (s_hasTrial tz h5 hm (fun h => ?_) (fun k2 hk2 ha2 H => ⟨fun _ => ?_, fun h => (by cases h)⟩))
    · rw [ha, isK_nI (by omega)] at h; simp at h; omega
    · have : k2 = k := by rw [ha] at ha2; rw [z_eq (by omega) (by omega)] at ha2; omega
      subst this
      have eq : (fun j => pm_up mi1 z 0 (0 : Int32) (z + 8) (39 * k2 + j)) = fun j => mi (z + 8) (78 * 0 + 39 * k2 + j) := by
        funext j; rw [pm_up_row _ _ (by omega), g1 _ (by omega), show 78 * 0 + 39 * k2 = 39 * k2 by omega]
      rw [eq] at H
      generalize (fun j => mi (z + 8) (78 * 0 + 39 * k2 + j)) = q at H C
      have O := C.1
      have n2 := C.2.2.2.n.2.1
      obtain ⟨hL1, hL2⟩ := FLn_len O
      refine s_findFits tz H O n2 fun mi' q1 q2 q3 q4 => ?_
      have H' : HT mi' z k2 q := H.same (q2 _ (by omega)) (q1 _ (by omega) (by omega))
      have I' : IV x z mi' ml := (I1.smZ f1).smZ fun b hb => ⟨q1 b (by omega) (by omega), rfl⟩
      refine ⟨fun h => w_X12_in ⟨fun h2 => ?_, fun h2 => ?_⟩, fun h => ?_⟩
      · refine s_thvZ tz H' O n2 q4 q3 (fun j h3 h4 h5 => ?_) h ⟨rfl, I'⟩
        have := (z_cut13 w).mpr ⟨j, h3, h4, h5⟩
        have h2 : (!decide (w < nI 1) && !decide (nI 3 < w)) = false := h2
        rw [this] at h2; cases h2
      · obtain ⟨j, h3, h4, rfl⟩ := (z_cut13 w).mp h2
        rw [q3]
        have e0 : (nI (FLn q (2 ^ gN q 0)).length = 0) = ((FLn q (2 ^ gN q 0)).length = 0) := z_eq (b := 0) (by omega) (by omega)
        rw [e0]
        refine ⟨fun h6 => s_thvZ tz H' O n2 q4 q3 (fun _ _ _ _ => h6) h ⟨rfl, I'⟩, fun h6 => ⟨?_, I'⟩⟩
        rcases (show j = 1 ∨ j = 2 ∨ j = 3 by omega) with rfl | rfl | rfl
        · show (if (FLn q (2 ^ gN q 0)).length = 0 then (-1 : Int32) else _) = _
          rw [if_pos h6]
        · show (if (FLn q (2 ^ gN q 0)).length = 0 then (-1 : Int32) else _) = _
          rw [if_pos h6]
        · show (if (FLn q (2 ^ gN q 0)).length = 0 then (-1 : Int32) else _) = _
          rw [if_pos h6]
      · have h : ¬ w < nI 10 := h
        obtain ⟨n, hn, rfl⟩ := (z_cases w).resolve_left fun g => h (z_ltm g (by omega))
        rw [z_lt hn (by omega)] at h
        have e : nI n - 10 = nI (n - 10) := z_sub (b := 10) (by omega)
        rw [q3, e, z_le (by omega) (by omega)]
        refine ⟨fun h6 => ⟨?_, I'⟩, fun h6 => ⟨z_in (by omega) (by omega), ?_, I'⟩⟩
        · exact thF_no (th_mid (by omega) hn) fun g => by rw [isK_nI hn] at g; have := g.1; simp at this; omega
        · rw [z_cl (by omega), q4 _ (by omega)]
          exact thF_yes (by omega) (by omega) hn
end TH2
