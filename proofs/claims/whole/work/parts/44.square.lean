/-! square, silent, enough -/
/-- how many players are heard at c -/
noncomputable def nP (r : Nat → Int32) (c : Nat) : Nat := cnt (fun p => pb (hrC r p c)) (gN r 3)
theorem nP_le {r : Nat → Int32} (O : okC r) (c : Nat) : nP r c ≤ 6 := Nat.le_trans (cnt_le _ _) O.2.2.2.2.1
theorem hmS_in {r : Nat → Int32} (O : okC r) {s : Nat} (hs : inS r s) : on (hmS r s) = nP r (ceS r s) := by
  unfold hmS nP
  rw [on_mkm _ (by have := O.2.2.2.2.1; omega)]
  refine cnt_congr fun p _ => ?_
  have : (inS r s ∧ hrC r p (ceS r s)) ↔ hrC r p (ceS r s) := ⟨fun q => q.2, fun q => ⟨hs, q⟩⟩
  exact pb_congr this
theorem hmS_lt {r : Nat → Int32} (O : okC r) (s : Nat) : hmS r s < 256 := mkm_256 _ (by have := O.2.2.2.2.1; omega)
/-- c is the first of those with the most, below n -/
def fmx (g : Nat → Nat) (n c : Nat) : Prop := c < n ∧ (∀ i, i < n → g i ≤ g c) ∧ ∀ i, i < c → g i < g c
theorem fmx.uniq {g : Nat → Nat} {n c c' : Nat} (h1 : fmx g n c) (h2 : fmx g n c') : c = c' := by
  rcases Nat.lt_trichotomy c c' with q | q | q
  · have := h2.2.2 c q; have := h1.2.1 c' h2.1; omega
  · exact q
  · have := h1.2.2 c' q; have := h2.2.1 c h1.1; omega
theorem fmx.step {g : Nat → Nat} {n c : Nat} (h : fmx g n c) : fmx g (n + 1) (if g c < g n then n else c) := by
  split
  · rename_i q
    refine ⟨by omega, fun i hi => ?_, fun i hi => ?_⟩
    · by_cases e : i = n
      · subst e; exact Nat.le_refl _
      · have := h.2.1 i (by omega); omega
    · have := h.2.1 i hi; omega
  · rename_i q
    refine ⟨by have := h.1; omega, fun i hi => ?_, h.2.2⟩
    by_cases e : i = n
    · subst e; omega
    · exact h.2.1 i (by omega)
theorem fmx.one (g : Nat → Nat) : fmx g 1 0 := by
  refine ⟨by omega, fun i hi => ?_, fun i hi => by omega⟩
  have : i = 0 := by omega
  subst this
  exact Nat.le_refl _
/-- how many cells have their spots below s -/
theorem cells_below {r : Nat → Int32} (O : okC r) : ∀ s, s ≤ 64 → ∃ n, n ≤ cells r ∧ ∀ c, c < cells r → (spC r c < s ↔ c < n) := by
  intro s
  induction s with
  | zero => intro _; exact ⟨0, Nat.zero_le _, fun c _ => ⟨fun h => by omega, fun h => by omega⟩⟩
  | succ s ih =>
    intro hs
    obtain ⟨n, h1, h2⟩ := ih (by omega)
    by_cases q : ∃ c, c < cells r ∧ spC r c = s
    · obtain ⟨c0, g1, g2⟩ := q
      have e : c0 = n := by
        have a1 : ¬ c0 < n := fun q => by have := (h2 c0 g1).mpr q; omega
        refine Nat.le_antisymm (Nat.le_of_not_lt fun q9 => ?_) (Nat.le_of_not_lt a1)
        have a2 := spC_rise O q9 g1
        have := (h2 n (by omega)).mp (by omega)
        omega
      subst e
      refine ⟨c0 + 1, by omega, fun c hc => ?_⟩
      have := h2 c hc
      constructor
      · intro h
        by_cases q9 : c0 < c
        · have := spC_rise O q9 hc; omega
        · omega
      · intro h
        by_cases q9 : c = c0
        · subst q9; omega
        · have := this.mpr (by omega); omega
    · refine ⟨n, h1, fun c hc => ?_⟩
      have a := h2 c hc
      have b : spC r c ≠ s := fun e => q ⟨c, hc, e⟩
      omega
theorem below_next {r : Nat → Int32} (O : okC r) {s n : Nat} (hn : n ≤ cells r) (h : ∀ c, c < cells r → (spC r c < s ↔ c < n)) (hs : inS r s) : ceS r s = n ∧ n < cells r ∧ ∀ c, c < cells r → (spC r c < s + 1 ↔ c < n + 1) := by
  have g1 := ceS_lt hs
  have g2 := spC_ceS hs
  generalize ceS r s = c0 at g1 g2
  subst g2
  have e : c0 = n := by
    have a1 : ¬ c0 < n := fun q => by have := (h c0 g1).mpr q; omega
    refine Nat.le_antisymm (Nat.le_of_not_lt fun q9 => ?_) (Nat.le_of_not_lt a1)
    have a2 := spC_rise O q9 g1
    have := (h n (by omega)).mp (by omega)
    omega
  subst e
  refine ⟨rfl, g1, fun c hc => ?_⟩
  constructor
  · intro q
    by_cases q9 : c0 < c
    · have := spC_rise O q9 hc; omega
    · omega
  · intro q
    by_cases q9 : c = c0
    · subst q9; omega
    · have := (h c hc).mpr (by omega); omega
theorem below_same {r : Nat → Int32} (O : okC r) {s n : Nat} (h : ∀ c, c < cells r → (spC r c < s ↔ c < n)) (hs : ¬ inS r s) : ∀ c, c < cells r → (spC r c < s + 1 ↔ c < n) := by
  intro c hc
  have a := h c hc
  have b : spC r c ≠ s := fun e => hs (e ▸ (spC_in O hc).1)
  omega
theorem below_end {r : Nat → Int32} (O : okC r) {n : Nat} (hn : n ≤ cells r) (h : ∀ c, c < cells r → (spC r c < 64 ↔ c < n)) : n = cells r := by
  refine Nat.le_antisymm hn (Nat.le_of_not_lt fun q => ?_)
  have := (h n q).mp (spC_in O q).2.2
  omega
theorem below_0 {r : Nat → Int32} : ∀ c, c < cells r → (spC r c < 0 ↔ c < 0) := fun c _ => ⟨fun h => by omega, fun h => by omega⟩
section SQ
variable {l : Launch} {d h o x z T : Nat} {kd : pm_K} {mr : pm_R} {mi : pm_I} {ml : pm_L} {k : Nat} {r : Nat → Int32}
theorem s_loudest {many : Bool} {K : Int32 → pm_I → pm_L → Prop} (th : TX1s kd mr h) (to : TX0s kd mr o) (C : CC mi ml o r) (O : okC r) (hh : hX r h mi ml) (k9 : ∀ c, fmx (nP r) (cells r) c → K (if many = true then nI (nP r c) else nI c) mi ml) : wI l M_X1_loudest (d + 2) [.ref h, .ref o, .int (b2i many)] kd mr mi ml K := by
  have hw := O.w
  refine w_X1_loudest th to (s_inside to C O fun ins hins => ?_)
  have hin : ∀ s, s < 64 → (bl ins s = true ↔ inS r s) := fun s hs => by rw [hins s hs, decide_eq_true_eq]; rfl
  have loop : ∀ (q s n : Nat) (x5 x6 : Int32), s + q = 64 → n ≤ cells r → (∀ c, c < cells r → (spC r c < s ↔ c < n)) → ((n = 0 ∧ x6 = -1) ∨ ∃ c0, fmx (nP r) n c0 ∧ x5 = nI (spC r c0) ∧ x6 = nI (nP r c0)) → c_X1_loudest_14 l (d + 2) kd mr h o (b2i many) ins x5 x6 (nI s) mi ml K := by
    intro q
    induction q with
    | zero =>
      intro s n x5 x6 hs hn hb hv
      have : s = 64 := by omega
      subst this
      have hne := below_end O hn hb
      subst hne
      refine w_X1_loudest_14 th to ⟨fun _ => ?_, fun h => absurd (nI_le (Nat.le_refl 64) (by omega)) h⟩
      rcases hv with ⟨h1, -⟩ | ⟨c0, h1, rfl, rfl⟩
      · omega
      · have := k9 c0 h1
        cases many with
        | false => rw [if_neg (by decide)] at this; exact ⟨fun _ => s_cellOfX to C O rfl h1.1 this, fun h => absurd rfl h⟩
        | true => rw [if_pos rfl] at this; exact ⟨fun h => absurd h (by decide), fun _ => this⟩
    | succ q ih =>
      intro s n x5 x6 hs hn hb hv
      have hm := hmS_lt O s
      refine w_X1_loudest_14 th to ⟨fun h => absurd h (nI_ge (b := 64) (by omega) (by omega)), fun _ => ⟨z_in (by omega) (by omega), s_bits (s := hmS r s) (by rw [z_cl (by omega)]; exact hh.2 s (by omega)) hm (s_hasX rfl (by omega) ⟨fun hf => w_X1_loudest_57 th to ?_, fun ht => ?_⟩)⟩⟩
      · rw [nI_1]
        have hni : ¬ inS r s := fun q => by rw [(hin s (by omega)).mpr q] at hf; cases hf
        exact ih (s + 1) n x5 x6 (by omega) hn (below_same O hb hni) hv
      · have hi := (hin s (by omega)).mp ht
        obtain ⟨g1, g2, g3⟩ := below_next O hn hb hi
        have hp := nP_le O n
        rw [hmS_in O hi, g1]
        have eS : spC r n = s := by rw [← g1]; exact spC_ceS hi
        rcases hv with ⟨rfl, rfl⟩ | ⟨c0, h1, rfl, rfl⟩
        · refine ⟨fun h9 => absurd h9 ?_, fun _ => w_X1_loudest_57 th to ?_⟩
          · rw [Int32.le_iff_toInt_le, z_toInt (by omega)]
            have e1 : (-1 : Int32).toInt = -1 := by decide
            omega
          · rw [nI_1]
            exact ih (s + 1) 1 _ _ (by omega) (by omega) g3 (Or.inr ⟨0, fmx.one _, by rw [eS], rfl⟩)
        · have hp0 := nP_le O c0
          have st := h1.step
          rw [z_le (by omega) (by omega)]
          refine ⟨fun h9 => w_X1_loudest_57 th to ?_, fun h9 => w_X1_loudest_57 th to ?_⟩
          · rw [nI_1]
            rw [if_neg (by omega)] at st
            exact ih (s + 1) (n + 1) _ _ (by omega) (by omega) g3 (Or.inr ⟨c0, st, rfl, rfl⟩)
          · rw [nI_1]
            rw [if_pos (by omega)] at st
            exact ih (s + 1) (n + 1) _ _ (by omega) (by omega) g3 (Or.inr ⟨n, st, by rw [eS], rfl⟩)
  exact loop 64 0 0 0 (-1) rfl (Nat.zero_le _) below_0 (Or.inl ⟨rfl, rfl⟩)
theorem s_squareZ {many : Bool} {K : Int32 → pm_I → pm_L → Prop} (tz : TX12s kd mr z) (H : Hd mi z k r) (O : okC r) (hh : hZ r z ml) (k9 : ∀ c, fmx (nP r) (cells r) c → K (if many = true then nI (nP r c) else nI c) mi ml) : c_X12_square_27 l (d + 1) kd mr z (b2i many) 0 (-1) 0 mi ml K := by
  have hw := O.w
  have h3 := O.2.2.2.2.1
  have e27 : mi z 27 = nI (cells r) := H.2.2.2.1
  have e28 := H.2.2.2.2.1
  have loop : ∀ (q c : Nat) (x3 x4 : Int32), c + q = cells r → ((c = 0 ∧ x4 = -1) ∨ ∃ c0, fmx (nP r) c c0 ∧ x3 = nI c0 ∧ x4 = nI (nP r c0)) → c_X12_square_27 l (d + 1) kd mr z (b2i many) x3 x4 (nI c) mi ml K := by
    intro q
    induction q with
    | zero =>
      intro c x3 x4 hc hv
      have : c = cells r := by omega
      subst this
      refine w_X12_square_27 tz ⟨fun _ => ?_, fun h => absurd (by rw [e27]; exact nI_le (Nat.le_refl _) (by omega)) h⟩
      rcases hv with ⟨h1, -⟩ | ⟨c0, h1, rfl, rfl⟩
      · omega
      · have := k9 c0 h1
        cases many with
        | false => rw [if_neg (by decide)] at this; exact this
        | true => rw [if_pos rfl] at this; exact this
    | succ q ih =>
      intro c x3 x4 hc hv
      refine w_X12_square_27 tz ⟨fun h => absurd h (by rw [e27]; exact nI_ge (by omega) (by omega)), fun _ => ?_⟩
      have inner : ∀ (u p : Nat), p + u = gN r 3 → c_X12_square_42 l (d + 1) kd mr z (b2i many) x3 x4 (nI c) (nI (cnt (fun p => pb (hrC r p c)) p)) (nI p) mi ml K := by
        intro u
        induction u with
        | zero =>
          intro p hp
          have : p = gN r 3 := by omega
          subst this
          have hp := nP_le O c
          refine w_X12_square_42 tz ⟨fun _ => w_X12_greater ?_, fun h => absurd (by rw [e28]; exact nI_le (Nat.le_refl _) (by omega)) h⟩
          show c_X12_square_27 l (d + 1) kd mr z (b2i many) (if nI (nP r c) ≤ x4 then x3 else nI c) (if x4 ≤ nI (nP r c) then nI (nP r c) else x4) (nI c + 1) mi ml K
          rw [nI_1]
          rcases hv with ⟨rfl, rfl⟩ | ⟨c0, h1, rfl, rfl⟩
          · have e1 : ¬ nI (nP r 0) ≤ -1 := by
              rw [Int32.le_iff_toInt_le, z_toInt (by omega)]
              have e1 : (-1 : Int32).toInt = -1 := by decide
              omega
            have e2 : (-1 : Int32) ≤ nI (nP r 0) := by
              rw [Int32.le_iff_toInt_le, z_toInt (by omega)]
              have e1 : (-1 : Int32).toInt = -1 := by decide
              omega
            rw [if_neg e1, if_pos e2]
            exact ih 1 _ _ (by omega) (Or.inr ⟨0, fmx.one _, rfl, rfl⟩)
          · have hp0 := nP_le O c0
            have st := h1.step
            have q1 : (nI (nP r c) ≤ nI (nP r c0)) = (nP r c ≤ nP r c0) := z_le (by omega) (by omega)
            have q2 : (nI (nP r c0) ≤ nI (nP r c)) = (nP r c0 ≤ nP r c) := z_le (by omega) (by omega)
            simp only [q1, q2]
            refine ih (c + 1) _ _ (by omega) (Or.inr ⟨_, st, ?_, ?_⟩)
            · split <;> split <;> first | rfl | omega
            · by_cases q9 : nP r c0 < nP r c
              · rw [if_pos q9, if_pos (by omega)]
              · rw [if_neg q9]
                by_cases q8 : nP r c0 ≤ nP r c
                · rw [if_pos q8]; congr 1; omega
                · rw [if_neg q8]
        | succ u ihu =>
          intro p hp
          refine w_X12_square_42 tz ⟨fun h => absurd h (by rw [e28]; exact nI_ge (by omega) (by omega)), fun _ => ⟨z_in (by omega) (by omega), s_isIn rfl (by omega) ?_⟩⟩
          have nx := ihu (p + 1) (by omega)
          have e9 : nI (cnt (fun p => pb (hrC r p c)) p) + b2i (decide (bl (ml (z + 17) (nI p).toNatClampNeg) c = true)) = nI (cnt (fun p => pb (hrC r p c)) (p + 1)) := by
            rw [b2i_nI, z_cl (by omega)]
            show _ = nI (cnt _ p + if pb (hrC r p c) = true then 1 else 0)
            have := (hh p (by omega)).at O (show c < cells r by omega)
            by_cases q9 : hrC r p c
            · rw [if_pos (this.mpr q9), if_pos (pb_iff.mpr q9)]
            · rw [if_neg (fun q8 => q9 (this.mp q8)), if_neg (fun q8 => q9 (pb_iff.mp q8))]
          rw [e9, nI_1]
          exact nx
      exact inner (gN r 3) 0 (by omega)
  exact loop (cells r) 0 0 (-1) (by omega) (Or.inl ⟨rfl, rfl⟩)
theorem CCk (C : CC mi ml o r) {mi' : pm_I} {ml' : pm_L} (hi : ∀ a, o ≤ a → a ≤ o + 5 → mi' a = mi a) (hl : ml' o = ml o) : CC mi' ml' o r := C.same hi hl
/-- the class has listened -/
theorem q_listen {kk : Nat} {K : pm_I → pm_L → Prop} (tx : TX11s kd mr x) (to : TX0s kd mr (x + 1 + 7 + 19 * kk)) (hk : kk < 2) (C : CC mi ml (x + 1 + 7 + 19 * kk) r) (O : okC r) (k9 : ∀ mi' ml', frX x mi mi' ml ml' → (∀ a, a < x + 182 → mi' a = mi a ∧ ml' a = ml a) → (∀ a, x + 208 < a → mi' a = mi a ∧ ml' a = ml a) → CC mi' ml' (x + 1 + 7 + 19 * kk) r → hX r (x + 202) mi' ml' → K mi' ml') : wV l M_X1_listen (d + 4) [.ref (x + 202), .ref (x + 1 + 7 + 19 * kk)] kd mr mi ml K := by
  refine s_listen (TX11s_a5 tx) to C O (by omega) fun A ml' hl hx => k9 _ _ (fun a ha => ⟨pm_ur_k _ _ (by omega), hl a (by omega) (by omega)⟩) (fun a ha => ⟨pm_ur_k _ _ (by omega), hl a (by omega) (by omega)⟩) (fun a ha => ⟨pm_ur_k _ _ (by omega), hl a (by omega) (by omega)⟩) (C.same (fun a h1 h2 => pm_ur_k _ _ (by omega)) (hl _ (by omega) (by omega))) hx
theorem c_square {a : Int32} {many : Bool} (tx : TX11s kd mr x) (tz : TX12s kd mr z) (I : IV x z mi ml) : wI l M_X11_square (d + 6) [.ref x, .int a, .int (b2i many)] kd mr mi ml fun r mi1 ml1 => wI l M_X12_square (d + 6) [.ref z, .int a, .int (b2i many)] kd mr mi1 ml1 fun r2 mi2 ml2 => r = r2 ∧ IV x z mi2 ml2 := by
  have f0 : ∀ (mi : pm_I) (ml : pm_L), frZ z mi (pm_up mi z 0 0) ml ml := fun _ _ => frZ.upI (Or.inl rfl)
  have hz := I.1
  refine w_X11_square tx (q_city tx I (fun m Im h => ⟨fun _ => ?_, fun b hb => (by cases hb)⟩) (fun m k r hr Im hk ha to O C => ⟨fun h => (by cases h), fun b4 hb4 => ?_⟩))
  · exact w_X12_square tz (p_handN tz Im h (pm_up_row _ _ (by omega)) (pm_up_row _ _ (by omega)) ⟨fun g => (by cases g), fun _ => ⟨rfl, I.smZ (f0 _ _)⟩⟩)
  · cases hb4
    have hm := Im.1
    refine ⟨to, q_listen tx to (by omega) C O fun mi1 ml1 fx f1 f2 C1 hx => s_loudest (TX11s_a5 tx) to C1 O hx fun c hc => ?_⟩
    refine w_X12_square tz (q_hand tz Im hr hk ha (by rw [pm_up_row _ _ (by omega)]; exact (fx _ (by omega)).1) (by rw [pm_up_row _ _ (by omega)]; exact (fx _ (by omega)).1) fun mi' f g1 g2 H => ⟨fun _ => ?_, fun g => (by cases g)⟩)
    refine s_findHeard tz H O fun g ml' hl hh => s_squareZ tz (H.ur (by omega) (by omega)) O hh fun c' hc' => ⟨by rw [hc.uniq hc'], ?_⟩
    exact (I.smX fx).smZ (((f0 _ _).tr f).tr fun a ha => ⟨pm_ur_k _ _ (by omega), hl a (by omega)⟩)
/-- who hears nobody -/
noncomputable def silM (r : Nat → Int32) (n : Nat) : Nat := mkm (fun q => pb (¬ ∃ p, p < gN r 3 ∧ hrC r p (cellC r 27 q))) n
theorem s_whoHears {K : Int32 → pm_I → pm_L → Prop} (th : TX1s kd mr h) (to : TX0s kd mr o) (C : CC mi ml o r) (O : okC r) (hh : hX r h mi ml) (k9 : K (nI (silM r (gN r 4))) mi ml) : wI l M_X1_whoHearsNothing d [.ref h, .ref o] kd mr mi ml K := by
  have h4 := O.2.2.2.2.2.1
  have e5 := C.nq O
  have loop : ∀ (q p : Nat), p + q = gN r 4 → c_X1_whoHearsNothing_4 l d kd mr h o (nI (silM r p)) (nI p) mi ml K := by
    intro q
    induction q with
    | zero =>
      intro p hp
      have : p = gN r 4 := by omega
      subst this
      exact w_X1_whoHearsNothing_4 th to ⟨fun _ => k9, fun h => absurd (by rw [e5]; exact nI_le (Nat.le_refl _) (by omega)) h⟩
    | succ q ih =>
      intro p hp
      obtain ⟨c1, c2⟩ := cellC_lt O (Or.inr ⟨rfl, (show p < gN r 4 by omega)⟩)
      obtain ⟨g1, g2, g3⟩ := spC_in O c1
      have es : mi (o + 4) (nI p).toNatClampNeg = nI (spC r (cellC r 27 p)) := by rw [z_cl (by omega), (C.pe (by omega)).2, c2]
      refine w_X1_whoHearsNothing_4 th to ⟨fun h => absurd h (by rw [e5]; exact nI_ge (by omega) (by omega)), fun _ => ⟨z_in (by omega) (by omega), by rw [es]; exact z_in g3 (by omega), ?_⟩⟩
      rw [es, z_cl (by omega), hh.2 _ g3, nI_1]
      have e9 : (if nI (hmS r (spC r (cellC r 27 p))) = 0 then nI (silM r p) ||| ((1 : Int32) <<< (nI p &&& 31)) else nI (silM r p)) = nI (silM r (p + 1)) := by
        have hm := hmS_lt O (spC r (cellC r 27 p))
        have st := mkm_step (fun q => pb (¬ ∃ p, p < gN r 3 ∧ hrC r p (cellC r 27 q))) (n := p) (by omega)
        have q1 : (nI (hmS r (spC r (cellC r 27 p))) = 0) = (hmS r (spC r (cellC r 27 p)) = 0) := z_eq (b := 0) (by omega) (by omega)
        have q2 : hmS r (spC r (cellC r 27 p)) = 0 ↔ ¬ ∃ p', p' < gN r 3 ∧ hrC r p' (cellC r 27 p) := by
          unfold hmS
          rw [mkm_zero]
          constructor
          · rintro q ⟨p', q3, q4⟩
            have := q p' q3
            rw [g2, pb_iff.mpr ⟨g1, q4⟩] at this; cases this
          · intro q i hi
            cases e : pb (inS r (spC r (cellC r 27 p)) ∧ hrC r i (ceS r (spC r (cellC r 27 p)))) with
            | false => rfl
            | true => rw [g2] at e; exact absurd ⟨i, hi, (pb_iff.mp e).2⟩ q
        have q3 : (nI (hmS r (spC r (cellC r 27 p))) = 0) = ¬ ∃ p', p' < gN r 3 ∧ hrC r p' (cellC r 27 p) := q1.trans (propext q2)
        rw [show nI (silM r (p + 1)) = nI (mkm (fun q => pb (¬ ∃ p, p < gN r 3 ∧ hrC r p (cellC r 27 q))) (p + 1)) from rfl, ← st]
        by_cases q9 : ∃ p', p' < gN r 3 ∧ hrC r p' (cellC r 27 p)
        · rw [if_neg (fun q => (q3.mp q) q9), if_neg (fun q => (pb_iff.mp q) q9)]
          exact (show nI (silM r p) = nI (silM r p) ||| nI 0 by rw [z_or, Nat.or_zero])
        · rw [if_pos (q3.mpr q9), if_pos (pb_iff.mpr q9)]; rfl
      rw [e9]
      exact ih (p + 1) (by omega)
  exact w_X1_whoHearsNothing th to (loop (gN r 4) 0 (by omega))
theorem all_bit {n p : Nat} (hn : n ≤ 6) : (2 ^ n - 1).testBit p = decide (p < n) := by rw [Nat.testBit_two_pow_sub_one]
theorem hb_all {r : Nat → Int32} (O : okC r) {c : Nat} : hb r (2 ^ gN r 3 - 1) c ↔ ∃ p, p < gN r 3 ∧ hrC r p c := by
  have h3 := O.2.2.2.2.1
  constructor
  · rintro ⟨p, h1, -, h2⟩; exact ⟨p, h1, h2⟩
  · rintro ⟨p, h1, h2⟩; exact ⟨p, h1, by rw [all_bit h3, decide_eq_true h1], h2⟩
theorem s_silentZ {K : Int32 → pm_I → pm_L → Prop} (tz : TX12s kd mr z) (H : Hd mi z k r) (O : okC r) (hh : hZ r z ml) (k9 : K (nI (silM r (gN r 4))) mi ml) : c_X12_silent_23 l (d + 2) kd mr z 0 0 mi ml K := by
  have hw := O.w
  have h4 := O.2.2.2.2.2.1
  have h3 := O.2.2.2.2.1
  have e29 := H.2.2.2.2.2.1
  have hpw := pw_le h3
  have loop : ∀ (q p : Nat), p + q = gN r 4 → c_X12_silent_23 l (d + 2) kd mr z (nI (silM r p)) (nI p) mi ml K := by
    intro q
    induction q with
    | zero =>
      intro p hp
      have : p = gN r 4 := by omega
      subst this
      exact w_X12_silent_23 tz ⟨fun _ => k9, fun h => absurd (by rw [e29]; exact nI_le (Nat.le_refl _) (by omega)) h⟩
    | succ q ih =>
      intro p hp
      obtain ⟨c1, c2⟩ := cellC_lt O (Or.inr ⟨rfl, (show p < gN r 4 by omega)⟩)
      refine w_X12_silent_23 tz ⟨fun h => absurd h (by rw [e29]; exact nI_ge (by omega) (by omega)), fun _ => s_everybody tz H O (s_heardBy tz H O hh rfl (by omega) fun w hw => s_cellOf (a := 27) tz H O rfl rfl (by omega) (by omega) (s_isIn rfl (by omega) ?_))⟩
      rw [nI_1]
      have e9 : nI (silM r p) ||| (if bl w (cellC r 27 p) = true then (0 : Int32) else ((1 : Int32) <<< (nI p &&& 31))) = nI (silM r (p + 1)) := by
        have st := mkm_step (fun q => pb (¬ ∃ p, p < gN r 3 ∧ hrC r p (cellC r 27 q))) (n := p) (by omega)
        have q2 := (hw.at O c1).trans (hb_all O)
        rw [show nI (silM r (p + 1)) = nI (mkm (fun q => pb (¬ ∃ p, p < gN r 3 ∧ hrC r p (cellC r 27 q))) (p + 1)) from rfl, ← st]
        by_cases q9 : ∃ p', p' < gN r 3 ∧ hrC r p' (cellC r 27 p)
        · rw [if_pos (q2.mpr q9), if_neg (fun q => (pb_iff.mp q) q9)]; rfl
        · rw [if_neg (fun q => q9 (q2.mp q)), if_pos (pb_iff.mpr q9)]; rfl
      rw [e9]
      exact ih (p + 1) (by omega)
  exact loop (gN r 4) 0 (by omega)
theorem c_silent {a : Int32} (tx : TX11s kd mr x) (tz : TX12s kd mr z) (I : IV x z mi ml) : wI l M_X11_silent (d + 6) [.ref x, .int a] kd mr mi ml fun r mi1 ml1 => wI l M_X12_silent (d + 6) [.ref z, .int a] kd mr mi1 ml1 fun r2 mi2 ml2 => r = r2 ∧ IV x z mi2 ml2 := by
  have f0 : ∀ (mi : pm_I) (ml : pm_L), frZ z mi (pm_up mi z 0 0) ml ml := fun _ _ => frZ.upI (Or.inl rfl)
  have hz := I.1
  refine w_X11_silent tx (q_city tx I (fun m Im h => ⟨fun _ => ?_, fun b hb => (by cases hb)⟩) (fun m k r hr Im hk ha to O C => ⟨fun h => (by cases h), fun b4 hb4 => ?_⟩))
  · exact w_X12_silent tz (p_handN tz Im h (pm_up_row _ _ (by omega)) (pm_up_row _ _ (by omega)) ⟨fun g => (by cases g), fun _ => ⟨rfl, I.smZ (f0 _ _)⟩⟩)
  · cases hb4
    have hm := Im.1
    refine ⟨to, q_listen tx to (by omega) C O fun mi1 ml1 fx f1 f2 C1 hx => s_whoHears (TX11s_a5 tx) to C1 O hx ?_⟩
    refine w_X12_silent tz (q_hand tz Im hr hk ha (by rw [pm_up_row _ _ (by omega)]; exact (fx _ (by omega)).1) (by rw [pm_up_row _ _ (by omega)]; exact (fx _ (by omega)).1) fun mi' f g1 g2 H => ⟨fun _ => ?_, fun g => (by cases g)⟩)
    refine s_findHeard tz H O fun g ml' hl hh => s_silentZ tz (H.ur (by omega) (by omega)) O hh ⟨rfl, ?_⟩
    exact (I.smX fx).smZ (((f0 _ _).tr f).tr fun a ha => ⟨pm_ur_k _ _ (by omega), hl a (by omega)⟩)
end SQ
