/-! who hears whom: masks, ranges, the class's listen, the reference's findHeard -/
/-- those of the first n for whom it holds, as bits -/
def mkm (P : Nat → Bool) : Nat → Nat
  | 0 => 0
  | n + 1 => mkm P n ||| if P n = true then 2 ^ n else 0
theorem mkm_lt (P : Nat → Bool) (n : Nat) : mkm P n < 2 ^ n := by
  induction n with
  | zero => exact Nat.lt_succ_self 0
  | succ n ih =>
    have h2 : 2 ^ n < 2 ^ (n + 1) := Nat.pow_lt_pow_right (by omega) (Nat.lt_succ_self n)
    unfold mkm
    refine Nat.or_lt_two_pow (Nat.lt_trans ih h2) ?_
    split
    · exact h2
    · exact Nat.two_pow_pos _
theorem mkm_bit (P : Nat → Bool) (n i : Nat) : (mkm P n).testBit i = (decide (i < n) && P i) := by
  induction n with
  | zero => unfold mkm; rw [Nat.zero_testBit]; simp
  | succ n ih =>
    unfold mkm
    rw [Nat.testBit_or, ih]
    by_cases h : i = n
    · subst h
      have e : decide (i < i + 1) = true := decide_eq_true (Nat.lt_succ_self i)
      have e0 : decide (i < i) = false := decide_eq_false (Nat.lt_irrefl i)
      rw [e, e0]
      by_cases hp : P i = true
      · rw [if_pos hp, Nat.testBit_two_pow_self, hp]; rfl
      · rw [if_neg hp, Nat.zero_testBit]
        have : P i = false := by simpa using hp
        rw [this]; rfl
    · have e1 : decide (i < n + 1) = decide (i < n) := by
        by_cases q : i < n
        · rw [decide_eq_true q, decide_eq_true (by omega)]
        · rw [decide_eq_false q, decide_eq_false (by omega)]
      have e2 : (if P n = true then 2 ^ n else 0).testBit i = false := by
        split
        · rw [Nat.testBit_two_pow]; simp; omega
        · exact Nat.zero_testBit i
      rw [e1, e2, Bool.or_false]
theorem mkm_congr {P Q : Nat → Bool} {n : Nat} (h : ∀ i, i < n → P i = Q i) : mkm P n = mkm Q n := by
  induction n with
  | zero => rfl
  | succ n ih => unfold mkm; rw [ih (fun i hi => h i (by omega)), h n (by omega)]
theorem mkm_256 (P : Nat → Bool) {n : Nat} (hn : n ≤ 8) : mkm P n < 256 := Nat.lt_of_lt_of_le (mkm_lt P n) (Nat.pow_le_pow_right (n := 2) (i := n) (j := 8) (by omega) hn)
theorem mkm_zero (P : Nat → Bool) (n : Nat) : mkm P n = 0 ↔ ∀ i, i < n → P i = false := by
  constructor
  · intro h i hi
    have := mkm_bit P n i
    rw [h, Nat.zero_testBit, decide_eq_true hi, Bool.true_and] at this
    exact this.symm
  · intro h
    have : mkm P n = mkm (fun _ => false) n := mkm_congr h
    rw [this]
    clear this h
    induction n with
    | zero => rfl
    | succ n ih => unfold mkm; rw [ih]; simp
theorem on_mkm (P : Nat → Bool) {n : Nat} (hn : n ≤ 8) : on (mkm P n) = cnt P n := by
  unfold on
  obtain ⟨b, hb⟩ := Nat.exists_eq_add_of_le hn
  rw [hb, cnt_all _ n b fun i h1 _ => by rw [mkm_bit, decide_eq_false (by omega)]; rfl]
  exact cnt_congr fun i hi => by rw [mkm_bit, decide_eq_true hi, Bool.true_and]
theorem z_or0 (a : Nat) : nI a ||| 0 = nI a := by
  show nI a ||| nI 0 = _
  rw [z_or, Nat.or_zero]
/-- the step of a mask, in ints -/
theorem mkm_step (P : Nat → Bool) {n : Nat} (hn : n < 9) : nI (mkm P n) ||| (if P n = true then (1 : Int32) <<< (nI n &&& 31) else 0) = nI (mkm P (n + 1)) := by
  show _ = nI (mkm P n ||| if P n = true then 2 ^ n else 0)
  rw [← z_or]
  congr 1
  split
  · exact z_shl n hn
  · rfl
def rgN (t : Nat) : Nat := if t = 0 then 3 else if t = 1 then 4 else if t = 2 then 6 else 9
theorem rgN_le (t : Nat) : rgN t ≤ 9 := by unfold rgN; split <;> try omega
                                           split <;> try omega
                                           split <;> omega
/-- the p-th player, as told, is heard at c -/
def hrC (r : Nat → Int32) (p c : Nat) : Prop := reach r (cellC r 9 p) (rgN (gN r (9 + p))) c
/-- one of a set is -/
def hb (r : Nat → Int32) (S c : Nat) : Prop := ∃ p, p < gN r 3 ∧ S.testBit p = true ∧ hrC r p c
/-- sets of cells, bit by cell -/
def cZ (r : Nat → Int32) (z : Int64) (P : Nat → Prop) : Prop := ∀ c, c < 64 → (bl z c = true ↔ c < cells r ∧ P c)
theorem cZ.congr {r : Nat → Int32} {z : Int64} {P Q : Nat → Prop} (h : cZ r z P) (e : ∀ c, c < cells r → (P c ↔ Q c)) : cZ r z Q := fun s hs => (h s hs).trans ⟨fun q => ⟨q.1, (e _ q.1).mp q.2⟩, fun q => ⟨q.1, (e _ q.1).mpr q.2⟩⟩
theorem cZ.eq {r : Nat → Int32} {z y : Int64} {P Q : Nat → Prop} (h : cZ r z P) (h2 : cZ r y Q) (e : ∀ c, c < cells r → (P c ↔ Q c)) : z = y := bl_ext fun s hs => by
  have a := ((h.congr e) s hs).trans (h2 s hs).symm
  cases e1 : bl z s <;> cases e2 : bl y s <;> first | rfl | (rw [e1, e2] at a; simp at a)
theorem cZ.ne {r : Nat → Int32} {z y : Int64} {P Q : Nat → Prop} (h : cZ r z P) (h2 : cZ r y Q) (O : okC r) (e : z = y) {c : Nat} (hc : c < cells r) : P c ↔ Q c := by
  subst e
  have hb := O.w
  have := (h c (by omega)).symm.trans (h2 c (by omega))
  exact ⟨fun q => (this.mp ⟨hc, q⟩).2, fun q => (this.mpr ⟨hc, q⟩).2⟩
theorem cZ.at {r : Nat → Int32} {z : Int64} {P : Nat → Prop} (h : cZ r z P) (O : okC r) {c : Nat} (hc : c < cells r) : bl z c = true ↔ P c := by
  have hb := O.w
  exact (h c (by omega)).trans ⟨fun q => q.2, fun q => ⟨hc, q⟩⟩
theorem pop_cZ {r : Nat → Int32} (O : okC r) {z : Int64} {P : Nat → Prop} (h : cZ r z P) : pop z = cnt (fun c => pb (P c)) (cells r) := by
  have hb := O.w
  unfold pop
  obtain ⟨b, hb2⟩ := Nat.exists_eq_add_of_le hb.2.2.2.2.2
  rw [hb2, cnt_all _ (cells r) b fun i h1 h2 => by
    cases e : bl z i with
    | false => rfl
    | true => have := ((h i (by omega)).mp e).1; omega]
  refine cnt_congr fun i hi => ?_
  have := (h.at O hi).trans pb_iff.symm
  cases e1 : bl z i <;> cases e2 : pb (P i) <;> first | rfl | (rw [e1, e2] at this; simp at this)
theorem bl_one : ∀ i, i < 64 → bl 1 i = decide (i = 0) := by decide +kernel
/-- what the class knows: heardOf, playersAt -/
noncomputable def hmS (r : Nat → Int32) (s : Nat) : Nat := mkm (fun p => pb (inS r s ∧ hrC r p (ceS r s))) (gN r 3)
def hX (r : Nat → Int32) (h : Nat) (mi : pm_I) (ml : pm_L) : Prop := (∀ p, p < gN r 3 → cS r (ml (h + 3) p) (hrC r p)) ∧ ∀ s, s < 64 → mi (h + 4) s = nI (hmS r s)
def hZ (r : Nat → Int32) (z : Nat) (ml : pm_L) : Prop := ∀ p, p < gN r 3 → cZ r (ml (z + 17) p) (hrC r p)
section EARS
variable {l : Launch} {d h o x z T : Nat} {kd : pm_K} {mr : pm_R} {mi : pm_I} {ml : pm_L} {k : Nat} {r : Nat → Int32}
theorem s_fill {a n : Nat} {v : Int32} {K : pm_I → pm_L → Prop} (ka : kd[a]? = some (1, n)) (hn : n < 2147483648) (k9 : K (pm_ur mi a fun i => if i < n then v else mi a i) ml) : wV l M_J7_fill_53178 d [.ref a, .int v] kd mr mi ml K := by
  have loop : ∀ (q i : Nat), i + q = n → c_J7_fill_53178_5 l d kd mr a n v (nI i) (nI n) (pm_ur mi a fun j => if j < i then v else mi a j) ml K := by
    intro q
    induction q with
    | zero =>
      intro i hi
      have : i = n := by omega
      subst this
      exact w_J7_fill_53178_5 ka ⟨fun _ => k9, fun h => absurd (nI_le (Nat.le_refl _) hn) h⟩
    | succ q ih =>
      intro i hi
      refine w_J7_fill_53178_5 ka ⟨fun h => absurd h (nI_ge (by omega) (by omega)), fun _ => ⟨z_in (by omega) (by omega), ?_⟩⟩
      rw [nI_1, z_cl (by omega), pm_up_ur]
      have := ih (i + 1) (by omega)
      have e : (fun j => if j = i then v else if j < i then v else mi a j) = fun j => if j < i + 1 then v else mi a j := by
        funext j
        by_cases h1 : j = i
        · rw [if_pos h1, if_pos (by omega)]
        · rw [if_neg h1]
          by_cases h2 : j < i
          · rw [if_pos h2, if_pos (by omega)]
          · rw [if_neg h2, if_neg (by omega)]
      rw [e]; exact this
  have := loop n 0 (by omega)
  have e : (fun j => if j < 0 then v else mi a j) = mi a := by funext j; rw [if_neg (by omega)]
  rw [e, pm_ur_self] at this
  exact w_J7_fill_53178 ka this
theorem Hd.sm {mi' : pm_I} (H : Hd mi z k r) (h : ∀ a, a = z ∨ a = z + 6 → mi' a = mi a) : Hd mi' z k r := by
  unfold Hd at H ⊢
  rw [h z (Or.inl rfl), h (z + 6) (Or.inr rfl)]
  exact H
theorem s_rangeOf {p : Nat} {y : Int32} {K : Int32 → pm_I → pm_L → Prop} (to : TX0s kd mr o) (C : CC mi ml o r) (O : okC r) (hy : y = nI p) (hp : p < gN r 3) (k9 : K (nI (rgN (gN r (9 + p)))) mi ml) : wI l M_X0_rangeOf d [.ref o, .int y] kd mr mi ml K := by
  subst hy
  have h3 := O.2.2.2.2.1
  have ht := (O.2.2.2.2.2.2.2.1 p hp).1
  have e1 : mi (o + 1) (nI p).toNatClampNeg = nI (gN r (9 + p)) := by rw [z_cl (by omega), (C.pl hp).1, O.lit (by omega)]
  refine w_X0_rangeOf to ?_
  rw [e1]
  generalize gN r (9 + p) = t at *
  refine ⟨z_in (by omega) (by omega), fun h => absurd h (nI_pos (by omega)), fun _ => ⟨fun h => absurd h (nI_ge (b := 4) (by omega) (by omega)), fun _ => ⟨z_in (by omega) (by omega), fun g hg => ?_⟩⟩⟩
  rw [z_cl (by omega)] at hg
  have : g = nI (rgN t) := by
    rcases (show t = 0 ∨ t = 1 ∨ t = 2 ∨ t = 3 by omega) with rfl | rfl | rfl | rfl <;> (cases hg; rfl)
  rw [this]; exact k9
theorem s_rangeZ {t : Nat} {y : Int32} {K : Int32 → pm_I → pm_L → Prop} (hy : y = nI t) (ht : t < 4) (k9 : K (nI (rgN t)) mi ml) : wI l M_X12_range d [.int y] kd mr mi ml K := by
  subst hy
  refine w_X12_range ?_
  rcases (show t = 0 ∨ t = 1 ∨ t = 2 ∨ t = 3 by omega) with rfl | rfl | rfl | rfl <;> exact k9
theorem pw_le {n : Nat} (h : n ≤ 6) : 2 ^ n ≤ 64 ∧ 1 ≤ 2 ^ n := ⟨Nat.pow_le_pow_right (n := 2) (i := n) (j := 6) (by omega) h, Nat.one_le_two_pow⟩
theorem z_all {n : Nat} (h : n ≤ 6) : ((1 : Int32) <<< (nI n &&& 31)) - 1 = nI (2 ^ n - 1) := by
  have := pw_le h
  have e : (1 : Int32) <<< (nI n &&& 31) = nI (2 ^ n) := z_shl n (by omega)
  rw [e]
  exact z_sub (b := 1) (by omega)
theorem s_listen {K : pm_I → pm_L → Prop} (th : TX1s kd mr h) (to : TX0s kd mr o) (C : CC mi ml o r) (O : okC r) (ho : o + 5 < h) (k9 : ∀ A ml', (∀ a, a ≠ h + 2 → a ≠ h + 3 → ml' a = ml a) → hX r h (pm_ur mi (h + 4) A) ml' → K (pm_ur mi (h + 4) A) ml') : wV l M_X1_listen (d + 4) [.ref h, .ref o] kd mr mi ml K := by
  have hw := O.w
  have h3 := O.2.2.2.2.1
  have CA : ∀ (A : Nat → Int32) (ml1 : pm_L), (∀ a, a ≠ h + 2 → a ≠ h + 3 → ml1 a = ml a) → CC (pm_ur mi (h + 4) A) ml1 o r := fun A ml1 hl => C.same (fun a h1 h2 => pm_ur_k _ _ (by omega)) (hl o (by omega) (by omega))
  have e4 : ∀ (A : Nat → Int32) (ml1 : pm_L), (∀ a, a ≠ h + 2 → a ≠ h + 3 → ml1 a = ml a) → pm_ur mi (h + 4) A o 4 = nI (gN r 3) := fun A ml1 hl => (CA A ml1 hl).np O
  have outer : ∀ (q p : Nat) (A : Nat → Int32) (ml1 : pm_L), p + q = gN r 3 → (∀ a, a ≠ h + 2 → a ≠ h + 3 → ml1 a = ml a) → (∀ p', p' < p → cS r (ml1 (h + 3) p') (hrC r p')) → (∀ s, s < 64 → A s = nI (mkm (fun p => pb (inS r s ∧ hrC r p (ceS r s))) p)) → c_X1_listen_10 l (d + 4) kd mr h o (nI p) (pm_ur mi (h + 4) A) ml1 K := by
    intro q
    induction q with
    | zero =>
      intro p A ml1 hp hl h1 h2
      have : p = gN r 3 := by omega
      subst this
      exact w_X1_listen_10 th to ⟨fun _ => k9 A ml1 hl ⟨h1, fun s hs => by rw [pm_ur_s]; exact h2 s hs⟩, fun h => absurd (by rw [e4 A ml1 hl]; exact nI_le (Nat.le_refl _) (by omega)) h⟩
    | succ q ih =>
      intro p A ml1 hp hl h1 h2
      have hpp : p < gN r 3 := by omega
      obtain ⟨c1, c2⟩ := cellC_lt O (Or.inl ⟨rfl, hpp⟩)
      have hrg := rgN_le (gN r (9 + p))
      refine w_X1_listen_10 th to ⟨fun h => absurd h (by rw [e4 A ml1 hl]; exact nI_ge (by omega) (by omega)), fun _ => ⟨z_in (by omega) (by omega), s_rangeOf to (CA A ml1 hl) O rfl hpp ?_⟩⟩
      have e2 : pm_ur mi (h + 4) A (o + 2) (nI p).toNatClampNeg = nI (spC r (cellC r 9 p)) := by rw [z_cl (by omega), ((CA A ml1 hl).pl hpp).2, c2]
      rw [e2]
      refine s_heardX (TX1s_a0 th) to (CA A ml1 hl) O (by omega) c1 rfl rfl (by omega) fun v g hv => ⟨z_in (by omega) (by omega), ?_⟩
      rw [z_cl (by omega)]
      have hl2 : ∀ a, a ≠ h + 2 → a ≠ h + 3 → pm_up (pm_ur ml1 (h + 1 + 1) g) (h + 3) p v a = ml a := fun a g1 g2 => by
        rw [pm_up_row _ _ g2, pm_ur_k _ _ (by omega)]; exact hl a g1 g2
      have h3' : ∀ p', p' < p + 1 → cS r (pm_up (pm_ur ml1 (h + 1 + 1) g) (h + 3) p v (h + 3) p') (hrC r p') := by
        intro p' hp'
        by_cases e : p' = p
        · subst e; rw [pm_up_s]; exact hv
        · rw [pm_up_j _ _ e, pm_ur_k _ _ (by omega)]; exact h1 p' (by omega)
      have hvv : pm_up (pm_ur ml1 (h + 1 + 1) g) (h + 3) p v (h + 3) p = v := pm_up_s _ _ _ _
      generalize pm_up (pm_ur ml1 (h + 1 + 1) g) (h + 3) p v = ml2 at hl2 h3' hvv
      have inner : ∀ (u s : Nat) (A : Nat → Int32), s + u = 64 → (∀ s', s' < 64 → A s' = nI (mkm (fun p => pb (inS r s' ∧ hrC r p (ceS r s'))) (if s' < s then p + 1 else p))) → c_X1_listen_45 l (d + 4) kd mr h o (nI p) (nI s) (pm_ur mi (h + 4) A) ml2 K := by
        intro u
        induction u with
        | zero =>
          intro s A hs hA
          have : s = 64 := by omega
          subst this
          refine w_X1_listen_45 th to ⟨fun _ => ?_, fun h => absurd (nI_le (Nat.le_refl 64) (by omega)) h⟩
          rw [nI_1]
          exact ih (p + 1) A ml2 (by omega) hl2 h3' (fun s hs => by have := hA s hs; rw [if_pos hs] at this; exact this)
        | succ u ihu =>
          intro s A hs hA
          refine w_X1_listen_45 th to ⟨fun h => absurd h (nI_ge (b := 64) (by omega) (by omega)), fun _ => ⟨z_in (by omega) (by omega), s_hasX rfl (by omega) ?_⟩⟩
          rw [z_cl (by omega), hvv]
          have hvs := hv s (by omega)
          have nx : ∀ A', (∀ s', s' ≠ s → A' s' = A s') → A' s = nI (mkm (fun p => pb (inS r s ∧ hrC r p (ceS r s))) (p + 1)) → c_X1_listen_45 l (d + 4) kd mr h o (nI p) (nI (s + 1)) (pm_ur mi (h + 4) A') ml2 K := by
            intro A' g1 g2
            refine ihu (s + 1) A' (by omega) fun s' hs' => ?_
            by_cases e : s' = s
            · subst e; rw [if_pos (by omega)]; exact g2
            · rw [g1 s' e, hA s' hs']
              by_cases e2 : s' < s
              · rw [if_pos e2, if_pos (by omega)]
              · rw [if_neg e2, if_neg (by omega)]
          have hAs := hA s (by omega)
          rw [if_neg (Nat.lt_irrefl s)] at hAs
          have hst := mkm_step (fun p => pb (inS r s ∧ hrC r p (ceS r s))) (n := p) (by omega)
          refine ⟨fun hh => w_X1_listen_76 th to ?_, fun hh => ⟨z_in (by omega) (by omega), z_in (by omega) (by omega), w_X1_listen_76 th to ?_⟩⟩
          · rw [nI_1]
            refine nx A (fun _ _ => rfl) ?_
            rw [hAs]
            have : ¬ pb (inS r s ∧ hrC r p (ceS r s)) = true := fun q => by rw [hvs.mpr (pb_iff.mp q)] at hh; cases hh
            rw [if_neg this] at hst
            rw [← hst]
            exact (z_or0 _).symm
          · rw [nI_1, z_cl (by omega), pm_up_ur, pm_ur_s]
            refine nx _ (fun s' e => if_neg e) ?_
            rw [if_pos rfl, hAs]
            have : pb (inS r s ∧ hrC r p (ceS r s)) = true := pb_iff.mpr (hvs.mp hh)
            rw [if_pos this] at hst
            exact hst
      exact inner 64 0 A rfl (fun s' hs' => by rw [if_neg (by omega)]; exact h2 s' hs')
  refine w_X1_listen th to (s_fill (TX1s_a2 th) (by omega) (outer (gN r 3) 0 _ ml (by omega) (fun _ _ _ => rfl) (fun p hp => by omega) fun s hs => ?_))
  show (if s < 64 then (0 : Int32) else mi (h + 4) s) = nI 0
  rw [if_pos hs]; rfl
theorem s_heardFrom {f t : Nat} {y v : Int32} {K : Int64 → pm_I → pm_L → Prop} (tz : TX12s kd mr z) (H : Hd mi z k r) (O : okC r) (hy : y = nI f) (hv : v = nI t) (hf : f < cells r) (ht : t < 4) (k9 : ∀ w g, cZ r w (reach r f (rgN t)) → K w (pm_ur mi (z + 12) g) ml) : wL l M_X12_heardFrom (d + 4) [.ref z, .int y, .int v] kd mr mi ml K := by
  subst hv
  have hw := O.w
  have hrg := rgN_le t
  refine w_X12_heardFrom tz (s_findCost tz H O hy hf fun g a hg => ?_)
  have e27 : pm_ur mi (z + 12) g z 27 = nI (cells r) := (H.ur (by omega) (by omega)).2.2.2.1
  have loop : ∀ (q c : Nat) (w : Int64), c + q = cells r → (∀ c', c' < 64 → (bl w c' = true ↔ c' < c ∧ reach r f (rgN t) c')) → c_X12_heardFrom_10 l (d + 4) kd mr z (nI t) w (nI c) (pm_ur mi (z + 12) g) ml K := by
    intro q
    induction q with
    | zero =>
      intro c w hc hw
      have : c = cells r := by omega
      subst this
      exact w_X12_heardFrom_10 tz ⟨fun _ => k9 w g hw, fun h => absurd (by rw [e27]; exact nI_le (Nat.le_refl _) (by omega)) h⟩
    | succ q ih =>
      intro c w hc hw
      obtain ⟨a1, a2, a3, a4⟩ := hg c (by omega)
      refine w_X12_heardFrom_10 tz ⟨fun h => absurd h (by rw [e27]; exact nI_ge (by omega) (by omega)), fun _ => ⟨z_in (by omega) (by omega), s_rangeZ rfl ht ?_⟩⟩
      rw [z_cl (by omega), pm_ur_s, a1, nI_1]
      have c9 : (nI (rgN t) < nI (a c)) = (rgN t < a c) := z_lt (by omega) (by omega)
      simp only [c9]
      refine ih (c + 1) _ (by omega) fun c' hc' => ?_
      rw [bl_or, Bool.or_eq_true, hw c' hc']
      have hre : reach r f (rgN t) c ↔ ¬ rgN t < a c := by
        constructor
        · intro q9; have := a4 _ q9; omega
        · intro q9; exact (a3 (by omega)).mono (by omega)
      constructor
      · rintro (⟨h1, h2⟩ | h1)
        · exact ⟨by omega, h2⟩
        · split at h1
          · rw [bl_0] at h1; cases h1
          · rename_i q9
            rw [bl_only (by omega) hc', decide_eq_true_eq] at h1
            subst h1
            exact ⟨by omega, hre.mpr q9⟩
      · rintro ⟨h1, h2⟩
        by_cases e : c' = c
        · subst e
          right
          rw [if_neg (hre.mp h2), bl_only (by omega) hc', decide_eq_true_eq]
        · exact Or.inl ⟨by omega, h2⟩
  exact loop (cells r) 0 0 (by omega) fun c' hc' => by rw [bl_0]; simp
theorem s_findHeard {K : pm_I → pm_L → Prop} (tz : TX12s kd mr z) (H : Hd mi z k r) (O : okC r) (k9 : ∀ g ml', (∀ a, a ≠ z + 17 → ml' a = ml a) → hZ r z ml' → K (pm_ur mi (z + 12) g) ml') : wV l M_X12_findHeard (d + 5) [.ref z] kd mr mi ml K := by
  have hw := O.w
  have h3 := O.2.2.2.2.1
  have Hg : ∀ g, Hd (pm_ur mi (z + 12) g) z k r := fun g => H.ur (by omega) (by omega)
  have e28 : ∀ g, pm_ur mi (z + 12) g z 28 = nI (gN r 3) := fun g => (Hg g).2.2.2.2.1.trans rfl
  have loop : ∀ (q p : Nat) (g : Nat → Int32) (ml1 : pm_L), p + q = gN r 3 → (∀ a, a ≠ z + 17 → ml1 a = ml a) → (∀ p', p' < p → cZ r (ml1 (z + 17) p') (hrC r p')) → c_X12_findHeard_2 l (d + 5) kd mr z (nI p) (pm_ur mi (z + 12) g) ml1 K := by
    intro q
    induction q with
    | zero =>
      intro p g ml1 hp hl h1
      have : p = gN r 3 := by omega
      subst this
      exact w_X12_findHeard_2 tz ⟨fun _ => k9 g ml1 hl h1, fun h => absurd (by rw [e28]; exact nI_le (Nat.le_refl _) (by omega)) h⟩
    | succ q ih =>
      intro p g ml1 hp hl h1
      have hpp : p < gN r 3 := by omega
      obtain ⟨c1, c2⟩ := cellC_lt O (Or.inl ⟨rfl, hpp⟩)
      have ht := (O.2.2.2.2.2.2.2.1 p hpp).1
      refine w_X12_findHeard_2 tz ⟨fun h => absurd h (by rw [e28]; exact nI_ge (by omega) (by omega)), fun _ => s_cellOf (a := 9) tz (Hg g) O rfl rfl (by omega) (by omega) (s_of (a := 9 + p) tz (Hg g) (nI_add 9 p) (by omega) ?_)⟩
      refine s_heardFrom tz (Hg g) O rfl (O.lit (by omega)) c1 ht fun w g2 hw2 => ⟨z_in (by omega) (by omega), ?_⟩
      rw [pm_ur_ur, z_cl (by omega), nI_1]
      refine ih (p + 1) g2 _ (by omega) (fun a ha => by rw [pm_up_row _ _ ha]; exact hl a ha) fun p' hp' => ?_
      by_cases e : p' = p
      · subst e; rw [pm_up_s]; exact hw2
      · rw [pm_up_j _ _ e]; exact h1 p' (by omega)
  have := loop (gN r 3) 0 (mi (z + 12)) ml (by omega) (fun _ _ => rfl) (fun p hp => by omega)
  rw [pm_ur_self] at this
  exact w_X12_findHeard tz this
theorem s_everybody {K : Int32 → pm_I → pm_L → Prop} (tz : TX12s kd mr z) (H : Hd mi z k r) (O : okC r) (k9 : K (nI (2 ^ gN r 3 - 1)) mi ml) : wI l M_X12_everybody d [.ref z] kd mr mi ml K := by
  have e28 := H.2.2.2.2.1
  refine w_X12_everybody tz ?_
  rw [e28, z_all O.2.2.2.2.1]; exact k9
theorem s_heardBy {S : Nat} {y : Int32} {K : Int64 → pm_I → pm_L → Prop} (tz : TX12s kd mr z) (H : Hd mi z k r) (O : okC r) (hh : hZ r z ml) (hy : y = nI S) (hS : S < 256) (k9 : ∀ w, cZ r w (hb r S) → K w mi ml) : wL l M_X12_heardBy (d + 1) [.ref z, .int y] kd mr mi ml K := by
  subst hy
  have h3 := O.2.2.2.2.1
  have e28 := H.2.2.2.2.1
  have loop : ∀ (q p : Nat) (w : Int64), p + q = gN r 3 → (∀ c, c < 64 → (bl w c = true ↔ c < cells r ∧ ∃ p', p' < p ∧ S.testBit p' = true ∧ hrC r p' c)) → c_X12_heardBy_5 l (d + 1) kd mr z (nI S) w (nI p) mi ml K := by
    intro q
    induction q with
    | zero =>
      intro p w hp hw
      have : p = gN r 3 := by omega
      subst this
      exact w_X12_heardBy_5 tz ⟨fun _ => k9 w hw, fun h => absurd (by rw [e28]; exact nI_le (Nat.le_refl _) (by omega)) h⟩
    | succ q ih =>
      intro p w hp hw
      have hpp : p < gN r 3 := by omega
      have nx : ∀ v : Int64, (∀ c, c < 64 → (bl v c = true ↔ c < cells r ∧ S.testBit p = true ∧ hrC r p c)) → c_X12_heardBy_35 l (d + 1) kd mr z (nI S) (nI p) v w mi ml K := by
        intro v hv
        refine w_X12_heardBy_35 tz ?_
        rw [nI_1]
        refine ih (p + 1) _ (by omega) fun c hc => ?_
        rw [bl_or, Bool.or_eq_true, hw c hc, hv c hc]
        constructor
        · rintro (⟨h1, p', h2, h4⟩ | ⟨h1, h2⟩)
          · exact ⟨h1, p', by omega, h4⟩
          · exact ⟨h1, p, by omega, h2⟩
        · rintro ⟨h1, p', h2, h4⟩
          by_cases e : p' = p
          · subst e; exact Or.inr ⟨h1, h4⟩
          · exact Or.inl ⟨h1, p', by omega, h4⟩
      refine w_X12_heardBy_5 tz ⟨fun h => absurd h (by rw [e28]; exact nI_ge (by omega) (by omega)), fun _ => s_has rfl rfl hS (by omega) ⟨fun e => nx 0 fun c hc => ?_, fun e => ⟨z_in (by omega) (by omega), nx _ fun c hc => ?_⟩⟩⟩
      · rw [bl_0, e]; simp
      · rw [z_cl (by omega), hh p hpp c hc, e]; simp
  exact w_X12_heardBy tz (loop (gN r 3) 0 0 (by omega) fun c hc => by rw [bl_0]; simp)
theorem s_openZ {K : Int64 → pm_I → pm_L → Prop} (tz : TX12s kd mr z) (H : Hd mi z k r) (O : okC r) (k9 : ∀ w, cZ r w (fun c => wlC r c = false) → K w mi ml) : wL l M_X12_open (d + 2) [.ref z] kd mr mi ml K := by
  have hw := O.w
  have e27 : mi z 27 = nI (cells r) := H.2.2.2.1
  have loop : ∀ (q c : Nat) (w : Int64), c + q = cells r → (∀ c', c' < 64 → (bl w c' = true ↔ c' < c ∧ wlC r c' = false)) → c_X12_open_4 l (d + 2) kd mr z w (nI c) mi ml K := by
    intro q
    induction q with
    | zero =>
      intro c w hc hw
      have : c = cells r := by omega
      subst this
      exact w_X12_open_4 tz ⟨fun _ => k9 w hw, fun h => absurd (by rw [e27]; exact nI_le (Nat.le_refl _) (by omega)) h⟩
    | succ q ih =>
      intro c w hc hw
      refine w_X12_open_4 tz ⟨fun h => absurd h (by rw [e27]; exact nI_ge (by omega) (by omega)), fun _ => s_isWall tz H O rfl (by omega) ?_⟩
      rw [nI_1]
      refine ih (c + 1) _ (by omega) fun c' hc' => ?_
      rw [bl_or, Bool.or_eq_true, hw c' hc']
      constructor
      · rintro (⟨h1, h2⟩ | h1)
        · exact ⟨by omega, h2⟩
        · split at h1
          · rw [bl_0] at h1; cases h1
          · rename_i q9
            rw [bl_only (by omega) hc', decide_eq_true_eq] at h1
            subst h1
            exact ⟨by omega, by simpa using q9⟩
      · rintro ⟨h1, h2⟩
        by_cases e : c' = c
        · subst e
          right
          rw [if_neg (by rw [h2]; decide), bl_only (by omega) hc', decide_eq_true_eq]
        · exact Or.inl ⟨by omega, h2⟩
  exact w_X12_open tz (loop (cells r) 0 0 (by omega) fun c' hc' => by rw [bl_0]; simp)
theorem bl_lsb : ∀ c, c < 64 → (((nI c).toInt64 &&& 63).toBitVec.smod 64).toNat = c := bk_l
theorem bl_shr1 {c : Nat} (hc : c < 64) (x : Int64) : (decide (lg_cmp ((x >>> ((nI c).toInt64 &&& 63)) &&& 1) 1 = 0)) = bl x c := by
  have e0 : bl (x >>> ((nI c).toInt64 &&& 63)) 0 = bl x c := by
    unfold bl
    rw [Int64.toBitVec_shiftRight, BitVec.sshiftRight_eq', bk_l c hc, BitVec.getLsbD_sshiftRight]
    simp [hc]
  have e1 : ((x >>> ((nI c).toInt64 &&& 63)) &&& 1 = 1) = (bl x c = true) := by
    apply propext
    constructor
    · intro h
      have : bl ((x >>> ((nI c).toInt64 &&& 63)) &&& 1) 0 = bl 1 0 := by rw [h]
      rw [bl_and, e0, bl_one 0 (by omega)] at this
      simpa using this
    · intro h
      refine bl_ext fun s hs => ?_
      rw [bl_and, bl_one s hs]
      by_cases q : s = 0
      · subst q; rw [e0, h]; rfl
      · simp [q]
  simp only [lg_eq, e1]
  cases bl x c <;> rfl
theorem s_isIn {c : Nat} {x : Int64} {y : Int32} {K : Bool → pm_I → pm_L → Prop} (hy : y = nI c) (hc : c < 64) (k9 : K (bl x c) mi ml) : wB l M_X12_isIn d [.long x, .int y] kd mr mi ml K := by
  subst hy
  refine w_X12_isIn ?_
  rw [bl_shr1 hc]; exact k9
theorem s_heardOfSet {S : Nat} {y : Int32} {K : Int64 → pm_I → pm_L → Prop} (th : TX1s kd mr h) (to : TX0s kd mr o) (C : CC mi ml o r) (O : okC r) (hh : hX r h mi ml) (hy : y = nI S) (hS : S < 256) (k9 : ∀ w, cS r w (hb r S) → K w mi ml) : wL l M_X1_heardOfSet d [.ref h, .ref o, .int y] kd mr mi ml K := by
  subst hy
  have h3 := O.2.2.2.2.1
  have e4 := C.np O
  have loop : ∀ (q p : Nat) (w : Int64), p + q = gN r 3 → (∀ s, s < 64 → (bl w s = true ↔ inS r s ∧ ∃ p', p' < p ∧ S.testBit p' = true ∧ hrC r p' (ceS r s))) → c_X1_heardOfSet_5 l d kd mr h o (nI S) w (nI p) mi ml K := by
    intro q
    induction q with
    | zero =>
      intro p w hp hw
      have : p = gN r 3 := by omega
      subst this
      exact w_X1_heardOfSet_5 th to ⟨fun _ => k9 w hw, fun h => absurd (by rw [e4]; exact nI_le (Nat.le_refl _) (by omega)) h⟩
    | succ q ih =>
      intro p w hp hw
      have hpp : p < gN r 3 := by omega
      have eb : (nI S >>> (nI p &&& 31)) &&& 1 = nI (if S.testBit p = true then 1 else 0) := z_bit S hS p (by omega)
      refine w_X1_heardOfSet_5 th to ⟨fun h => absurd h (by rw [e4]; exact nI_ge (by omega) (by omega)), fun _ => ?_⟩
      rw [eb]
      refine ⟨fun e => w_X1_heardOfSet_33 th to ?_, fun e => ⟨z_in (by omega) (by omega), w_X1_heardOfSet_33 th to ?_⟩⟩
      · have hb0 : S.testBit p = false := by
          cases q9 : S.testBit p with
          | false => rfl
          | true => rw [q9] at e; exact absurd e (by decide)
        rw [nI_1]
        refine ih (p + 1) _ (by omega) fun s hs => (hw s hs).trans ?_
        constructor
        · rintro ⟨h1, p', h2, h4⟩; exact ⟨h1, p', by omega, h4⟩
        · rintro ⟨h1, p', h2, h4, h5⟩
          by_cases e : p' = p
          · subst e; rw [hb0] at h4; cases h4
          · exact ⟨h1, p', by omega, h4, h5⟩
      · have hb1 : S.testBit p = true := by
          cases q9 : S.testBit p with
          | true => rfl
          | false => rw [q9] at e; exact absurd rfl e
        rw [nI_1, z_cl (by omega)]
        refine ih (p + 1) _ (by omega) fun s hs => ?_
        rw [bl_or, Bool.or_eq_true, hw s hs, hh.1 p hpp s hs]
        constructor
        · rintro (⟨h1, p', h2, h4⟩ | ⟨h1, h2⟩)
          · exact ⟨h1, p', by omega, h4⟩
          · exact ⟨h1, p, by omega, hb1, h2⟩
        · rintro ⟨h1, p', h2, h4, h5⟩
          by_cases e : p' = p
          · subst e; exact Or.inr ⟨h1, h5⟩
          · exact Or.inl ⟨h1, p', by omega, h4, h5⟩
  exact w_X1_heardOfSet th to (loop (gN r 3) 0 0 (by omega) fun s hs => by rw [bl_0]; simp)
end EARS
