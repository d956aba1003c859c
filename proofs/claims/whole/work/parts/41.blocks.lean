/-! wraps of what stands; steps and blocks -/
theorem nxt_back {r : Nat → Int32} (O : okC r) {c w t : Nat} (hc : c < cells r) (hw : w < 4) (h : nxt r c w = some t) : nxt r t ((w + 2) % 4) = some c := by
  have hb := O.w
  obtain ⟨c1, c2⟩ := cell_xy O hc
  have ec := clC_of (r := r) c
  generalize c % gN r 0 = x at c1 ec
  generalize c / gN r 0 = y at c2 ec
  subst ec
  rw [nxt_xy c1 c2 w hw] at h
  rcases (show w = 0 ∨ w = 1 ∨ w = 2 ∨ w = 3 by omega) with rfl | rfl | rfl | rfl
  · rw [if_pos rfl] at h
    split at h
    · cases h
    · cases h
      rw [nxt_xy c1 (by omega) _ (by omega), if_neg (by decide), if_neg (by decide), if_pos rfl, if_neg (by omega), show y - 1 + 1 = y by omega]
  · rw [if_neg (by decide), if_pos rfl] at h
    split at h
    · cases h
    · cases h
      rw [nxt_xy (by omega) c2 _ (by omega), if_neg (by decide), if_neg (by decide), if_neg (by decide), if_neg (by omega), show x + 1 - 1 = x by omega]
  · rw [if_neg (by decide), if_neg (by decide), if_pos rfl] at h
    split at h
    · cases h
    · cases h
      rw [nxt_xy c1 (by omega) _ (by omega), if_pos rfl, if_neg (by omega), show y + 1 - 1 = y by omega]
  · rw [if_neg (by decide), if_neg (by decide), if_neg (by decide)] at h
    split at h
    · cases h
    · cases h
      rw [nxt_xy (by omega) c2 _ (by omega), if_neg (by decide), if_pos rfl, if_neg (by omega), show x - 1 + 1 = x by omega]
theorem fre_back {r : Nat → Int32} (O : okC r) {c w t : Nat} (hc : c < cells r) (hw : w < 4) (ho : wlC r c = false) (h : fre r c w = some t) : fre r t ((w + 2) % 4) = some c := fre_iff.mpr ⟨nxt_back O hc hw (fre_iff.mp h).1, ho⟩
/-- what is come to is open, if the start is -/
theorem rN_open {r : Nat → Int32} {f : Nat} (ho : wlC r f = false) : ∀ k c, rN (fre r) f k c → wlC r c = false := by
  intro k
  induction k with
  | zero => intro c h; rw [show c = f from h]; exact ho
  | succ k ih =>
    intro c h
    rcases h with h | ⟨c', w, -, -, h3⟩
    · exact ih c h
    · exact (fre_iff.mp h3).2
theorem rN_sym {r : Nat → Int32} (O : okC r) {f : Nat} (hf : f < cells r) (ho : wlC r f = false) : ∀ k c, rN (fre r) f k c → rN (fre r) c k f := by
  intro k
  induction k with
  | zero => intro c h; rw [show c = f from h]; exact rfl
  | succ k ih =>
    intro c h
    rcases h with h | ⟨c', w, h1, h2, h3⟩
    · exact Or.inl (ih c h)
    · have hb := fre_back O (rN.lt (fre_clo O) hf _ _ h2) h1 (rN_open ho _ _ h2) h3
      have h4 : rN (fre r) c 1 c' := rN.step (k := 0) rfl (by omega) hb
      have := h4.trans (ih c' h2)
      rw [Nat.add_comm] at this; exact this
/-- one is come to from the other -/
def cn (r : Nat → Int32) (f e : Nat) : Prop := ∃ k, rN (fre r) f k e
theorem cn.rf (r : Nat → Int32) (f : Nat) : cn r f f := ⟨0, rfl⟩
theorem cn.tr {r : Nat → Int32} {a b c : Nat} (h1 : cn r a b) (h2 : cn r b c) : cn r a c := by
  obtain ⟨k, h1⟩ := h1
  obtain ⟨k', h2⟩ := h2
  exact ⟨k + k', h1.trans h2⟩
theorem cn.sym {r : Nat → Int32} (O : okC r) {a b : Nat} (ha : a < cells r) (ho : wlC r a = false) (h : cn r a b) : cn r b a := by
  obtain ⟨k, h⟩ := h
  exact ⟨k, rN_sym O ha ho k b h⟩
theorem cn.lt {r : Nat → Int32} (O : okC r) {a b : Nat} (ha : a < cells r) (h : cn r a b) : b < cells r := by
  obtain ⟨k, h⟩ := h
  exact rN.lt (fre_clo O) ha k b h
theorem cn.op {r : Nat → Int32} {a b : Nat} (ho : wlC r a = false) (h : cn r a b) : wlC r b = false := by
  obtain ⟨k, h⟩ := h
  exact rN_open ho k b h
/-- the least of its part -/
def isMn (r : Nat → Int32) (c : Nat) : Prop := c < cells r ∧ wlC r c = false ∧ ∀ e, cn r c e → c ≤ e
/-- how many cells its part has -/
noncomputable def szC (r : Nat → Int32) (c : Nat) : Nat := cnt (fun e => pb (cn r c e)) (cells r)
theorem least_of {P : Nat → Prop} {n : Nat} (h : P n) : ∃ m, m ≤ n ∧ P m ∧ ∀ i, i < m → ¬ P i := by
  have key : ∀ k, k ≤ n + 1 → (∀ i, i < k → ¬ P i) ∨ ∃ m, m < k ∧ P m ∧ ∀ i, i < m → ¬ P i := by
    intro k
    induction k with
    | zero => intro _; exact Or.inl fun i hi => by omega
    | succ k ih =>
      intro hk
      rcases ih (by omega) with g | ⟨m, g1, g2, g3⟩
      · by_cases e : P k
        · exact Or.inr ⟨k, by omega, e, g⟩
        · refine Or.inl fun i hi => ?_
          by_cases q : i = k
          · subst q; exact e
          · exact g i (by omega)
      · exact Or.inr ⟨m, by omega, g2, g3⟩
  rcases key (n + 1) (Nat.le_refl _) with g | ⟨m, g1, g2, g3⟩
  · exact absurd h (g n (by omega))
  · exact ⟨m, by omega, g2, g3⟩
theorem mn_of {r : Nat → Int32} (O : okC r) {c : Nat} (hc : c < cells r) (ho : wlC r c = false) : ∃ m, m ≤ c ∧ isMn r m ∧ cn r m c := by
  obtain ⟨m, h1, h2, h3⟩ := least_of (P := fun e => cn r c e) (cn.rf r c)
  refine ⟨m, h1, ⟨cn.lt O hc h2, cn.op ho h2, fun e he => Nat.le_of_not_lt fun q => h3 e q (h2.tr he)⟩, cn.sym O hc ho h2⟩
theorem szC_eq {r : Nat → Int32} (O : okC r) {a b : Nat} (ha : a < cells r) (ho : wlC r a = false) (h : cn r a b) : szC r a = szC r b := by
  unfold szC
  refine cnt_congr fun e _ => ?_
  have : cn r a e ↔ cn r b e := ⟨fun q => (h.sym O ha ho).tr q, fun q => h.tr q⟩
  exact pb_congr this
theorem cnt_all (Q : Nat → Bool) (a b : Nat) (h : ∀ i, a ≤ i → i < a + b → Q i = false) : cnt Q (a + b) = cnt Q a := by
  rw [cnt_add]
  have : cnt (fun i => Q (a + i)) b = cnt (fun _ => false) b := cnt_congr fun i hi => h _ (by omega) (by omega)
  rw [this]
  have : ∀ n, cnt (fun _ => false) n = 0 := fun n => by
    induction n with
    | zero => rfl
    | succ n ih => unfold cnt; rw [ih]; rfl
  rw [this]; rfl
/-- what rises tells as many -/
theorem cnt_rise (f : Nat → Nat) (P : Nat → Prop) : ∀ n m, (∀ c, c < n → f c < m) → (∀ a b, a < b → b < n → f a < f b) → cnt (fun s => pb (∃ c, c < n ∧ f c = s ∧ P c)) m = cnt (fun c => pb (P c)) n := by
  intro n
  induction n with
  | zero =>
    intro m _ _
    have : cnt (fun s => pb (∃ c, c < 0 ∧ f c = s ∧ P c)) (0 + m) = cnt (fun s => pb (∃ c, c < 0 ∧ f c = s ∧ P c)) 0 := cnt_all _ 0 m fun i _ _ => by
      cases e : pb (∃ c, c < 0 ∧ f c = i ∧ P c) with
      | false => rfl
      | true => obtain ⟨c, h, -⟩ := pb_iff.mp e; omega
    rw [Nat.zero_add] at this
    exact this
  | succ n ih =>
    intro m h1 h2
    have ht := h1 n (by omega)
    obtain ⟨b, hb⟩ := Nat.exists_eq_add_of_le (show f n + 1 ≤ m by omega)
    rw [hb]
    have e1 : cnt (fun s => pb (∃ c, c < n + 1 ∧ f c = s ∧ P c)) (f n + 1 + b) = cnt (fun s => pb (∃ c, c < n + 1 ∧ f c = s ∧ P c)) (f n + 1) := cnt_all _ _ b fun i g1 g2 => by
      cases e : pb (∃ c, c < n + 1 ∧ f c = i ∧ P c) with
      | false => rfl
      | true =>
        obtain ⟨c, g3, g4, -⟩ := pb_iff.mp e
        by_cases q : c = n
        · subst q; omega
        · have := h2 c n (by omega) (by omega); omega
    rw [e1]
    unfold cnt
    have e2 : cnt (fun s => pb (∃ c, c < n + 1 ∧ f c = s ∧ P c)) (f n) = cnt (fun s => pb (∃ c, c < n ∧ f c = s ∧ P c)) (f n) := cnt_congr fun i hi => by
      have : (∃ c, c < n + 1 ∧ f c = i ∧ P c) ↔ ∃ c, c < n ∧ f c = i ∧ P c := by
        constructor
        · rintro ⟨c, g1, g2, g3⟩
          refine ⟨c, ?_, g2, g3⟩
          by_cases q : c = n
          · subst q; omega
          · omega
        · rintro ⟨c, g1, g2, g3⟩
          exact ⟨c, by omega, g2, g3⟩
      exact pb_congr this
    rw [e2, ih (f n) (fun c hc => h2 c n hc (by omega)) (fun a b hab hb => h2 a b hab (by omega))]
    have e3 : (∃ c, c < n + 1 ∧ f c = f n ∧ P c) ↔ P n := by
      constructor
      · rintro ⟨c, g1, g2, g3⟩
        by_cases q : c = n
        · subst q; exact g3
        · have := h2 c n (by omega) (by omega); omega
      · intro h; exact ⟨n, by omega, rfl, h⟩
    have e4 : pb (∃ c, c < n + 1 ∧ f c = f n ∧ P c) = pb (P n) := by exact pb_congr e3
    rw [e4]
theorem spC_rise {r : Nat → Int32} (O : okC r) {a b : Nat} (hab : a < b) (hb : b < cells r) : spC r a < spC r b := by
  have hw := O.w
  obtain ⟨b1, b2⟩ := cell_xy O hb
  obtain ⟨a1, a2⟩ := cell_xy O (Nat.lt_trans hab hb)
  have ea := Nat.div_add_mod a (gN r 0)
  have eb := Nat.div_add_mod b (gN r 0)
  have h1 : a / gN r 0 ≤ b / gN r 0 := Nat.div_le_div_right (Nat.le_of_lt hab)
  unfold spC
  rcases Nat.lt_or_ge (a / gN r 0) (b / gN r 0) with q | q
  · omega
  · have : a / gN r 0 = b / gN r 0 := by omega
    rw [this] at ea ⊢
    omega
theorem pop_cS {r : Nat → Int32} (O : okC r) {z : Int64} {P : Nat → Prop} (h : cS r z P) : pop z = cnt (fun c => pb (P c)) (cells r) := by
  have e := cnt_rise (spC r) P (cells r) 64 (fun c hc => (spC_in O hc).2.2) (fun a b h1 h2 => spC_rise O h1 h2)
  rw [← e]
  unfold pop
  refine cnt_congr fun s hs => ?_
  have : bl z s = true ↔ pb (∃ c, c < cells r ∧ spC r c = s ∧ P c) = true := by
    rw [pb_iff, h s hs]
    constructor
    · rintro ⟨h1, h2⟩; exact ⟨ceS r s, ceS_lt h1, spC_ceS h1, h2⟩
    · rintro ⟨c, h1, rfl, h3⟩
      obtain ⟨g1, g2, g3⟩ := spC_in O h1
      exact ⟨g1, by rw [g2]; exact h3⟩
  cases e1 : bl z s <;> cases e2 : pb (∃ c, c < cells r ∧ spC r c = s ∧ P c) <;> first | rfl | (rw [e1, e2] at this; simp at this)
section BLK
variable {l : Launch} {d h o x z T : Nat} {kd : pm_K} {mr : pm_R} {mi : pm_I} {ml : pm_L} {k : Nat} {r : Nat → Int32}
/-- a call that asks of a city: the class's head -/
theorem q_city {a : Int32} {KX : Option Nat → pm_I → pm_L → Prop} (tx : TX11s kd mr x) (I : IV x z mi ml)
    (k0 : ∀ m, tC mi ml (x + 1) z 0 m → isK a m = false → KX none mi ml)
    (k1 : ∀ m k r, r = (fun j => mi (z + 6) (106 * 0 + 53 * k + j)) → tC mi ml (x + 1) z 0 m → k < m → a = nI k → TX0s kd mr (x + 1 + 7 + 19 * k) → okC r → CC mi ml (x + 1 + 7 + 19 * k) r → KX (some (x + 1 + 7 + 19 * k)) mi ml) : wR l M_X9_cityAt (d + 1) [.ref (x + 1), .int a] kd mr mi ml KX := by
  obtain ⟨m, Im⟩ := I.2.1.2.1
  exact s_cityAt (TX11s_a0 tx) Im (fun h => k0 m Im h) (fun k hk ha to => k1 m k _ rfl Im hk ha to (Im.2.2.2 k hk).1 (Im.2.2.2 k hk).2)
theorem q_hand {a : Int32} {m k : Nat} {mi1 : pm_I} {ml1 : pm_L} {K : Bool → pm_I → pm_L → Prop} (tz : TX12s kd mr z) (Im : tC mi ml T z 0 m) (hr : r = fun j => mi (z + 6) (106 * 0 + 53 * k + j)) (hk : k < m) (ha : a = nI k) (h5 : mi1 (z + 5) = mi (z + 5)) (h6 : mi1 (z + 6) = mi (z + 6))
    (k1 : ∀ mi', frZ z mi1 mi' ml1 ml1 → (∀ b, b ≠ z → mi' b = mi1 b) → (∀ b, b < 25 ∨ 29 < b → mi' z b = mi1 z b) → Hd mi' z k r → K true mi' ml1) : wB l M_X12_hand (d + 3) [.ref z, .int a] kd mr mi1 ml1 K := by
  subst hr
  exact p_handY tz Im hk ha h5 h6 k1
theorem c_hears {a b c : Int32} (tx : TX11s kd mr x) (tz : TX12s kd mr z) (I : IV x z mi ml) : wI l M_X11_hears (d + 4) [.ref x, .int a, .int b, .int c] kd mr mi ml fun r mi1 ml1 => wI l M_X12_hears (d + 4) [.ref z, .int a, .int b, .int c] kd mr mi1 ml1 fun r2 mi2 ml2 => r = r2 ∧ IV x z mi2 ml2 := by
  obtain ⟨m, Im⟩ := I.2.1.2.1
  have hz := I.1
  exact t_hearsX tx Im fun v ml' hv f => t_hearsZ tz (Im.same fun a ha => f a (by omega)) fun v2 mi2 hv2 f2 => ⟨vHears.uniq hv hv2, (I.smX f).smZ f2⟩
theorem c_deed {a b c : Int32} (tx : TX11s kd mr x) (tz : TX12s kd mr z) (I : IV x z mi ml) : wI l M_X11_deed (d + 4) [.ref x, .int a, .int b, .int c] kd mr mi ml fun r mi1 ml1 => wI l M_X12_deed (d + 4) [.ref z, .int a, .int b, .int c] kd mr mi1 ml1 fun r2 mi2 ml2 => r = r2 ∧ IV x z mi2 ml2 := by
  obtain ⟨m, Im, -⟩ := I.2.1.2.2.1
  exact t_deedX tx Im fun v hv => t_deedZ tz Im fun v2 mi2 hv2 f2 => ⟨vK_uniq (fun _ _ _ _ h1 h2 => h1.trans h2.symm) hv hv2, I.smZ f2⟩
theorem c_fact {a b c : Int32} (tx : TX11s kd mr x) (tz : TX12s kd mr z) (I : IV x z mi ml) : wI l M_X11_fact (d + 4) [.ref x, .int a, .int b, .int c] kd mr mi ml fun r mi1 ml1 => wI l M_X12_fact (d + 4) [.ref z, .int a, .int b, .int c] kd mr mi1 ml1 fun r2 mi2 ml2 => r = r2 ∧ IV x z mi2 ml2 := by
  obtain ⟨m, Im, -⟩ := I.2.1.2.2.2.2
  exact t_factX tx Im fun v hv => t_factZ tz Im fun v2 mi2 hv2 f2 => ⟨vK_uniq (fun _ _ _ _ h1 h2 => h1.trans h2.symm) hv hv2, I.smZ f2⟩
theorem c_part {a b : Int32} {rt : Bool} (tx : TX11s kd mr x) (tz : TX12s kd mr z) (I : IV x z mi ml) : wI l M_X11_part (d + 4) [.ref x, .int a, .int b, .int (b2i rt)] kd mr mi ml fun r mi1 ml1 => wI l M_X12_part (d + 4) [.ref z, .int a, .int b, .int (b2i rt)] kd mr mi1 ml1 fun r2 mi2 ml2 => r = r2 ∧ IV x z mi2 ml2 := by
  obtain ⟨m, Im⟩ := I.2.1.2.1
  exact t_partX tx Im fun v hv => t_partZ tz Im fun v2 mi2 hv2 f2 => ⟨vK_uniq (fun _ _ _ _ h1 h2 => h1.trans h2.symm) hv hv2, I.smZ f2⟩
theorem c_line {a : Int32} (tx : TX11s kd mr x) (tz : TX12s kd mr z) (I : IV x z mi ml) : wI l M_X11_line (d + 4) [.ref x, .int a] kd mr mi ml fun r mi1 ml1 => wI l M_X12_line (d + 4) [.ref z, .int a] kd mr mi1 ml1 fun r2 mi2 ml2 => r = r2 ∧ IV x z mi2 ml2 := by
  obtain ⟨m, Im⟩ := I.2.1.2.1
  exact t_lineX tx Im fun v hv => t_lineZ tz Im fun v2 mi2 hv2 f2 => ⟨vK_uniq (fun _ _ _ _ h1 h2 => h1.trans h2.symm) hv hv2, I.smZ f2⟩
theorem cl_m1 {r : Nat → Int32} (O : okC r) {c : Nat} (hc : c < cells r) : c < 2147483648 ∧ spC r c < 2147483648 := by
  have hb := O.w
  have := (spC_in O hc).2.2
  exact ⟨by omega, by omega⟩
/-- steps: what is answered of a city -/
def vSteps (r : Nat → Int32) (b c : Int32) : Int32 → Prop := vK b (cells r) (-1) fun f => vK c (cells r) (-1) fun t v => if wlC r f = true ∨ wlC r t = true then v = -1 else isSt r f t v
theorem vSteps.uniq {r : Nat → Int32} {b c v v' : Int32} (h1 : vSteps r b c v) (h2 : vSteps r b c v') : v = v' := by
  unfold vSteps at h1 h2
  refine vK_uniq (fun f v v' _ g1 g2 => ?_) h1 h2
  refine vK_uniq (fun t v v' _ g1 g2 => ?_) g1 g2
  split at g1
  · rename_i q; rw [if_pos q] at g2; rw [g1, g2]
  · rename_i q; rw [if_neg q] at g2; exact g1.uniq g2
theorem s_spotOpt {y : Int32} {K : Int32 → pm_I → pm_L → Prop} (to : TX0s kd mr o) (C : CC mi ml o r) (O : okC r) (k9 : ∀ F : Option Nat, (F = none → isK y (cells r) = false) → (∀ f, F = some f → f < cells r ∧ y = nI f) → K (sI r F) mi ml) : wI l M_X0_spotOf (d + 1) [.ref o, .int y] kd mr mi ml K :=
  s_spotOf to C O (fun h => k9 none (fun _ => h) (fun f hf => by cases hf)) (fun c hc hy => k9 (some c) (fun h => by cases h) (fun f hf => by cases hf; exact ⟨hc, hy⟩))
theorem c_steps {a b c : Int32} (tx : TX11s kd mr x) (tz : TX12s kd mr z) (I : IV x z mi ml) : wI l M_X11_steps (d + 4) [.ref x, .int a, .int b, .int c] kd mr mi ml fun r mi1 ml1 => wI l M_X12_steps (d + 4) [.ref z, .int a, .int b, .int c] kd mr mi1 ml1 fun r2 mi2 ml2 => r = r2 ∧ IV x z mi2 ml2 := by
  have e5 : pm_up mi z 0 (0 : Int32) (z + 5) = mi (z + 5) := pm_up_row _ _ (by omega)
  have e6 : pm_up mi z 0 (0 : Int32) (z + 6) = mi (z + 6) := pm_up_row _ _ (by omega)
  have f0 : frZ z mi (pm_up mi z 0 0) ml ml := frZ.upI (Or.inl rfl)
  refine w_X11_steps tx (q_city tx I (fun m Im h => ⟨fun _ => ?_, fun b hb => (by cases hb)⟩) (fun m k r hr Im hk ha to O C => ⟨fun h => (by cases h), fun b4 hb4 => ?_⟩))
  · exact w_X12_steps tz (p_handN tz Im h e5 e6 ⟨fun _ => ⟨rfl, I.smZ f0⟩, fun g => (by cases g)⟩)
  · cases hb4
    have hb := O.w
    -- the reference, once the class has answered v
    have ref : ∀ v, vSteps r b c v → wI l M_X12_steps (d + 4) [.ref z, .int a, .int b, .int c] kd mr mi ml fun r2 mi2 ml2 => v = r2 ∧ IV x z mi2 ml2 := by
      intro v hv
      refine w_X12_steps tz (q_hand tz Im hr hk ha e5 e6 fun mi' f g1 g2 H => ⟨fun g => (by cases g), fun _ => ?_⟩)
      have fin : ∀ v2 mi2, vSteps r b c v2 → frZ z mi' mi2 ml ml → v = v2 ∧ IV x z mi2 ml := fun v2 mi2 h1 h2 => ⟨hv.uniq h1, I.smZ ((f0.tr f).tr h2)⟩
      refine s_isCell tz H O ⟨fun h => fin _ _ (vK_no h) frZ.rf, fun h => ?_⟩
      obtain ⟨F, hF, hF2, rfl⟩ := isK_iff.mp h
      refine s_isCell tz H O ⟨fun h => fin _ _ (vK_yes hF hF2 rfl (vK_no h)) frZ.rf, fun h => ?_⟩
      obtain ⟨G, hG, hG2, rfl⟩ := isK_iff.mp h
      have fin2 : ∀ v2 mi2, (if wlC r F = true ∨ wlC r G = true then v2 = -1 else isSt r F G v2) → frZ z mi' mi2 ml ml → v = v2 ∧ IV x z mi2 ml := fun v2 mi2 h1 h2 => fin v2 mi2 (vK_yes hF hF2 rfl (vK_yes hG hG2 rfl h1)) h2
      refine s_isWall tz H O rfl hF ⟨fun h => fin2 _ _ (by rw [if_pos (Or.inl h)]) frZ.rf, fun h1 => s_isWall tz H O rfl hG ⟨fun h2 => ?_, fun h => fin2 _ _ (by rw [if_pos (Or.inr h)]) frZ.rf⟩⟩
      refine s_findSoon tz H O rfl hF fun g q hg => ⟨z_in (by omega) (by omega), ?_⟩
      obtain ⟨q1, q2, q3, q4⟩ := hg G hG
      have hfr : frZ z mi' (pm_ur mi' (z + 23) g) ml ml := frZ.urI (by omega)
      have c9 : (nI (q G) < (1000000 : Int32)) = (q G < 1000000) := z_lt (b := 1000000) (by omega) (by omega)
      rw [z_cl hG2, pm_ur_s, q1, c9]
      refine ⟨fun h3 => ⟨z_in (by omega) (by omega), fin2 _ _ ?_ hfr⟩, fun h3 => fin2 _ _ ?_ hfr⟩
      · rw [if_neg (by simp [h1, h2])]
        obtain ⟨j, j1, j2⟩ := rN.stab (fre_clo O) hF
        have := q4 j (j2 _ _ (q3 h3))
        exact Or.inl ⟨q G, rfl, by omega, q3 h3, fun m hm => q4 m hm⟩
      · rw [if_neg (by simp [h1, h2])]
        refine Or.inr ⟨rfl, fun m hm => ?_⟩
        obtain ⟨j, j1, j2⟩ := rN.stab (fre_clo O) hF
        have := q4 j (j2 _ _ hm)
        omega
    refine ⟨to, s_openX to C O fun op hop => s_spotOpt to C O fun F hF0 hF1 => s_spotOpt to C O fun G hG0 hG1 => s_fewestSteps (TX11s_a7 tx) O hop rfl rfl (fun f hf => (hF1 f hf).1) (fun f hf => (hG1 f hf).1) (fun hno => ref _ ?_) (fun f t v hf ht h1 h2 hv => ref _ ?_)⟩
    · cases F with
      | none => exact vK_no (hF0 rfl)
      | some f =>
        obtain ⟨f1, f2⟩ := hF1 f rfl
        refine vK_yes f1 (cl_m1 O f1).1 f2 ?_
        cases G with
        | none => exact vK_no (hG0 rfl)
        | some t =>
          obtain ⟨t1, t2⟩ := hG1 t rfl
          refine vK_yes t1 (cl_m1 O t1).1 t2 ?_
          rw [if_pos]
          rcases hno with q | q | ⟨f', q1, q2⟩ | ⟨t', q1, q2⟩
          · cases q
          · cases q
          · cases q1; exact Or.inl q2
          · cases q1; exact Or.inr q2
    · obtain ⟨f1, f2⟩ := hF1 f hf
      obtain ⟨t1, t2⟩ := hG1 t ht
      refine vK_yes f1 (cl_m1 O f1).1 f2 (vK_yes t1 (cl_m1 O t1).1 t2 ?_)
      rw [if_neg (by simp [h1, h2])]
      exact hv
end BLK
