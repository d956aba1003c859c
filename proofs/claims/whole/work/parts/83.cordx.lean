/-! cordon: the class -/
/-- a node's number in the class's rows -/
def nS (r : Nat → Int32) (x : Nat) : Nat := 64 * (x / 64) + spC r (x % 64)
theorem nS_of {r : Nat → Int32} (O : okC r) {x : Nat} (hx : x < 128) (hc : x % 64 < cells r) : nS r x < 128 ∧ nS r x / 64 = x / 64 ∧ nS r x % 64 = spC r (x % 64) := by
  have := (spC_in O hc).2.2
  unfold nS
  omega
theorem spC_ij {r : Nat → Int32} (O : okC r) {a b : Nat} (ha : a < cells r) (hb : b < cells r) (h : spC r a = spC r b) : a = b := by
  rw [← (spC_in O ha).2.1, ← (spC_in O hb).2.1, h]
theorem nS_inj {r : Nat → Int32} (O : okC r) {x y : Nat} (hx : x < 128) (hy : y < 128) (hcx : x % 64 < cells r) (hcy : y % 64 < cells r) (h : nS r x = nS r y) : x = y := by
  obtain ⟨-, a2, a3⟩ := nS_of O hx hcx
  obtain ⟨-, b2, b3⟩ := nS_of O hy hcy
  have h2 : x % 64 = y % 64 := spC_ij O hcx hcy (by rw [← a3, ← b3, h])
  have h1 : x / 64 = y / 64 := by rw [← a2, ← b2, h]
  omega
theorem nS_lo {r : Nat → Int32} {x : Nat} (hx : x < 64) : nS r x = spC r x := by
  unfold nS; rw [show x / 64 = 0 by omega, Nat.mod_eq_of_lt hx]; omega
theorem nS_hi {r : Nat → Int32} {x : Nat} (hx : x < 64) : nS r (64 + x) = 64 + spC r x := by
  unfold nS; rw [show (64 + x) / 64 = 1 by omega, show (64 + x) % 64 = x by omega]
/-- a step changes the spot's number by what its direction says -/
theorem spC_dir {r : Nat → Int32} (O : okC r) {u v w : Nat} (hu : u < cells r) (hw : w < 4) (h : nxt r u w = some v) : (w = 0 → spC r v + 8 = spC r u) ∧ (w = 1 → spC r v = spC r u + 1) ∧ (w = 2 → spC r v = spC r u + 8) ∧ (w = 3 → spC r v + 1 = spC r u) := by
  obtain ⟨c1, c2⟩ := cell_xy O hu
  have eu : u = clC r (u % gN r 0) (u / gN r 0) := (clC_of u).symm
  generalize u % gN r 0 = x at c1 eu
  generalize u / gN r 0 = y at c2 eu
  subst eu
  rw [nxt_xy c1 c2 w hw] at h
  rw [spC_xy c1]
  split at h
  · split at h
    · cases h
    · cases h; rw [spC_xy c1]; omega
  · split at h
    · split at h
      · cases h
      · cases h; rw [spC_xy (by omega)]; omega
    · split at h
      · split at h
        · cases h
        · cases h; rw [spC_xy c1]; omega
      · split at h
        · cases h
        · cases h; rw [spC_xy (by omega)]; omega
theorem dir_uniq {r : Nat → Int32} (O : okC r) {u v w w' : Nat} (hu : u < cells r) (hw : w < 4) (hw' : w' < 4) (h : nxt r u w = some v) (h' : nxt r u w' = some v) : w = w' := by
  have a := spC_dir O hu hw h
  have b := spC_dir O hu hw' h'
  omega
theorem dirI : ∀ a, a < 64 → ∀ b, b < 64 → ((nI b - nI a).toInt : Int) = (b : Int) - (a : Int) := by decide +kernel
/-- the class's bits are the flow -/
def gR (ml : pm_L) (h : Nat) (r : Nat → Int32) (F : Nat → Nat → Bool) (T : Nat → Bool) : Prop := (∀ u, u < cells r → bl (ml h 3) (spC r u) = T u) ∧ ∀ u w, u < cells r → w < 4 → (bl (ml (h + 3) w) (spC r u) = true ↔ ∃ v, fre r u w = some v ∧ F u v = true)
def oP (r : Nat → Int32) : Option Nat → Int32
  | none => -1
  | some p => nI (nS r p)
def mX (mi : pm_I) (h a : Nat) (r : Nat → Int32) (q : Nat → Nat) (m : Nat) (pr : Nat → Option Nat) : Prop := mi h 4 = nI m ∧ (∀ x, x < 128 → x % 64 < cells r → mi (h + 2) (nS r x) = oP r (pr x)) ∧ (∀ j, j < m → mi (h + 1) j = nI (nS r (q j))) ∧ pr (64 + a) = some (64 + a)
def fQ (h : Nat) (mi mi' : pm_I) : Prop := ∀ c, c < h ∨ h + 2 < c → mi' c = mi c
theorem fQ.rf {h : Nat} {mi : pm_I} : fQ h mi mi := fun _ _ => rfl
theorem fQ.tr {h : Nat} {mi mi1 mi2 : pm_I} (h1 : fQ h mi mi1) (h2 : fQ h mi1 mi2) : fQ h mi mi2 := fun c g => (h2 c g).trans (h1 c g)
section CRX
variable {l : Launch} {d h a b m hd k : Nat} {kd : pm_K} {mr : pm_R} {mi : pm_I} {ml : pm_L} {r : Nat → Int32} {q : Nat → Nat} {pr : Nat → Option Nat} {F : Nat → Nat → Bool} {T : Nat → Bool} {n : Int}
theorem prX_ok (O : okC r) (ha : a < cells r) (B : Bq (RY r a b F T) (RY r a b F T) (64 + a) q m pr hd) (Q : mX mi h a r q m pr) (cell : ∀ j, j < m → q j % 64 < cells r) {x p : Nat} (e : pr x = some p) : p < 128 ∧ p % 64 < cells r := by
  have hw := O.w
  by_cases g : x = 64 + a
  · subst g
    rw [Q.2.2.2] at e
    cases e
    omega
  · obtain ⟨h1, -, i, j, i1, j1, -, i2⟩ := B.par g e
    refine ⟨h1, ?_⟩
    rw [← i2]; exact cell i (by omega)
theorem s_comeTo {x y : Nat} {u v : Int32} {K : pm_I → pm_L → Prop} (th : TX8s kd mr h) (O : okC r) (ha : a < cells r) (B : Bq (RY r a b F T) (RY r a b F T) (64 + a) q m pr hd) (Q : mX mi h a r q m pr) (cell : ∀ j, j < m → q j % 64 < cells r) (hm : hd < m) (hx : q hd = x) (hR : RY r a b F T x y) (hy : y < 128) (hu : u = nI (nS r y)) (hv : v = nI (nS r x))
    (k9 : ∀ mi' q' m' pr', fQ h mi mi' → Bq (RY r a b F T) (RY r a b F T) (64 + a) q' m' pr' hd → mX mi' h a r q' m' pr' → Gw q m q' m' → (∃ j, j < m' ∧ q' j = y) → K mi' ml) : wV l M_X8_comeTo d [.ref h, .int u, .int v] kd mr mi ml K := by
  subst hu; subst hv
  have hw := O.w
  have hb := B.le
  obtain ⟨Q1, Q2, Q3, Q4⟩ := id Q
  obtain ⟨y1, y2, y3⟩ := nS_of O hy hR.2
  refine w_X8_comeTo th ⟨z_in y1 (by omega), ?_⟩
  rw [z_cl (a := nS r y) (by omega), Q1, Q2 y hy hR.2]
  cases e : pr y with
  | some p =>
    obtain ⟨p1, p2⟩ := prX_ok O ha B Q cell e
    have := (nS_of O p1 p2).1
    exact ⟨fun _ => k9 mi q m pr fQ.rf B Q Gw.rf ((B.2.2.2.1 y).mp (by rw [e]; rfl)), fun g => absurd g (nI_m1' (by omega))⟩
  | none =>
    obtain ⟨m1, B'⟩ := B.add hx hm hy e hR
    have hroot : ¬ 64 + a = y := fun g => by rw [← g, Q4] at e; cases e
    refine ⟨fun g => absurd rfl g, fun _ => ⟨fun g => absurd g (nI_ge (b := 128) (by omega) (by omega)), fun _ => ⟨z_in y1 (by omega), z_in m1 (by omega), ?_⟩⟩⟩
    rw [z_cl (a := m) (by omega), nI_1]
    refine k9 _ _ _ _ (fun c g => ?_) B' ⟨pm_up_s _ _ _ _, fun x2 hx2 hc2 => ?_, fun j hj => ?_, ?_⟩ ⟨by omega, fun j hj => if_neg (by omega)⟩ ⟨m, by omega, if_pos rfl⟩
    · rw [pm_up_row _ _ (by omega), pm_up_row _ _ (by omega), pm_up_row _ _ (by omega)]
    · rw [pm_up_row _ _ (by omega), pm_up_row _ _ (by omega)]
      dsimp only
      by_cases g : x2 = y
      · subst g
        rw [pm_up_s, if_pos rfl]; rfl
      · rw [pm_up_j _ _ (fun z => g (nS_inj O hx2 hy hc2 hR.2 z)), if_neg g]
        exact Q2 x2 hx2 hc2
    · rw [pm_up_row _ _ (by omega)]
      dsimp only
      by_cases g : j = m
      · subst g; rw [pm_up_s, if_pos rfl]
      · rw [pm_up_j _ _ g, pm_up_row _ _ (by omega), if_neg g]; exact Q3 j (by omega)
    · dsimp only; rw [if_neg hroot]; exact Q4
theorem s_findWay {op : Int64} {u v : Int32} {K : Bool → pm_I → pm_L → Prop} (th : TX8s kd mr h) (O : okC r) (hz : ∀ s, s < 64 → bl op s = opS r s) (Fl : Flw (arC r) a b F T n b) (ha : a < cells r) (hb : b < cells r) (hab : a ≠ b) (wa : wlC r a = false) (gr : gR ml h r F T) (hu : u = nI (spC r a)) (hv : v = nI (spC r b))
    (kf : ∀ mi' q m pr, fQ h mi mi' → Bq (RY r a b F T) (RY r a b F T) (64 + a) q m pr m → pr b = none → K false mi' ml)
    (kt : ∀ mi' q m pr hd, fQ h mi mi' → Bq (RY r a b F T) (RY r a b F T) (64 + a) q m pr hd → mX mi' h a r q m pr → (pr b).isSome = true → K true mi' ml) : wB l M_X8_findWay (d + 3) [.ref h, .long op, .int u, .int v] kd mr mi ml K := by
  subst hu; subst hv
  have hw := O.w
  have ta : T a = false := (Fl.plain (by omega) (by omega)).1
  have a64 := (spC_in O ha).2.2
  have b64 := (spC_in O hb).2.2
  have loop : ∀ (s hd : Nat) (mi1 : pm_I) (q : Nat → Nat) (m : Nat) (pr : Nat → Option Nat), hd + s = 128 → fQ h mi mi1 → Bq (RY r a b F T) (RY r a b F T) (64 + a) q m pr hd → mX mi1 h a r q m pr → (∀ j, j < hd → q j ≠ b) → c_X8_findWay_28 l (d + 3) kd mr h op (nI (spC r a)) (nI (spC r b)) (nI hd) mi1 ml K := by
    intro s
    induction s with
    | zero =>
      intro hd mi1 q m pr hs f1 B Q nb
      have hm := B.le
      have h8 := B.2.2.2.2.2.2.2.1
      have : hd = m := by omega
      subst this
      refine w_X8_findWay_28 th ⟨fun _ => kf mi1 q hd pr f1 B ((B.met).mpr fun ⟨j, j1, j2⟩ => nb j j1 j2), fun g => absurd (by rw [Q.1]; exact nI_le (Nat.le_refl _) (by omega)) g⟩
    | succ s ih =>
      intro hd mi1 q m pr hs f1 B Q nb
      have hm := B.le
      have h8 := B.2.2.2.2.2.2.2.1
      by_cases hlt : hd < m
      · have cells0 := B_cell (fun x y g => ⟨Or.inl g.1, g.2⟩) O Fl ha hb wa B
        have q128 := B.2.2.1 hd hlt
        obtain ⟨c1, c2, c3⟩ := cells0 hd hlt
        obtain ⟨n1, n2, n3⟩ := nS_of O q128 c1
        refine w_X8_findWay_28 th ⟨fun g => absurd g (by rw [Q.1]; exact nI_ge (by omega) (by omega)), fun _ => ⟨fun g => absurd g (nI_ge (b := 128) (by omega) (by omega)), fun _ => ⟨z_in (by omega) (by omega), ?_⟩⟩⟩
        rw [z_cl (a := hd) (by omega), Q.2.2.1 hd hlt]
        have eb : (nI (nS r (q hd)) = nI (spC r b)) = (nS r (q hd) = spC r b) := z_eq (by omega) (by omega)
        have em : nI (nS r (q hd)) - nI (nS r (q hd)) / 64 * 64 = nI (spC r (q hd % 64)) := by
          have : nI (nS r (q hd)) - nI (nS r (q hd)) / 64 * 64 = nI (nS r (q hd) % 64) := z_rem (b := 64) (by omega) (by omega)
          rw [this, n3]
        have el : decide (nI (nS r (q hd)) < (64 : Int32)) = decide (q hd < 64) := by
          have : (nI (nS r (q hd)) < (64 : Int32)) = (nS r (q hd) < 64) := z_lt (b := 64) (by omega) (by omega)
          simp only [this]
          have : nS r (q hd) < 64 ↔ q hd < 64 := by omega
          simp only [this]
        rw [eb, em, el]
        refine ⟨fun hqb => ?_, fun hqb => ?_⟩
        · -- the node is looked at
          have hnb : q hd ≠ b := fun g => hqb (by rw [g, nS_lo (by omega)])
          have c64 := (spC_in O c1).2.2
          have ex : ∀ w, fre r (q hd % 64) w ≠ none → ∃ t, fre r (q hd % 64) w = some t := fun w g => Option.ne_none_iff_exists'.mp g
          -- behind the node
          have done : ∀ (mi2 : pm_I) (q2 : Nat → Nat) (m2 : Nat) (pr2 : Nat → Option Nat), fQ h mi1 mi2 → Bq (RY r a b F T) (RY r a b F T) (64 + a) q2 m2 pr2 hd → mX mi2 h a r q2 m2 pr2 → Gw q m q2 m2 → (∀ y, RY r a b F T (q hd) y → ∃ j, j < m2 ∧ q2 j = y) → c_X8_findWay_232 l (d + 3) kd mr h op (nI (spC r a)) (nI (spC r b)) (nI hd) mi2 ml K := by
            intro mi2 q2 m2 pr2 f2 B2 Q2 G2 D
            refine w_X8_findWay_232 th ?_
            rw [nI_1]
            have e2 := G2.2 hd hlt
            refine ih (hd + 1) mi2 q2 m2 pr2 (by omega) (f1.tr f2) (B2.next (by have := G2.1; omega) fun y hy => D y (by rw [← e2]; exact hy)) Q2 fun j hj => ?_
            by_cases g : j = hd
            · subst g; rw [e2]; exact hnb
            · rw [G2.2 j (by omega)]; exact nb j (by omega)
          have ways : ∀ (s w : Nat) (mi2 : pm_I) (q2 : Nat → Nat) (m2 : Nat) (pr2 : Nat → Option Nat), w + s = 4 → fQ h mi1 mi2 → Bq (RY r a b F T) (RY r a b F T) (64 + a) q2 m2 pr2 hd → mX mi2 h a r q2 m2 pr2 → Gw q m q2 m2 → (∀ w', w' < w → ∀ t, fre r (q hd % 64) w' = some t → t ≠ a → (64 ≤ q hd → F (q hd % 64) t = false → ∃ j, j < m2 ∧ q2 j = t) ∧ (q hd < 64 → F t (q hd % 64) = true → ∃ j, j < m2 ∧ q2 j = 64 + t)) → c_X8_findWay_89 l (d + 3) kd mr h op (nI (spC r a)) (nI (spC r b)) (nI hd) (nI (nS r (q hd))) (b2i (!decide (q hd < 64))) (nI (spC r (q hd % 64))) (nI w) mi2 ml K := by
            intro s
            induction s with
            | zero =>
              intro w mi2 q2 m2 pr2 hs4 f2 B2 Q2 G2 D
              have : w = 4 := by omega
              subst this
              refine w_X8_findWay_89 th ⟨fun _ => ?_, fun g => absurd (nI_le (Nat.le_refl 4) (by omega)) g⟩
              have ea : (nI (spC r (q hd % 64)) = nI (spC r a)) = (q hd % 64 = a) := by
                have : (nI (spC r (q hd % 64)) = nI (spC r a)) = (spC r (q hd % 64) = spC r a) := z_eq (by omega) (by omega)
                rw [this]
                exact propext ⟨fun g => spC_ij O c1 ha g, fun g => by rw [g]⟩
              have x2 : q2 hd = q hd := G2.2 hd hlt
              have hm2 : hd < m2 := by have := G2.1; omega
              have cell2 := fun j hj => (B_cell (fun x y g => ⟨Or.inl g.1, g.2⟩) O Fl ha hb wa B2 j hj).1
              -- all that is to be met
              have clE : ∀ (q3 : Nat → Nat) (m3 : Nat), Gw q2 m2 q3 m3 → q hd < 64 → (T (q hd) = false → ∃ j, j < m3 ∧ q3 j = 64 + q hd) → ∀ y, RY r a b F T (q hd) y → ∃ j, j < m3 ∧ q3 j = y := by
                intro q3 m3 G3 hE hT y hy
                have eq0 : q hd % 64 = q hd := Nat.mod_eq_of_lt hE
                rcases hy.1 with ⟨u1, v1, e1, -⟩ | ⟨u1, v1, e1, e2, h1, h2, h3⟩ | ⟨v1, e1, e2, h1, h2, h3, h4⟩ | ⟨v1, e1, -⟩
                · omega
                · by_cases g : u1 = a
                  · subst g
                    rw [e2]
                    exact G3.met (G2.met ⟨0, by omega, B.2.1⟩)
                  · obtain ⟨g1, g2, w, g3, g4⟩ := (Fl.1 u1 v1 h3).2.2.1
                    rw [e2]
                    refine G3.met ((D ((w + 2) % 4) (by omega) u1 ?_ g).2 hE ?_)
                    · rw [eq0, e1]; exact fre_back O g1 g3 g2 g4
                    · rw [eq0, e1]; exact h3
                · rw [e2, ← e1]; exact hT (by rw [e1]; exact h4)
                · omega
              have clX : ∀ (q3 : Nat → Nat) (m3 : Nat), Gw q2 m2 q3 m3 → 64 ≤ q hd → (T (q hd % 64) = true → ∃ j, j < m3 ∧ q3 j = q hd % 64) → ∀ y, RY r a b F T (q hd) y → ∃ j, j < m3 ∧ q3 j = y := by
                intro q3 m3 G3 hE hT y hy
                rcases hy.1 with ⟨u1, v1, e1, e2, h1, h2, h3, h4, h5⟩ | ⟨u1, v1, e1, -, -, h1, -⟩ | ⟨v1, e1, -, h1, -⟩ | ⟨v1, e1, e2, h1, h2⟩
                · have eq0 : q hd % 64 = u1 := by omega
                  obtain ⟨g1, g2, w, g3, g4⟩ := h3
                  rw [e2]
                  exact G3.met ((D w g3 v1 (by rw [eq0]; exact g4) h4).1 hE (by rw [eq0]; exact h5))
                · omega
                · omega
                · have eq0 : q hd % 64 = v1 := by omega
                  rw [e2, ← eq0]; exact hT (by rw [eq0]; exact h2)
              rw [ea]
              refine ⟨fun hqa => ?_, fun hqa => s_hasX rfl c64 ?_⟩
              · by_cases hE : q hd < 64
                · exact absurd (by omega) c3
                · exact done mi2 q2 m2 pr2 f2 B2 Q2 G2 (clX q2 m2 Gw.rf (by omega) fun hT => by rw [hqa, ta] at hT; cases hT)
              · rw [gr.1 _ c1]
                by_cases hE : q hd < 64
                · have eq0 : q hd % 64 = q hd := Nat.mod_eq_of_lt hE
                  rw [eq0] at hqa ⊢
                  rw [decide_eq_true hE]
                  cases hT : T (q hd) with
                  | true => exact ⟨fun _ => done mi2 q2 m2 pr2 f2 B2 Q2 G2 (clE q2 m2 Gw.rf hE fun g => by rw [hT] at g; cases g), fun g => absurd g (by decide)⟩
                  | false =>
                    refine ⟨fun g => absurd rfl g, fun _ => ?_⟩
                    refine s_comeTo (x := q hd) (y := 64 + q hd) th O ha B2 Q2 cell2 hm2 x2 ⟨Or.inr (Or.inr (Or.inl ⟨q hd, rfl, rfl, hE, hqa, hnb, hT⟩)), by omega⟩ (by omega) ?_ rfl fun mi3 q3 m3 pr3 f3 B3 Q3 G3 g3 => done mi3 q3 m3 pr3 (f2.tr f3) B3 Q3 (G2.tr G3) (clE q3 m3 G3 hE fun _ => g3)
                    rw [nS_hi hE]
                    show (if b2i (!true) = 0 then 64 + nI (spC r (q hd)) else nI (spC r (q hd))) = nI (64 + spC r (q hd))
                    rw [if_pos (by decide)]
                    exact nI_add 64 _
                · rw [decide_eq_false hE]
                  cases hT : T (q hd % 64) with
                  | false => exact ⟨fun _ => done mi2 q2 m2 pr2 f2 B2 Q2 G2 (clX q2 m2 Gw.rf (by omega) fun g => by rw [hT] at g; cases g), fun g => absurd g (by decide)⟩
                  | true =>
                    refine ⟨fun g => absurd rfl g, fun _ => ?_⟩
                    refine s_comeTo (x := q hd) (y := q hd % 64) th O ha B2 Q2 cell2 hm2 x2 ⟨Or.inr (Or.inr (Or.inr ⟨q hd % 64, by omega, rfl, by omega, hT⟩)), by omega⟩ (by omega) ?_ rfl fun mi3 q3 m3 pr3 f3 B3 Q3 G3 g3 => done mi3 q3 m3 pr3 (f2.tr f3) B3 Q3 (G2.tr G3) (clX q3 m3 G3 (by omega) fun _ => g3)
                    rw [nS_lo (by omega)]
                    show (if b2i (!false) = 0 then 64 + nI (spC r (q hd % 64)) else nI (spC r (q hd % 64))) = nI (spC r (q hd % 64))
                    rw [if_neg (by decide)]
            | succ s ihw =>
              intro w mi2 q2 m2 pr2 hs4 f2 B2 Q2 G2 D
              have x2 : q2 hd = q hd := G2.2 hd hlt
              have hm2 : hd < m2 := by have := G2.1; omega
              have cell2 := fun j hj => (B_cell (fun x y g => ⟨Or.inl g.1, g.2⟩) O Fl ha hb wa B2 j hj).1
              have on : ∀ (mi3 : pm_I) (q3 : Nat → Nat) (m3 : Nat) (pr3 : Nat → Option Nat), fQ h mi2 mi3 → Bq (RY r a b F T) (RY r a b F T) (64 + a) q3 m3 pr3 hd → mX mi3 h a r q3 m3 pr3 → Gw q2 m2 q3 m3 → (∀ t, fre r (q hd % 64) w = some t → t ≠ a → (64 ≤ q hd → F (q hd % 64) t = false → ∃ j, j < m3 ∧ q3 j = t) ∧ (q hd < 64 → F t (q hd % 64) = true → ∃ j, j < m3 ∧ q3 j = 64 + t)) → c_X8_findWay_185 l (d + 3) kd mr h op (nI (spC r a)) (nI (spC r b)) (nI hd) (nI (nS r (q hd))) (b2i (!decide (q hd < 64))) (nI (spC r (q hd % 64))) (nI w) mi3 ml K := by
                intro mi3 q3 m3 pr3 f3 B3 Q3 G3 D3
                refine w_X8_findWay_185 th ?_
                rw [nI_1]
                refine ihw (w + 1) mi3 q3 m3 pr3 (by omega) (f2.tr f3) B3 Q3 (G2.tr G3) fun w' hw' t h1 h2 => ?_
                by_cases g : w' = w
                · subst g; exact D3 t h1 h2
                · obtain ⟨d1, d2⟩ := D w' (by omega) t h1 h2
                  exact ⟨fun g1 g2 => G3.met (d1 g1 g2), fun g1 g2 => G3.met (d2 g1 g2)⟩
              refine w_X8_findWay_89 th ⟨fun g => absurd g (nI_ge (b := 4) (by omega) (by omega)), fun _ => s_nextSpot O hz rfl c1 rfl (by omega) ?_⟩
              cases e : fre r (q hd % 64) w with
              | none => exact ⟨fun _ => on mi2 q2 m2 pr2 fQ.rf B2 Q2 Gw.rf fun t g => (by rw [e] at g; cases g), fun g => absurd rfl g⟩
              | some t =>
                have ht := fre_lt O c1 e
                have t64 := (spC_in O ht).2.2
                have et : (nI (spC r t) = nI (spC r a)) = (t = a) := by
                  have : (nI (spC r t) = nI (spC r a)) = (spC r t = spC r a) := z_eq (by omega) (by omega)
                  rw [this]
                  exact propext ⟨fun g => spC_ij O ht ha g, fun g => by rw [g]⟩
                refine ⟨fun g => absurd g (nI_m1' (by omega)), fun _ => ?_⟩
                show (¬ nI (spC r t) = nI (spC r a) → _) ∧ (nI (spC r t) = nI (spC r a) → _)
                rw [et]
                refine ⟨fun hta => ?_, fun hta => on mi2 q2 m2 pr2 fQ.rf B2 Q2 Gw.rf fun t' g1 g2 => absurd hta (by rw [e] at g1; cases g1; exact g2)⟩
                by_cases hE : q hd < 64
                · -- an entry
                  have eq0 : q hd % 64 = q hd := Nat.mod_eq_of_lt hE
                  have ez : b2i (!decide (q hd < 64)) = 0 := by rw [decide_eq_true hE]; rfl
                  refine ⟨fun _ => ?_, fun g => absurd ez g⟩
                  refine w_X8_findWay_151 th ⟨fun g => absurd ez g, fun _ => w_X11_contrary ?_⟩
                  have ew : nI w ^^^ 2 = nI ((w + 2) % 4) := z_xor2 w (by omega)
                  rw [ew]
                  refine ⟨z_in (by omega) (by omega), s_hasX rfl t64 ?_⟩
                  rw [z_cl (a := (w + 2) % 4) (by omega)]
                  have back := fre_back O c1 (show w < 4 by omega) c2 e
                  have hbit := gr.2 t ((w + 2) % 4) ht (by omega)
                  refine ⟨fun hf => on mi2 q2 m2 pr2 fQ.rf B2 Q2 Gw.rf fun t' g1 g2 => ⟨fun g => by omega, fun _ g => ?_⟩, fun htr => ?_⟩
                  · rw [e] at g1; cases g1
                    have := hbit.mpr ⟨_, back, g⟩
                    rw [hf] at this; cases this
                  · obtain ⟨v', v1, v2⟩ := hbit.mp htr
                    rw [back] at v1
                    cases v1
                    refine s_comeTo (x := q hd) (y := 64 + t) th O ha B2 Q2 cell2 hm2 x2 ⟨Or.inr (Or.inl ⟨t, q hd, rfl, rfl, by omega, hE, by rw [eq0] at v2; exact v2⟩), by omega⟩ (by omega) (by rw [nS_hi (by omega)]; exact nI_add 64 _) rfl fun mi3 q3 m3 pr3 f3 B3 Q3 G3 g3 => on mi3 q3 m3 pr3 f3 B3 Q3 G3 fun t' g1 _ => ?_
                    rw [e] at g1; cases g1
                    exact ⟨fun g => by omega, fun _ _ => g3⟩
                · -- an exit
                  have ez : ¬ b2i (!decide (q hd < 64)) = 0 := by rw [decide_eq_false hE]; decide
                  refine ⟨fun g => absurd g ez, fun _ => ⟨z_in (by omega) (by omega), s_hasX rfl c64 ?_⟩⟩
                  rw [z_cl (a := w) (by omega)]
                  have hbit := gr.2 (q hd % 64) w c1 (by omega)
                  refine ⟨fun htr => ?_, fun hf => ?_⟩
                  · refine w_X8_findWay_151 th ⟨fun _ => on mi2 q2 m2 pr2 fQ.rf B2 Q2 Gw.rf fun t' g1 g2 => ⟨fun _ g => ?_, fun g => by omega⟩, fun g => absurd g ez⟩
                    obtain ⟨v', v1, v2⟩ := hbit.mp htr
                    rw [v1] at g1; cases g1
                    rw [v2] at g; cases g
                  · have hF : F (q hd % 64) t = false := by
                      cases g : F (q hd % 64) t with
                      | false => rfl
                      | true =>
                        have := hbit.mpr ⟨t, e, g⟩
                        rw [hf] at this; cases this
                    refine s_comeTo (x := q hd) (y := t) th O ha B2 Q2 cell2 hm2 x2 ⟨Or.inl ⟨q hd % 64, t, by omega, rfl, by omega, by omega, ⟨c1, c2, w, by omega, e⟩, hta, hF⟩, by omega⟩ (by omega) (by rw [nS_lo (by omega)]; rfl) rfl fun mi3 q3 m3 pr3 f3 B3 Q3 G3 g3 => on mi3 q3 m3 pr3 f3 B3 Q3 G3 fun t' g1 _ => ?_
                    rw [e] at g1; cases g1
                    exact ⟨fun _ _ => g3, fun g => by omega⟩
          exact ways 4 0 mi1 q m pr rfl fQ.rf B Q Gw.rf fun w' hw' => by omega
        · -- b itself
          have e : q hd = b := nS_inj O q128 (by omega) c1 (by omega) (by rw [hqb, nS_lo (by omega)])
          exact kt mi1 q m pr hd f1 B Q ((B.2.2.2.1 b).mpr ⟨hd, hlt, e⟩)
      · have : hd = m := by omega
        subst this
        exact w_X8_findWay_28 th ⟨fun _ => kf mi1 q hd pr f1 B ((B.met).mpr fun ⟨j, j1, j2⟩ => nb j j1 j2), fun g => absurd (by rw [Q.1]; exact nI_le (Nat.le_refl _) (by omega)) g⟩
  refine w_X8_findWay th (s_fill (TX8s_a1 th) (by omega) ?_)
  have m64 : (64 : Int32) + nI (spC r a) = nI (64 + spC r a) := nI_add 64 _
  have nr : nS r (64 + a) = 64 + spC r a := nS_hi (by omega)
  refine w_X8_comeTo th ⟨by rw [m64]; exact z_in (by omega) (by omega), ?_⟩
  have e2 : ∀ x, pm_up (pm_ur mi (h + 2) fun i => if i < 128 then (-1 : Int32) else mi (h + 2) i) h 4 0 (h + 2) x = if x < 128 then -1 else mi (h + 2) x := fun x => by rw [pm_up_row _ _ (by omega), pm_ur_s]
  rw [m64, z_cl (a := 64 + spC r a) (by omega), e2, if_pos (by omega), pm_up_s]
  refine ⟨fun g => absurd rfl g, fun _ => ⟨fun g => absurd g (nI_ge (a := 0) (b := 128) (by omega) (by omega)), fun _ => ⟨z_in (by omega) (by omega), z_in (a := 0) (by omega) (by omega), ?_⟩⟩⟩
  have e0 : (0 : Int32).toNatClampNeg = 0 := by decide
  have e1 : (0 : Int32) + 1 = nI 1 := by decide
  rw [e0, e1]
  refine loop 128 0 _ (fun _ => 64 + a) 1 (fun x => if x = 64 + a then some (64 + a) else none) rfl (fun c g => ?_) (Bq.init (by omega)) ⟨pm_up_s _ _ _ _, fun x hx hcx => ?_, fun j hj => ?_, if_pos rfl⟩ fun j hj => by omega
  · rw [pm_up_row _ _ (by omega), pm_up_row _ _ (by omega), pm_up_row _ _ (by omega), pm_up_row _ _ (by omega), pm_ur_k _ _ (by omega)]
  · rw [pm_up_row _ _ (by omega), pm_up_row _ _ (by omega)]
    dsimp only
    by_cases g : x = 64 + a
    · subst g
      rw [if_pos rfl, nr, pm_up_s]
      show nI (64 + spC r a) = nI (nS r (64 + a))
      rw [nr]
    · have := (nS_of O hx hcx).1
      rw [if_neg g, pm_up_j _ _ (fun z => g (nS_inj O hx (by omega) hcx (by omega) (by rw [nr]; exact z))), e2, if_pos (by omega)]
      rfl
  · have : j = 0 := by omega
    subst this
    rw [pm_up_row _ _ (by omega), pm_up_s]
    dsimp only
    rw [nr]
end CRX
