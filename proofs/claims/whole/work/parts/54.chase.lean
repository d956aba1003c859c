/-! who catches whom by turns: what is sure; the reference -/
/-- a next cell, or the same -/
def nbC (r : Nat → Int32) (c t : Nat) : Prop := t = c ∨ ∃ w, w < 4 ∧ fre r c w = some t
/-- the player, who is to go, is sure to catch in at most n turns -/
def ctC (r : Nat → Int32) : Nat → Nat → Nat → Prop
  | 0 => fun p q => p = q
  | n + 1 => fun p q => ∃ p', nbC r p p' ∧ (p' = q ∨ ∀ q', nbC r q q' → ctC r n p' q')
theorem ctC.up {r : Nat → Int32} : ∀ n p q, ctC r n p q → ctC r (n + 1) p q := by
  intro n
  induction n with
  | zero => intro p q h; exact ⟨p, Or.inl rfl, Or.inl h⟩
  | succ n ih =>
    rintro p q ⟨p', h1, h2⟩
    refine ⟨p', h1, h2.imp_right fun h q' hq => ih p' q' (h q' hq)⟩
theorem ctC.mono {r : Nat → Int32} {n m p q : Nat} (h : ctC r n p q) (hn : n ≤ m) : ctC r m p q := by
  obtain ⟨k, rfl⟩ := Nat.exists_eq_add_of_le hn
  clear hn
  induction k with
  | zero => exact h
  | succ k ih => exact ctC.up _ _ _ ih
theorem nbC.lt {r : Nat → Int32} (O : okC r) {c t : Nat} (hc : c < cells r) (ho : wlC r c = false) (h : nbC r c t) : t < cells r ∧ wlC r t = false := by
  rcases h with rfl | ⟨w, -, h⟩
  · exact ⟨hc, ho⟩
  · exact ⟨fre_lt O hc h, (fre_iff.mp h).2⟩
/-- once nothing is won, nothing is won -/
theorem ctC.closed {r : Nat → Int32} (O : okC r) {n : Nat} (h : ∀ p q, p < cells r → q < cells r → wlC r p = false → wlC r q = false → ctC r (n + 1) p q → ctC r n p q) : ∀ k p q, p < cells r → q < cells r → wlC r p = false → wlC r q = false → ctC r k p q → ctC r n p q := by
  intro k
  induction k with
  | zero => intro p q _ _ _ _ hk; exact ctC.mono (n := 0) hk (Nat.zero_le _)
  | succ k ih =>
    rintro p q hp hq hpo hqo ⟨p', h1, h2⟩
    obtain ⟨g1, g2⟩ := h1.lt O hp hpo
    refine h p q hp hq hpo hqo ⟨p', h1, h2.imp_right fun h q' hq' => ?_⟩
    obtain ⟨g3, g4⟩ := hq'.lt O hq hqo
    exact ih p' q' g1 g3 g2 g4 (h q' hq')
theorem ctC.stab {r : Nat → Int32} (O : okC r) {p0 : Nat} (hp0 : p0 < cells r) (ho : wlC r p0 = false) : ∃ j, j < 4096 ∧ ∀ k p q, p < cells r → q < cells r → wlC r p = false → wlC r q = false → ctC r k p q → ctC r j p q := by
  have hb := O.w
  obtain ⟨j, h1, h2⟩ := stabC (fun k i => (okI r i ∧ wlC r (i / 64) = false ∧ wlC r (i % 64) = false) ∧ ctC r k (i / 64) (i % 64)) 4096 (fun k c h => h.1.1.lt O) (fun k c h => ⟨h.1, ctC.up _ _ _ h.2⟩) (fun j hj c h => by
    refine ⟨h.1, ?_⟩
    obtain ⟨p', g1, g2⟩ := h.2
    obtain ⟨g3, g4⟩ := g1.lt O h.1.1.1 h.1.2.1
    refine ⟨p', g1, g2.imp_right fun g q' hq' => ?_⟩
    obtain ⟨g5, g6⟩ := hq'.lt O h.1.1.2 h.1.2.2
    obtain ⟨e1, e2, e3⟩ := pr_ok O g3 g5
    have := (hj (64 * p' + q') ⟨⟨e3, by rw [e1]; exact g4, by rw [e2]; exact g6⟩, by rw [e1, e2]; exact g q' hq'⟩).2
    rw [e1, e2] at this; exact this) (c0 := 64 * p0 + p0) (by
    obtain ⟨e1, e2, e3⟩ := pr_ok O hp0 hp0
    refine ⟨⟨e3, by rw [e1]; exact ho, by rw [e2]; exact ho⟩, ?_⟩
    show (64 * p0 + p0) / 64 = (64 * p0 + p0) % 64
    rw [e1, e2])
  refine ⟨j, h1, fun k p q hp hq hpo hqo h => ?_⟩
  obtain ⟨e1, e2, e3⟩ := pr_ok O hp hq
  have := (h2 k (64 * p + q) ⟨⟨e3, by rw [e1]; exact hpo, by rw [e2]; exact hqo⟩, by rw [e1, e2]; exact h⟩).2
  rw [e1, e2] at this; exact this
def vCh (r : Nat → Int32) (p q : Nat) (v : Int32) : Prop := ((∀ k, ¬ ctC r k p q) ∧ v = -1) ∨ ∃ D, v = nI D ∧ ctC r D p q ∧ ∀ k, ctC r k p q → D ≤ k
theorem vCh.uniq {r : Nat → Int32} {p q : Nat} {v v' : Int32} (h1 : vCh r p q v) (h2 : vCh r p q v') : v = v' := by
  rcases h1 with ⟨a1, a2⟩ | ⟨D, a1, a2, a3⟩ <;> rcases h2 with ⟨b1, b2⟩ | ⟨D', b1, b2, b3⟩
  · rw [a2, b2]
  · exact absurd b2 (a1 _)
  · exact absurd a2 (b1 _)
  · rw [a1, b1, Nat.le_antisymm (a3 _ b2) (b3 _ a2)]
/-- the dearest answer of him who flees, and 1 more; the cheapest of him who chases -/
def syW (r : Nat → Int32) (T : Nat → Nat) (p q : Nat) : Nat → Nat
  | 0 => 0
  | w + 1 => match fre r q w with
    | none => syW r T p q w
    | some t => if syW r T p q w ≤ T (64 * p + t) + 1 then T (64 * p + t) + 1 else syW r T p q w
def snW (r : Nat → Int32) (B : Nat → Nat) (p q : Nat) : Nat → Nat
  | 0 => 1000000
  | w + 1 => match fre r p w with
    | none => snW r B p q w
    | some t => if B (64 * t + q) ≤ snW r B p q w then B (64 * t + q) else snW r B p q w
section STN
variable {r : Nat → Int32} {T B : Nat → Nat} {p q : Nat}
theorem syW_s (w : Nat) : syW r T p q (w + 1) = match fre r q w with
    | none => syW r T p q w
    | some t => if syW r T p q w ≤ T (64 * p + t) + 1 then T (64 * p + t) + 1 else syW r T p q w := rfl
theorem snW_s (w : Nat) : snW r B p q (w + 1) = match fre r p w with
    | none => snW r B p q w
    | some t => if B (64 * t + q) ≤ snW r B p q w then B (64 * t + q) else snW r B p q w := rfl
theorem syW_le (b : Nat) : ∀ n, syW r T p q n ≤ b ↔ ∀ w t, w < n → fre r q w = some t → T (64 * p + t) + 1 ≤ b := by
  intro n
  induction n with
  | zero => exact ⟨fun _ w t h => by omega, fun _ => Nat.zero_le _⟩
  | succ n ih =>
    rw [syW_s]
    cases e : fre r q n with
    | none =>
      dsimp only
      rw [ih]
      constructor
      · intro h w t hw ht
        by_cases z : w = n
        · subst z; rw [e] at ht; cases ht
        · exact h w t (by omega) ht
      · intro h w t hw ht; exact h w t (by omega) ht
    | some t0 =>
      dsimp only
      constructor
      · intro h w t hw ht
        have h1 : syW r T p q n ≤ b ∧ T (64 * p + t0) + 1 ≤ b := by
          by_cases z : syW r T p q n ≤ T (64 * p + t0) + 1
          · rw [if_pos z] at h; exact ⟨Nat.le_trans z h, h⟩
          · rw [if_neg z] at h; exact ⟨h, Nat.le_trans (Nat.le_of_not_le z) h⟩
        by_cases z : w = n
        · subst z; rw [e] at ht; cases ht; exact h1.2
        · exact ih.mp h1.1 w t (by omega) ht
      · intro h
        have h1 := ih.mpr fun w t hw ht => h w t (by omega) ht
        have h2 := h n t0 (by omega) e
        split <;> omega
theorem snW_le : ∀ n, snW r B p q n ≤ 1000000 ∧ (∀ w t, w < n → fre r p w = some t → snW r B p q n ≤ B (64 * t + q)) ∧ (snW r B p q n < 1000000 → ∃ w t, w < n ∧ fre r p w = some t ∧ B (64 * t + q) = snW r B p q n) := by
  intro n
  induction n with
  | zero => exact ⟨Nat.le_refl _, fun w t h => by omega, fun h => absurd h (Nat.lt_irrefl _)⟩
  | succ n ih =>
    obtain ⟨i1, i2, i3⟩ := ih
    rw [snW_s]
    cases e : fre r p n with
    | none =>
      dsimp only
      refine ⟨i1, fun w t hw ht => ?_, fun h => ?_⟩
      · by_cases z : w = n
        · subst z; rw [e] at ht; cases ht
        · exact i2 w t (by omega) ht
      · obtain ⟨w, t, g1, g2⟩ := i3 h
        exact ⟨w, t, by omega, g2⟩
    | some t0 =>
      dsimp only
      split
      · rename_i hle
        refine ⟨by omega, fun w t hw ht => ?_, fun h => ⟨n, t0, by omega, e, rfl⟩⟩
        by_cases z : w = n
        · subst z; rw [e] at ht; cases ht; exact Nat.le_refl _
        · have := i2 w t (by omega) ht; omega
      · rename_i hgt
        refine ⟨i1, fun w t hw ht => ?_, fun h => ?_⟩
        · by_cases z : w = n
          · subst z; rw [e] at ht; cases ht; omega
          · exact i2 w t (by omega) ht
        · obtain ⟨w, t, g1, g2⟩ := i3 h
          exact ⟨w, t, by omega, g2⟩
theorem fre4 {c : Nat} (ho : wlC r c = false) : fre r c 4 = some c := by
  unfold fre nxt
  rw [if_neg (by decide), if_neg (by decide), if_neg (by decide), if_neg (by decide)]
  dsimp only
  rw [if_neg (by rw [ho]; decide)]
theorem fre5 {c t w : Nat} (h : fre r c w = some t) (hw : w < 5) : nbC r c t := by
  by_cases e : w < 4
  · exact Or.inr ⟨w, e, h⟩
  · have : w = 4 := by omega
    subst this
    unfold fre nxt at h
    rw [if_neg (by decide), if_neg (by decide), if_neg (by decide), if_neg (by decide)] at h
    dsimp only at h
    split at h
    · cases h
    · cases h; exact Or.inl rfl
theorem nb5 {c t : Nat} (ho : wlC r c = false) (h : nbC r c t) : ∃ w, w < 5 ∧ fre r c w = some t := by
  rcases h with rfl | ⟨w, h1, h2⟩
  · exact ⟨4, by omega, fre4 ho⟩
  · exact ⟨w, by omega, h2⟩
end STN
/-- what of a pair is answered by him who flees, and 1 more -/
def BN (r : Nat → Int32) (T : Nat → Nat) (i : Nat) : Nat := if i / 64 = i % 64 then 1 else syW r T (i / 64) (i % 64) 5
def w2 (mi : pm_I) (z : Nat) (g a : Nat → Int32) : pm_I := pm_ur (pm_ur mi (z + 19) g) (z + 20) a
section W2
variable {mi : pm_I} {z : Nat} {g a : Nat → Int32}
theorem w2_19 : w2 mi z g a (z + 19) = g := by unfold w2; rw [pm_ur_k _ _ (by omega), pm_ur_s]
theorem w2_20 : w2 mi z g a (z + 20) = a := by unfold w2; rw [pm_ur_s]
theorem w2_o {b : Nat} (hb : b ≠ z + 19) (hb2 : b ≠ z + 20) : w2 mi z g a b = mi b := by unfold w2; rw [pm_ur_k _ _ hb2, pm_ur_k _ _ hb]
theorem w2_u19 {j : Nat} {v : Int32} : pm_up (w2 mi z g a) (z + 19) j v = w2 mi z (setF g j v) a := by
  unfold w2
  rw [ur_up _ _ _ (by omega), pm_up_ur]; rfl
theorem w2_u20 {j : Nat} {v : Int32} : pm_up (w2 mi z g a) (z + 20) j v = w2 mi z g (setF a j v) := by
  unfold w2
  rw [pm_up_ur]; rfl
theorem w2_self : w2 mi z (mi (z + 19)) (mi (z + 20)) = mi := by
  unfold w2
  rw [pm_ur_self, pm_ur_self]
end W2
/-- the turns so far -/
def cJ9 (r : Nat → Int32) (g : Nat → Int32) (T : Nat → Nat) : Prop := (∀ i, i < 4096 → g i = nI (T i) ∧ T i ≤ 1000000) ∧ (∀ i, okI r i → wlC r (i / 64) = false → wlC r (i % 64) = false → T i < 1000000 → ctC r (T i) (i / 64) (i % 64)) ∧ ∀ i, i < 4096 → i / 64 = i % 64 → T i = 0
section CHZ
variable {l : Launch} {d h o x z T : Nat} {kd : pm_K} {mr : pm_R} {mi : pm_I} {ml : pm_L} {k : Nat} {r : Nat → Int32} {g a : Nat → Int32} {Tn Bn : Nat → Nat}
theorem gz_m (b t : Nat) (hb : b < 100000000) (ht : t < 100000000) : (if nI b - 1 ≤ nI t then nI t else nI b - 1) = nI (if b ≤ t + 1 then t + 1 else b) - 1 := by
  have e1 : nI (t + 1) - 1 = nI t := nI_pred t
  cases b with
  | zero =>
    have h : nI 0 - 1 ≤ nI t := by
      rw [Int32.le_iff_toInt_le, z_toInt (by omega)]
      have e : (nI 0 - 1).toInt = -1 := by decide
      omega
    rw [if_pos h, if_pos (by omega), e1]
  | succ b =>
    rw [nI_pred]
    have q : (nI b ≤ nI t) = (b ≤ t) := z_le (by omega) (by omega)
    simp only [q]
    by_cases h : b ≤ t
    · rw [if_pos h, if_pos (by omega), e1]
    · rw [if_neg h, if_neg (by omega), nI_pred]
theorem s_stay {p q : Nat} {y v : Int32} {K : Int32 → pm_I → pm_L → Prop} (tz : TX12s kd mr z) (H : Hd mi z k r) (O : okC r) (hg : ∀ i, i < 4096 → mi (z + 19) i = nI (Tn i) ∧ Tn i ≤ 1000000) (hy : y = nI p) (hv : v = nI q) (hp : p < cells r) (hq : q < cells r) (k9 : ∀ v, v = nI (BN r Tn (64 * p + q)) - 1 → K v mi ml) : wI l M_X12_stay (d + 3) [.ref z, .int y, .int v] kd mr mi ml K := by
  subst hy; subst hv
  have hb := O.w
  obtain ⟨e1, e2, e3⟩ := pr_ok O hp hq
  have eB : BN r Tn (64 * p + q) = if p = q then 1 else syW r Tn p q 5 := by unfold BN; rw [e1, e2]
  refine w_X12_stay tz ?_
  rw [z_eq (by omega) (by omega)]
  refine ⟨fun hne => ?_, fun he => k9 _ (by rw [eB, if_pos he]; rfl)⟩
  rw [if_neg hne] at eB
  have sb : ∀ n, syW r Tn p q n ≤ 1000001 := fun n => (syW_le _ n).mpr fun w t _ ht => by
    have hlt := fre_lt O hq ht
    have := (hg (64 * p + t) (by omega)).2
    omega
  have loop : ∀ (u w : Nat), w + u = 5 → c_X12_stay_12 l (d + 3) kd mr z (nI p) (nI q) (nI (syW r Tn p q w) - 1) (nI w) mi ml K := by
    intro u
    induction u with
    | zero =>
      intro w hw
      have : w = 5 := by omega
      subst this
      exact w_X12_stay_12 tz ⟨fun _ => k9 _ (by rw [eB]), fun q => absurd (nI_lt (a := 4) (by omega) (by omega)) q⟩
    | succ u ih =>
      intro w hw
      have nx := ih (w + 1) (by omega)
      refine w_X12_stay_12 tz ⟨fun q => absurd q (nI_nlt (a := 4) (by omega) (by omega)), fun _ => s_free tz H O rfl rfl hq (by omega) ?_⟩
      rw [syW_s] at nx
      cases hn : fre r q w with
      | none =>
        rw [hn] at nx
        refine ⟨fun q => absurd rfl q, fun _ => w_X12_stay_53 tz ?_⟩
        rw [nI_1]; exact nx
      | some t =>
        rw [hn] at nx
        dsimp only at nx
        have ht := fre_lt O hq hn
        have ea : (64 : Int32) * nI p + nI t = nI (64 * p + t) := by rw [show (64 : Int32) * nI p = nI (64 * p) from z_mul 64 p, nI_add]
        refine ⟨fun _ => ?_, fun q => absurd q (z_eq1 (by omega))⟩
        show vp_in (64 * nI p + nI t) 4096 ∧ wI l M_X12_greater (d + 2) [.int (nI (syW r Tn p q w) - 1), .int (mi (z + 19) (Int32.toNatClampNeg (64 * nI p + nI t)))] kd mr mi ml _
        obtain ⟨g1, g2⟩ := hg (64 * p + t) (by omega)
        have sbw := sb w
        rw [ea, z_cl (by omega), g1]
        refine ⟨z_in (by omega) (by omega), w_X12_greater (w_X12_stay_53 tz ?_)⟩
        rw [gz_m _ _ (by omega) (by omega), nI_1]
        exact nx
  exact loop 5 0 rfl
theorem s_sooner {p q : Nat} {y v : Int32} {K : Int32 → pm_I → pm_L → Prop} (tz : TX12s kd mr z) (H : Hd mi z k r) (O : okC r) (hg : ∀ i, okI r i → mi (z + 20) i = nI (Bn i) - 1 ∧ Bn i ≤ 1000001) (hy : y = nI p) (hv : v = nI q) (hp : p < cells r) (hq : q < cells r) (k9 : K (nI (snW r Bn p q 5)) mi ml) : wI l M_X12_sooner (d + 3) [.ref z, .int y, .int v] kd mr mi ml K := by
  subst hy; subst hv
  have hb := O.w
  have loop : ∀ (u w : Nat), w + u = 5 → c_X12_sooner_7 l (d + 3) kd mr z (nI p) (nI q) (nI (snW r Bn p q w)) (nI w) mi ml K := by
    intro u
    induction u with
    | zero =>
      intro w hw
      have : w = 5 := by omega
      subst this
      exact w_X12_sooner_7 tz ⟨fun _ => k9, fun q => absurd (nI_lt (a := 4) (by omega) (by omega)) q⟩
    | succ u ih =>
      intro w hw
      have nx := ih (w + 1) (by omega)
      refine w_X12_sooner_7 tz ⟨fun q => absurd q (nI_nlt (a := 4) (by omega) (by omega)), fun _ => s_free tz H O rfl rfl hp (by omega) ?_⟩
      rw [snW_s] at nx
      cases hn : fre r p w with
      | none =>
        rw [hn] at nx
        refine ⟨fun q => absurd rfl q, fun _ => w_X12_sooner_50 tz ?_⟩
        rw [nI_1]; exact nx
      | some t =>
        rw [hn] at nx
        dsimp only at nx
        have ht := fre_lt O hp hn
        have ea : (64 : Int32) * nI t + nI q = nI (64 * t + q) := by rw [show (64 : Int32) * nI t = nI (64 * t) from z_mul 64 t, nI_add]
        refine ⟨fun _ => ?_, fun q => absurd q (z_eq1 (by omega))⟩
        show vp_in (64 * nI t + nI q) 4096 ∧ wI l M_X12_lesser (d + 2) [.int (nI (snW r Bn p q w)), .int (mi (z + 20) (Int32.toNatClampNeg (64 * nI t + nI q)) + 1)] kd mr mi ml _
        obtain ⟨-, -, e3⟩ := pr_ok O ht hq
        obtain ⟨g1, g2⟩ := hg (64 * t + q) e3
        have sbw := (snW_le (r := r) (B := Bn) (p := p) (q := q) w).1
        rw [ea, z_cl (by omega), g1, Int32.sub_add_cancel]
        refine ⟨z_in (by omega) (by omega), w_X12_lesser (w_X12_sooner_50 tz ?_)⟩
        have q9 : (nI (Bn (64 * t + q)) ≤ nI (snW r Bn p q w)) = (Bn (64 * t + q) ≤ snW r Bn p q w) := z_le (by omega) (by omega)
        have e9 : (if nI (Bn (64 * t + q)) ≤ nI (snW r Bn p q w) then nI (Bn (64 * t + q)) else nI (snW r Bn p q w)) = nI (if Bn (64 * t + q) ≤ snW r Bn p q w then Bn (64 * t + q) else snW r Bn p q w) := by
          simp only [q9]
          split <;> rfl
        rw [e9, nI_1]
        exact nx
  exact w_X12_sooner tz (loop 5 0 rfl)
end CHZ
