/-! programme, through and through -/
def isFB (r : Nat → Int32) (m w c : Nat) : Prop := c < 4 ∧ gnC r w c + RH r false m (wrN w c) c = RH r false (m + 1) w 4 ∧ ∀ c', c' < c → ¬ gnC r w c' + RH r false m (wrN w c') c' = RH r false (m + 1) w 4
theorem isFB.uniq {r : Nat → Int32} {m w c c' : Nat} (h1 : isFB r m w c) (h2 : isFB r m w c') : c = c' := by
  rcases Nat.lt_trichotomy c c' with q | q | q
  · exact absurd h1.2.1 (h2.2.2 c q)
  · exact q
  · exact absurd h2.2.1 (h1.2.2 c' q)
theorem bsH_at {last : Nat} {f : Nat → Nat} : ∀ n, ∃ c, c ≤ n ∧ f c = bsH false last f (n + 1) := by
  intro n
  induction n with
  | zero =>
    refine ⟨0, Nat.le_refl _, ?_⟩
    rw [bsH_s, if_neg (by simp)]
    show f 0 = mx 0 (f 0)
    unfold mx; split <;> omega
  | succ n ih =>
    obtain ⟨c, h1, h2⟩ := ih
    rw [bsH_s, if_neg (by simp)]
    by_cases q : bsH false last f (n + 1) < f (n + 1)
    · refine ⟨n + 1, Nat.le_refl _, ?_⟩
      unfold mx; rw [if_pos q]
    · refine ⟨c, by omega, ?_⟩
      unfold mx; rw [if_neg q]; exact h2
theorem isFB.ex (r : Nat → Int32) (m w : Nat) : ∃ c, isFB r m w c := by
  obtain ⟨c, h1, h2⟩ := bsH_at (last := 4) (f := fun c => gnC r w c + RH r false m (wrN w c) c) 3
  obtain ⟨c0, g1, g2, g3⟩ := least_of (P := fun c => gnC r w c + RH r false m (wrN w c) c = RH r false (m + 1) w 4) (n := c) (by rw [RH_s]; exact h2)
  exact ⟨c0, by omega, g2, g3⟩
/-- how one is worn behind i commands of the first best row -/
def PCw (r : Nat → Int32) (n : Nat) : Nat → Nat → Prop
  | 0 => fun w => w = 0
  | i + 1 => fun w => ∃ w0 c, PCw r n i w0 ∧ isFB r (n - i - 1) w0 c ∧ w = wrN w0 c
theorem PCw.uniq {r : Nat → Int32} {n : Nat} : ∀ i w w', PCw r n i w → PCw r n i w' → w = w' := by
  intro i
  induction i with
  | zero => intro w w' h1 h2; exact (show w = 0 from h1).trans (show w' = 0 from h2).symm
  | succ i ih =>
    rintro w w' ⟨w0, c, a1, a2, a3⟩ ⟨w0', c', b1, b2, b3⟩
    have := ih w0 w0' a1 b1
    subst this
    have := a2.uniq b2
    subst this
    rw [a3, b3]
def vCmd (r : Nat → Int32) (n k : Nat) (v : Int32) : Prop := ∃ w c, PCw r n k w ∧ isFB r (n - k - 1) w c ∧ v = nI c
def vPr (r : Nat → Int32) (n : Nat) (k v : Int32) : Prop := (k = -1 ∧ v = nI (RH r false n 0 4)) ∨ (k = -2 ∧ v = nI (RH r true n 0 4)) ∨ ∃ j, j < n ∧ k = nI j ∧ vCmd r n j v
theorem vPr.uniq {r : Nat → Int32} {n : Nat} {k v v' : Int32} (hn : n ≤ 12) (h1 : vPr r n k v) (h2 : vPr r n k v') : v = v' := by
  have d12 : ¬ (-1 : Int32) = -2 := by decide
  have e1 : ∀ j, j < n → ¬ nI j = (-1 : Int32) := fun j hj => z_eq1 (by omega)
  have e2 : ∀ j, j < n → ¬ nI j = (-2 : Int32) := fun j hj => by
    have := z_m2 (a := j) (by omega)
    exact fun q => (this ▸ (q : nI j = -nI 2)).elim
  rcases h1 with ⟨a1, a2⟩ | ⟨a1, a2⟩ | ⟨j, a1, a2, w, c, a3, a4, a5⟩ <;> rcases h2 with ⟨b1, b2⟩ | ⟨b1, b2⟩ | ⟨j', b1, b2, w', c', b3, b4, b5⟩
  · rw [a2, b2]
  · exact absurd (a1.symm.trans b1) d12
  · exact absurd (b2.symm.trans a1) (e1 _ b1)
  · exact absurd (b1.symm.trans a1) d12
  · rw [a2, b2]
  · exact absurd (b2.symm.trans a1) (e2 _ b1)
  · exact absurd (a2.symm.trans b1) (e1 _ a1)
  · exact absurd (a2.symm.trans b1) (e2 _ a1)
  · have ej : j = j' := by
      have := a2.symm.trans b2
      rw [z_eq (by omega) (by omega)] at this; exact this
    subst ej
    have := PCw.uniq _ _ _ a3 b3
    subst this
    rw [a5, b5, a4.uniq b4]
def clI (m w a : Nat) : Nat := (625 * m + w) * 5 + a
theorem clI_next (m : Nat) : clI (m + 1) 0 0 = clI m 625 0 := by
  unfold clI; rw [Nat.mul_add, Nat.mul_one]
theorem clI_inj {l w a l' w' a' : Nat} (hw : w < 625) (hw' : w' < 625) (ha : a < 5) (ha' : a' < 5) (h : clI l w a = clI l' w' a') : l = l' ∧ w = w' ∧ a = a' := by
  unfold clI at h; omega
def bnM (r : Nat → Int32) (hab : Bool) (M : Nat → Int32) (J : Nat) : Prop := ∀ m w a, m ≤ 12 → w < 625 → a < 5 → clI m w a < J → M (clI m w a) = nI (RH r hab m w a)
def wrP (w cmd : Nat) : Nat → Nat
  | 0 => 0
  | c + 1 => wrP w cmd c + 5 ^ c * nd w cmd c
theorem wrP_4 (w cmd : Nat) : wrP w cmd 4 = wrN w cmd := by
  show 0 + 5 ^ 0 * nd w cmd 0 + 5 ^ 1 * nd w cmd 1 + 5 ^ 2 * nd w cmd 2 + 5 ^ 3 * nd w cmd 3 = _
  unfold wrN
  omega
theorem nd_le (w cmd c : Nat) : nd w cmd c ≤ 4 := by
  have := dg_lt w c
  unfold nd
  split
  · split <;> omega
  · omega
theorem wrN_lt (w cmd : Nat) : wrN w cmd < 625 := by
  have h0 := nd_le w cmd 0
  have h1 := nd_le w cmd 1
  have h2 := nd_le w cmd 2
  have h3 := nd_le w cmd 3
  unfold wrN
  omega
theorem nd_ls : ∀ v, v < 5 → (if nI v + 1 ≤ 4 then nI v + 1 else 4) = nI (if v + 1 ≤ 4 then v + 1 else 4) := by decide
theorem nd_gr : ∀ v, v < 5 → (if 0 ≤ nI v - 1 then nI v - 1 else 0) = nI (v - 1) := by decide
section PRG
variable {l : Launch} {d h o x z T a1 : Nat} {kd : pm_K} {mr : pm_R} {mi : pm_I} {ml : pm_L} {k : Nat} {r : Nat → Int32} {hab : Bool}
theorem s_firstBest {l1 w n : Nat} {u v : Int32} {M : Nat → Int32} {K : Int32 → pm_I → pm_L → Prop} (th : TX4s kd mr h) (ka1 : kd[a1]? = some (1, 4)) (O : okC r) (hne : a1 ≠ h + 3) (hT : pgT r h a1 mi) (hM : pgM r false M (ixP n 56 4 + 1)) (hu : u = nI (l1 + 1)) (hv : v = nI w) (hl : l1 < n) (hn : n ≤ 12) (hw : w < 57)
    (k9 : ∀ c, isFB r l1 (pgC.getD w 0) c → K (nI c) (pm_ur mi (h + 3) M) ml) : wI l M_X4_firstBest (d + 2) [.ref h, .ref a1, .int u, .int v] kd mr (pm_ur mi (h + 3) M) ml K := by
  subst hu; subst hv
  obtain ⟨c0, hc0⟩ := isFB.ex r l1 (pgC.getD w 0)
  have loop : ∀ (q c : Nat), c + q = c0 → c_X4_firstBest_3 l (d + 2) kd mr h a1 4 (nI (l1 + 1)) (nI w) (nI c) (pm_ur mi (h + 3) M) ml K := by
    intro q
    induction q with
    | zero =>
      intro c hc
      have : c = c0 := by omega
      subst this
      have h4 := hc0.1
      have hb : ixP (l1 + 1) w 4 ≤ 3704 := by unfold ixP; omega
      have hR := RH_le O false l1 (wrN (pgC.getD w 0) c) c
      have hR2 := RH_le O false (l1 + 1) (pgC.getD w 0) 4
      refine w_X4_firstBest_3 th ka1 ⟨fun q => absurd q (nI_ge (b := 4) (by omega) (by omega)), fun _ => s_brings (hab := false) th ka1 O hne hT hM (by unfold ixP; omega) rfl rfl rfl (by omega) hw h4 (s_indexOf (c := 4) rfl rfl rfl ?_)⟩
      rw [z_cl (by omega), pm_ur_s, hM _ _ _ (by omega) hw (by omega) (Or.inr (Or.inl rfl)) (by unfold ixP; omega), hc0.2.1]
      exact ⟨z_in (by omega) (by omega), fun e => absurd rfl e, fun _ => k9 c hc0⟩
    | succ q ih =>
      intro c hc
      have h4 := hc0.1
      have hb : ixP (l1 + 1) w 4 ≤ 3704 := by unfold ixP; omega
      have hR := RH_le O false l1 (wrN (pgC.getD w 0) c) c
      have hv9 := O.val9 (show c < 4 by omega)
      have hR2 := RH_le O false (l1 + 1) (pgC.getD w 0) 4
      have hgn : gnC r (pgC.getD w 0) c ≤ 9 := by unfold gnC; omega
      refine w_X4_firstBest_3 th ka1 ⟨fun q => absurd q (nI_ge (b := 4) (by omega) (by omega)), fun _ => s_brings (hab := false) th ka1 O hne hT hM (by unfold ixP; omega) rfl rfl rfl (by omega) hw (by omega) (s_indexOf (c := 4) rfl rfl rfl ?_)⟩
      rw [z_cl (by omega), pm_ur_s, hM _ _ _ (by omega) hw (by omega) (Or.inr (Or.inl rfl)) (by unfold ixP; omega), z_eq (by omega) (by omega)]
      refine ⟨z_in (by omega) (by omega), fun _ => ?_, fun e => absurd e (hc0.2.2 c (by omega))⟩
      rw [nI_1]
      exact ih (c + 1) (by omega)
  exact w_X4_firstBest th ka1 (loop c0 0 (by omega))
theorem s_commandAtX {n j : Nat} {u v : Int32} {M : Nat → Int32} {K : Int32 → pm_I → pm_L → Prop} (th : TX4s kd mr h) (ka1 : kd[a1]? = some (1, 4)) (O : okC r) (hne : a1 ≠ h + 3) (hT : pgT r h a1 mi) (hM : pgM r false M (ixP n 56 4 + 1)) (hu : u = nI n) (hv : v = nI j) (hn : n ≤ 12) (hj : j < n)
    (k9 : ∀ v, vCmd r n j v → K v (pm_ur mi (h + 3) M) ml) : wI l M_X4_commandAt (d + 3) [.ref h, .ref a1, .int u, .int v] kd mr (pm_ur mi (h + 3) M) ml K := by
  subst hu; subst hv
  have loop : ∀ (q i wy : Nat) (x5 : Int32), i + q = j + 1 → wy < 57 → PCw r n i (pgC.getD wy 0) → (i = 0 ∨ ∃ w0 c, PCw r n (i - 1) w0 ∧ isFB r (n - (i - 1) - 1) w0 c ∧ x5 = nI c) → c_X4_commandAt_9 l (d + 3) kd mr h a1 4 (nI n) (nI j) (nI wy) x5 (nI i) (pm_ur mi (h + 3) M) ml K := by
    intro q
    induction q with
    | zero =>
      intro i wy x5 hi hwy hP hx
      have : i = j + 1 := by omega
      subst this
      refine w_X4_commandAt_9 th ka1 ⟨fun _ => ?_, fun q => absurd (nI_lt (Nat.lt_succ_self j) (by omega)) q⟩
      obtain ⟨w0, c, g1, g2, g3⟩ := hx.resolve_left (by omega)
      exact k9 _ ⟨w0, c, g1, g2, g3⟩
    | succ q ih =>
      intro i wy x5 hi hwy hP hx
      refine w_X4_commandAt_9 th ka1 ⟨fun q => absurd q (nI_nlt (by omega) (by omega)), fun _ => ⟨fun q => absurd q (nI_ge (by omega) (by omega)), fun _ => ?_⟩⟩
      have e1 : nI n - nI i = nI ((n - i - 1) + 1) := by rw [z_sub (by omega)]; congr 1; omega
      refine s_firstBest (l1 := n - i - 1) (n := n) th ka1 O hne hT hM e1 rfl (by omega) hn hwy fun c hc => ?_
      have h4 := hc.1
      have ei : nI wy * 4 + nI c = nI (4 * wy + c) := by
        rw [show nI wy * (4 : Int32) = nI (wy * 4) from z_mul wy 4, nI_add]; congr 1; omega
      obtain ⟨p3, p4⟩ := (pg_ok wy hwy).2 c h4
      rw [ei, z_cl (by omega), ((hT.up hne M).1 wy hwy c h4).2, nI_1]
      exact ⟨z_in (by omega) (by omega), ih (i + 1) _ _ (by omega) p3 ⟨_, c, hP, hc, p4⟩ (Or.inr ⟨_, c, hP, hc, rfl⟩)⟩
  exact w_X4_commandAt th ka1 (loop (j + 1) 0 0 (-1) (by omega) (by omega) (show pgC.getD 0 0 = 0 from rfl) (Or.inl rfl))
theorem s_mostOf {n : Nat} {u : Int32} {M : Nat → Int32} {K : Int32 → pm_I → pm_L → Prop} (th : TX4s kd mr h) (hM : pgM r hab M (ixP n 56 4 + 1)) (hu : u = nI n) (hn : n ≤ 12) (k9 : K (nI (RH r hab n 0 4)) (pm_ur mi (h + 3) M) ml) : wI l M_X4_mostOf (d + 1) [.ref h, .int u] kd mr (pm_ur mi (h + 3) M) ml K := by
  refine w_X4_mostOf th (s_indexOf (a := n) (b := 0) (c := 4) hu rfl rfl ?_)
  have hb : ixP n 0 4 ≤ 3704 := by unfold ixP; omega
  rw [z_cl (by omega), pm_ur_s, hM n 0 4 hn (by omega) (by omega) (Or.inr (Or.inl rfl)) (by unfold ixP; omega)]
  exact ⟨z_in (by omega) (by omega), k9⟩
theorem s_wornOf {w c : Nat} {u v : Int32} {K : Int32 → pm_I → pm_L → Prop} (hu : u = nI w) (hv : v = nI c) (hw : w < 625) (hc : c < 4) (k9 : K (nI (dg w c)) mi ml) : wI l M_X12_wornOf d [.int u, .int v] kd mr mi ml K := by
  subst hu; subst hv
  have loop : ∀ (q i : Nat), i + q = c → c_X12_wornOf_4 l d kd mr (nI c) (nI (w / 5 ^ i)) (nI i) mi ml K := by
    intro q
    induction q with
    | zero =>
      intro i hi
      have : i = c := by omega
      subst this
      have hle : w / 5 ^ i ≤ w := Nat.div_le_self _ _
      have e : nI (w / 5 ^ i) - nI (w / 5 ^ i) / 5 * 5 = nI (dg w i) := z_rem (a := w / 5 ^ i) (b := 5) (by omega) (by omega)
      refine w_X12_wornOf_4 ⟨fun _ => ?_, fun q => absurd (nI_le (Nat.le_refl _) (by omega)) q⟩
      rw [e]; exact k9
    | succ q ih =>
      intro i hi
      have hle : w / 5 ^ i ≤ w := Nat.div_le_self _ _
      have e : nI (w / 5 ^ i) / 5 = nI (w / 5 ^ (i + 1)) := by
        have h1 : nI (w / 5 ^ i) / 5 = nI (w / 5 ^ i / 5) := z_div (b := 5) (by omega) (by omega)
        rw [h1, Nat.div_div_eq_div_mul, Nat.pow_succ]
      refine w_X12_wornOf_4 ⟨fun q => absurd q (nI_ge (by omega) (by omega)), fun _ => ?_⟩
      rw [e, nI_1]
      exact ih (i + 1) (by omega)
  have := loop c 0 (by omega)
  rw [Nat.pow_zero, Nat.div_one] at this
  exact w_X12_wornOf this
theorem s_gain {w c : Nat} {u v : Int32} {K : Int32 → pm_I → pm_L → Prop} (tz : TX12s kd mr z) (H : Hd mi z k r) (O : okC r) (hu : u = nI w) (hv : v = nI c) (hw : w < 625) (hc : c < 4) (k9 : K (nI (gnC r w c)) mi ml) : wI l M_X12_gain (d + 1) [.ref z, .int u, .int v] kd mr mi ml K := by
  subst hv
  have hv9 := O.val9 hc
  have hdg := dg_lt w c
  refine w_X12_gain tz (s_of (a := 5 + c) tz H (nI_add 5 c) (by omega) (s_wornOf hu rfl hw hc (w_X12_greater ?_)))
  rw [O.lit (by omega), gn_Z _ (by omega) _ hdg]
  exact k9
theorem s_wears {w cmd : Nat} {u v : Int32} {K : Int32 → pm_I → pm_L → Prop} (hu : u = nI w) (hv : v = nI cmd) (hw : w < 625) (hc : cmd < 4) (k9 : K (nI (wrN w cmd)) mi ml) : wI l M_X12_wears (d + 1) [.int u, .int v] kd mr mi ml K := by
  subst hu; subst hv
  have loop : ∀ (q c : Nat), c + q = 4 → c_X12_wears_7 l (d + 1) kd mr (nI w) (nI cmd) (nI (wrP w cmd c)) (nI (5 ^ c)) (nI c) mi ml K := by
    intro q
    induction q with
    | zero =>
      intro c hc4
      have : c = 4 := by omega
      subst this
      rw [← wrP_4] at k9
      exact w_X12_wears_7 ⟨fun _ => k9, fun q => absurd (nI_le (Nat.le_refl 4) (by omega)) q⟩
    | succ q ih =>
      intro c hc4
      have nx := ih (c + 1) (by omega)
      have hdg := dg_lt w c
      have step : nI (wrP w cmd c) + nI (5 ^ c) * nI (nd w cmd c) = nI (wrP w cmd (c + 1)) := by rw [z_mul, nI_add]; rfl
      have step2 : nI (5 ^ c) * 5 = nI (5 ^ (c + 1)) := by rw [Nat.pow_succ]; exact z_mul (5 ^ c) 5
      refine w_X12_wears_7 ⟨fun q => absurd q (nI_ge (b := 4) (by omega) (by omega)), fun _ => s_wornOf rfl rfl hw (by omega) ?_⟩
      rw [z_eq (by omega) (by omega)]
      refine ⟨fun e => w_X12_greater (w_X12_wears_48 ?_), fun e => w_X12_lesser (w_X12_wears_48 ?_)⟩
      · have en : nd w cmd c = dg w c - 1 := by unfold nd; rw [if_neg e]
        rw [nd_gr _ hdg, ← en, step, step2, nI_1]
        exact nx
      · have en : nd w cmd c = if dg w c + 1 ≤ 4 then dg w c + 1 else 4 := by unfold nd; rw [if_pos e]
        rw [nd_ls _ hdg, ← en, step, step2, nI_1]
        exact nx
  exact w_X12_wears (loop 4 0 rfl)
theorem s_cell {a b c : Nat} {u v w : Int32} {K : Int32 → pm_I → pm_L → Prop} (hu : u = nI a) (hv : v = nI b) (hw : w = nI c) (k9 : K (nI (clI a b c)) mi ml) : wI l M_X12_cell d [.int u, .int v, .int w] kd mr mi ml K := by
  subst hu; subst hv; subst hw
  refine w_X12_cell ?_
  have e : (625 * nI a + nI b) * 5 + nI c = nI (clI a b c) := by
    rw [show (625 : Int32) * nI a = nI (625 * a) from z_mul 625 a, nI_add, show nI (625 * a + b) * (5 : Int32) = nI ((625 * a + b) * 5) from z_mul _ 5, nI_add]; rfl
  rw [e]; exact k9
theorem s_findBrings {n : Nat} {u : Int32} {K : pm_I → pm_L → Prop} (tz : TX12s kd mr z) (H : Hd mi z k r) (O : okC r) (hu : u = nI n) (hn : n ≤ 12)
    (k9 : ∀ M, bnM r hab M (clI n 624 4 + 1) → K (pm_ur mi (z + 21) M) ml) : wV l M_X12_findBrings (d + 3) [.ref z, .int u, .int (b2i hab)] kd mr mi ml K := by
  subst hu
  have Hg : ∀ M, Hd (pm_ur mi (z + 21) M) z k r := fun M => H.ur (by omega) (by omega)
  have mins : ∀ (q m : Nat) (M : Nat → Int32), m + q = n + 1 → bnM r hab M (clI m 0 0) → c_X12_findBrings_2 l (d + 3) kd mr z (nI n) (b2i hab) (nI m) (pm_ur mi (z + 21) M) ml K := by
    intro q
    induction q with
    | zero =>
      intro m M hm hM
      have : m = n + 1 := by omega
      subst this
      exact w_X12_findBrings_2 tz ⟨fun _ => k9 M (by rw [show clI n 624 4 + 1 = clI (n + 1) 0 0 by unfold clI; omega]; exact hM), fun q => absurd (nI_lt (Nat.lt_succ_self _) (by omega)) q⟩
    | succ q ih =>
      intro m M hm hM
      refine w_X12_findBrings_2 tz ⟨fun q => absurd q (nI_nlt (by omega) (by omega)), fun _ => ?_⟩
      have ways : ∀ (u w : Nat) (M : Nat → Int32), w + u = 625 → bnM r hab M (clI m w 0) → c_X12_findBrings_10 l (d + 3) kd mr z (nI n) (b2i hab) (nI m) (nI w) (pm_ur mi (z + 21) M) ml K := by
        intro u
        induction u with
        | zero =>
          intro w M hw hM
          have : w = 625 := by omega
          subst this
          refine w_X12_findBrings_10 tz ⟨fun _ => ?_, fun q => absurd (nI_le (Nat.le_refl 625) (by omega)) q⟩
          rw [nI_1]
          exact ih (m + 1) M (by omega) (by rw [clI_next]; exact hM)
        | succ u ihu =>
          intro w M hw hM
          refine w_X12_findBrings_10 tz ⟨fun q => absurd q (nI_ge (b := 625) (by omega) (by omega)), fun _ => ?_⟩
          have lasts : ∀ (v a : Nat) (M : Nat → Int32), a + v = 5 → bnM r hab M (clI m w a) → c_X12_findBrings_21 l (d + 3) kd mr z (nI n) (b2i hab) (nI m) (nI w) (nI a) (pm_ur mi (z + 21) M) ml K := by
            intro v
            induction v with
            | zero =>
              intro a M ha hM
              have : a = 5 := by omega
              subst this
              refine w_X12_findBrings_21 tz ⟨fun _ => ?_, fun q => absurd (nI_lt (a := 4) (by omega) (by omega)) q⟩
              rw [nI_1]
              exact ihu (w + 1) M (by omega) (by rw [show clI m (w + 1) 0 = clI m w 5 by unfold clI; omega]; exact hM)
            | succ v ihv =>
              intro a M ha hM
              have hb : clI m w a ≤ 40624 := by unfold clI; omega
              have store : c_X12_findBrings_109 l (d + 3) kd mr z (nI n) (b2i hab) (nI m) (nI w) (nI a) (nI (RH r hab m w a)) (pm_ur mi (z + 21) M) ml K := by
                refine w_X12_findBrings_109 tz (s_cell rfl rfl rfl ⟨z_in (by omega) (by omega), ?_⟩)
                rw [z_cl (by omega), pm_up_ur, nI_1]
                refine ihv (a + 1) _ (by omega) fun m' w' a' hm' hw' ha' hlt => ?_
                by_cases e : clI m' w' a' = clI m w a
                · obtain ⟨rfl, rfl, rfl⟩ := clI_inj hw' (by omega) ha' (by omega) e
                  rw [if_pos rfl]
                · rw [if_neg e]
                  exact hM m' w' a' hm' hw' ha' (by have : clI m w (a + 1) = clI m w a + 1 := by unfold clI; omega
                                                    omega)
              have m0 : (nI m = 0) = (m = 0) := z_eq (b := 0) (by omega) (by omega)
              have mle : (nI m ≤ 0) = (m ≤ 0) := z_le (b := 0) (by omega) (by omega)
              refine w_X12_findBrings_21 tz ⟨fun q => absurd q (nI_nlt (a := 4) (by omega) (by omega)), fun _ => ?_⟩
              cases m with
              | zero =>
                rw [RH_0] at store
                refine w_X12_findBrings_41 tz ⟨fun q => absurd q (by decide), fun _ => ⟨fun _ => store, fun q => absurd (by decide) q⟩⟩
              | succ l1 =>
                have bd : ∀ c, c < 4 → gnC r w c + RH r hab l1 (wrN w c) c ≤ 9 * (l1 + 1) := fun c hc => by
                  have h1 := RH_le O hab l1 (wrN w c) c
                  have h2 := O.val9 hc
                  unfold gnC; omega
                rw [RH_s] at store
                have e0 : (if nI (l1 + 1) = 0 then (0 : Int32) else -1) = -1 := if_neg (by rw [m0]; omega)
                rw [e0]
                have cmds : ∀ (t c : Nat) (x6 : Int32), c + t = 4 → (x6 = nI (bsH hab a (fun c => gnC r w c + RH r hab l1 (wrN w c) c) c) ∨ (x6 = -1 ∧ bsH hab a (fun c => gnC r w c + RH r hab l1 (wrN w c) c) c = 0 ∧ (c = 0 ∨ (c = 1 ∧ a = 0)))) → c_X12_findBrings_41 l (d + 3) kd mr z (nI n) (b2i hab) (nI (l1 + 1)) (nI w) (nI a) x6 (nI c) (pm_ur mi (z + 21) M) ml K := by
                  intro t
                  induction t with
                  | zero =>
                    intro c x6 hc hx
                    have : c = 4 := by omega
                    subst this
                    refine w_X12_findBrings_41 tz ⟨fun _ => ?_, fun q => absurd (nI_le (Nat.le_refl 4) (by omega)) q⟩
                    rcases hx with rfl | ⟨-, -, h⟩
                    · exact store
                    · omega
                  | succ t iht =>
                    intro c x6 hc hx
                    have hbs := bsH_le (hab := hab) (last := a) (b := 9 * (l1 + 1)) (f := fun c => gnC r w c + RH r hab l1 (wrN w c) c) c (fun c' hc' => bd c' (by omega))
                    have hbc := bd c (by omega)
                    have nx := iht (c + 1)
                    rw [bsH_s] at nx
                    have calc67 : ¬ (hab = true ∧ c = a) → c_X12_findBrings_67 l (d + 3) kd mr z (nI n) (b2i hab) (nI (l1 + 1)) (nI w) (nI a) x6 (nI c) (pm_ur mi (z + 21) M) ml K := by
                      intro hno
                      rw [if_neg hno] at nx
                      have hwl := wrN_lt w c
                      have hci : clI l1 (wrN w c) c < clI (l1 + 1) w a := by unfold clI; omega
                      refine w_X12_findBrings_67 tz (s_gain tz (Hg M) O rfl rfl (by omega) (by omega) (s_wears rfl rfl (by omega) (by omega) (s_cell (nI_pred l1) rfl rfl ⟨z_in (by omega) (by omega), w_X12_greater (w_X12_findBrings_101 tz ?_)⟩)))
                      rw [z_cl (by omega), pm_ur_s, hM _ _ _ (by omega) hwl (by omega) hci, nI_add, nI_1]
                      refine nx _ (by omega) (Or.inl ?_)
                      rcases hx with rfl | ⟨rfl, h0, -⟩
                      · exact mx_Z9 _ _ (by omega) (by omega)
                      · rw [h0]
                        have : (-1 : Int32) ≤ nI (gnC r w c + RH r hab l1 (wrN w c) c) := by
                          rw [Int32.le_iff_toInt_le, z_toInt (by omega)]
                          have e1 : (-1 : Int32).toInt = -1 := by decide
                          omega
                        rw [if_pos this]
                        unfold mx
                        split
                        · rfl
                        · rename_i q9
                          congr 1; omega
                    refine w_X12_findBrings_41 tz ⟨fun q => absurd q (nI_ge (b := 4) (by omega) (by omega)), fun _ => ⟨fun q => absurd q (by rw [mle]; omega), fun _ => ⟨fun hb0 => calc67 fun q => ?_, fun hb1 => ?_⟩⟩⟩
                    · rw [q.1] at hb0; exact absurd hb0 (by decide)
                    · have hht : hab = true := by
                        cases hab with
                        | true => rfl
                        | false => exact absurd rfl hb1
                      rw [z_eq (by omega) (by omega)]
                      refine ⟨fun e => calc67 fun q => e q.2, fun e => w_X12_findBrings_101 tz ?_⟩
                      rw [nI_1]
                      rw [if_pos ⟨hht, e⟩] at nx
                      refine nx x6 (by omega) ?_
                      rcases hx with h | ⟨h, h0, h1⟩
                      · exact Or.inl h
                      · rcases h1 with h1 | ⟨h1, h2⟩
                        · exact Or.inr ⟨h, h0, Or.inr ⟨by omega, by omega⟩⟩
                        · omega
                exact cmds 4 0 (-1) rfl (Or.inr ⟨rfl, rfl, Or.inl rfl⟩)
          exact lasts 5 0 M rfl hM
      exact ways 625 0 M rfl hM
  have := mins (n + 1) 0 (mi (z + 21)) (by omega) (fun m w a _ _ _ hlt => by unfold clI at hlt; omega)
  rw [pm_ur_self] at this
  exact w_X12_findBrings tz this
theorem s_commandAtZ {n j : Nat} {u v : Int32} {M : Nat → Int32} {K : Int32 → pm_I → pm_L → Prop} (tz : TX12s kd mr z) (H : Hd mi z k r) (O : okC r) (hM : bnM r false M (clI n 624 4 + 1)) (hu : u = nI n) (hv : v = nI j) (hn : n ≤ 12) (hj : j < n)
    (k9 : ∀ v, vCmd r n j v → K v (pm_ur mi (z + 21) M) ml) : wI l M_X12_commandAt (d + 3) [.ref z, .int u, .int v] kd mr (pm_ur mi (z + 21) M) ml K := by
  subst hu; subst hv
  have H2 : Hd (pm_ur mi (z + 21) M) z k r := H.ur (by omega) (by omega)
  have loop : ∀ (q i w a : Nat), i + q = j + 1 → w < 625 → a < 5 → PCw r n i w → (i = 0 ∨ ∃ w0, PCw r n (i - 1) w0 ∧ isFB r (n - (i - 1) - 1) w0 a) → c_X12_commandAt_8 l (d + 3) kd mr z (nI n) (nI j) (nI w) (nI a) (nI i) (pm_ur mi (z + 21) M) ml K := by
    intro q
    induction q with
    | zero =>
      intro i w a hi hw ha hP hx
      have : i = j + 1 := by omega
      subst this
      refine w_X12_commandAt_8 tz ⟨fun _ => ?_, fun q => absurd (nI_lt (Nat.lt_succ_self j) (by omega)) q⟩
      obtain ⟨w0, g1, g2⟩ := hx.resolve_left (by omega)
      exact k9 _ ⟨w0, a, g1, g2, rfl⟩
    | succ q ih =>
      intro i w a hi hw ha hP hx
      refine w_X12_commandAt_8 tz ⟨fun q => absurd q (nI_nlt (by omega) (by omega)), fun _ => ?_⟩
      obtain ⟨c0, hc0⟩ := isFB.ex r (n - i - 1) w
      have e1 : nI n - nI i = nI (n - i) := z_sub (by omega)
      have e2 : nI (n - i) - 1 = nI (n - i - 1) := z_sub (b := 1) (by omega)
      have em : n - i - 1 + 1 = n - i := by omega
      have inner : ∀ (t c : Nat), c + t = c0 → c_X12_commandAt_17 l (d + 3) kd mr z (nI n) (nI j) (nI w) (nI a) (nI i) (nI c) (pm_ur mi (z + 21) M) ml K := by
        intro t
        induction t with
        | zero =>
          intro c hc
          have : c = c0 := by omega
          subst this
          have h4 := hc0.1
          have hwl := wrN_lt w c
          have b1 : clI (n - i - 1) (wrN w c) c < clI n 624 4 + 1 := by unfold clI; omega
          have b2 : clI (n - i) w a < clI n 624 4 + 1 := by unfold clI; omega
          have b3 : clI n 624 4 ≤ 40624 := by unfold clI; omega
          refine w_X12_commandAt_17 tz (s_gain tz H2 O rfl rfl hw h4 (s_wears rfl rfl hw h4 ?_))
          rw [e1, e2]
          refine s_cell rfl rfl rfl ⟨z_in (by omega) (by omega), s_cell rfl rfl rfl ⟨z_in (by omega) (by omega), ?_⟩⟩
          rw [z_cl (by omega), z_cl (by omega), pm_ur_s, hM _ _ _ (by omega) hwl (by omega) b1, hM _ _ _ (by omega) hw ha b2, nI_add, hc0.2.1, em, RH_any (last := a) (last' := 4)]
          refine ⟨fun _ => s_wears rfl rfl hw h4 ?_, fun e => absurd rfl e⟩
          rw [nI_1]
          exact ih (i + 1) _ c (by omega) hwl (by omega) ⟨w, c, hP, hc0, rfl⟩ (Or.inr ⟨w, hP, hc0⟩)
        | succ t iht =>
          intro c hc
          have h4 := hc0.1
          have hwl := wrN_lt w c
          have b1 : clI (n - i - 1) (wrN w c) c < clI n 624 4 + 1 := by unfold clI; omega
          have b2 : clI (n - i) w a < clI n 624 4 + 1 := by unfold clI; omega
          have b3 : clI n 624 4 ≤ 40624 := by unfold clI; omega
          have hR := RH_le O false (n - i - 1) (wrN w c) c
          have hv9 := O.val9 (show c < 4 by omega)
          have hR2 := RH_le O false (n - i) w 4
          have hgn : gnC r w c ≤ 9 := by unfold gnC; omega
          refine w_X12_commandAt_17 tz (s_gain tz H2 O rfl rfl hw (by omega) (s_wears rfl rfl hw (by omega) ?_))
          rw [e1, e2]
          refine s_cell rfl rfl rfl ⟨z_in (by omega) (by omega), s_cell rfl rfl rfl ⟨z_in (by omega) (by omega), ?_⟩⟩
          rw [z_cl (by omega), z_cl (by omega), pm_ur_s, hM _ _ _ (by omega) hwl (by omega) b1, hM _ _ _ (by omega) hw ha b2, nI_add, RH_any (last := a) (last' := 4), z_eq (by omega) (by omega)]
          refine ⟨fun e => absurd (by rw [em]; exact e) (hc0.2.2 c (by omega)), fun _ => ?_⟩
          rw [nI_1]
          exact iht (c + 1) (by omega)
      exact inner c0 0 (by omega)
  exact w_X12_commandAt tz (loop (j + 1) 0 0 4 (by omega) (by omega) (by omega) rfl (Or.inl rfl))
theorem z_k3 (k : Int32) (h : ¬ k < -2) : k = -2 ∨ k = -1 ∨ ∃ j : Nat, j < 2147483648 ∧ k = nI j := by
  rcases z_cases k with h2 | h2
  · rw [Int32.lt_iff_toInt_lt] at h h2
    have e2 : (-2 : Int32).toInt = -2 := by decide
    have e1 : (-1 : Int32).toInt = -1 := by decide
    have e0 : (0 : Int32).toInt = 0 := by decide
    rcases (show k.toInt = -2 ∨ k.toInt = -1 by omega) with q | q
    · exact Or.inl (Int32.toInt_inj.mp (q.trans e2.symm))
    · exact Or.inr (Or.inl (Int32.toInt_inj.mp (q.trans e1.symm)))
  · exact Or.inr (Or.inr h2)
theorem c_programme {a b c : Int32} (tx : TX11s kd mr x) (tz : TX12s kd mr z) (I : IV x z mi ml) : wI l M_X11_programme (d + 6) [.ref x, .int a, .int b, .int c] kd mr mi ml fun r mi1 ml1 => wI l M_X12_programme (d + 6) [.ref z, .int a, .int b, .int c] kd mr mi1 ml1 fun r2 mi2 ml2 => r = r2 ∧ IV x z mi2 ml2 := by
  have f0 : ∀ (mi : pm_I) (ml : pm_L), frZ z mi (pm_up mi z 0 0) ml ml := fun _ _ => frZ.upI (Or.inl rfl)
  have hz := I.1
  -- the reference's tests
  have tests : ∀ (mi1 : pm_I) (ml1 : pm_L) (K : Int32 → pm_I → pm_L → Prop), ((isK b 13 = false ∨ c < -2 ∨ b - 1 < c) → K (-1) (pm_up mi1 z 0 0) ml1) → (∀ n, n ≤ 12 → b = nI n → ¬ c < -2 → ¬ b - 1 < c → wB l M_X12_hand (d + 5) [.ref z, .int a] kd mr (pm_up mi1 z 0 0) ml1 (fun r9 mi10 ml11 => ((r9 = true → wV l M_X12_findBrings (d + 5) [.ref z, .int b, .int (b2i (decide (c = (-2))))] kd mr mi10 ml11 (fun mi17 ml18 => ((0 ≤ c → wI l M_X12_commandAt (d + 5) [.ref z, .int b, .int c] kd mr mi17 ml18 (fun r20 mi21 ml22 => K r20 mi21 ml22)) ∧ (¬ 0 ≤ c → wI l M_X12_cell (d + 5) [.int b, .int 0, .int 4] kd mr mi17 ml18 (fun r23 mi24 ml25 => vp_in r23 40625 ∧ K (mi24 (z + 21) (Int32.toNatClampNeg r23)) mi24 ml25))))) ∧ (r9 = false → K (-1) mi10 ml11)))) → wI l M_X12_programme (d + 6) [.ref z, .int a, .int b, .int c] kd mr mi1 ml1 K := by
    intro mi1 ml1 K k0 k1
    refine w_X12_programme tz (s_in2 (m := 12) rfl (by omega) ⟨fun h => k0 (Or.inl h), fun h => w_X12_in ?_⟩)
    obtain ⟨n, hn, hn2, hb⟩ := isK_iff.mp h
    refine ⟨fun e => k0 (Or.inr ?_), fun e => ?_⟩
    · by_cases q : c < -2
      · exact Or.inl q
      · by_cases q2 : b - 1 < c
        · exact Or.inr q2
        · simp [q, q2] at e
    · have q : ¬ c < -2 := fun q => by simp [q] at e
      have q2 : ¬ b - 1 < c := fun q2 => by simp [q2] at e
      exact k1 n (by omega) hb q q2
  have cmp : ∀ n, n ≤ 12 → b = nI n → (¬ b - 1 < c ↔ c < b) := by
    intro n hn hb
    rw [hb, Int32.lt_iff_toInt_lt, Int32.lt_iff_toInt_lt, z_toInt (by omega)]
    have e : (nI n - 1).toInt = (n : Int) - 1 := by
      cases n with
      | zero => decide
      | succ n => rw [nI_pred, z_toInt (by omega)]; omega
    omega
  refine w_X11_programme tx (q_city tx I (fun m Im h => ⟨fun _ => ?_, fun b hb => (by cases hb)⟩) (fun m k r hr Im hk ha to O C => ⟨fun h => (by cases h), fun b4 hb4 => ?_⟩))
  · exact tests mi ml _ (fun _ => ⟨rfl, I.smZ (f0 _ _)⟩) fun n hn hb _ _ => p_handN tz Im h (pm_up_row _ _ (by omega)) (pm_up_row _ _ (by omega)) ⟨fun g => (by cases g), fun _ => ⟨rfl, I.smZ (f0 _ _)⟩⟩
  · cases hb4
    have hm := Im.1
    have no : (isK b 13 = false ∨ c < -2 ∨ b - 1 < c) → wI l M_X12_programme (d + 6) [.ref z, .int a, .int b, .int c] kd mr mi ml fun r2 mi2 ml2 => -1 = r2 ∧ IV x z mi2 ml2 := by
      intro h
      refine tests mi ml _ (fun _ => ⟨rfl, I.smZ (f0 _ _)⟩) fun n hn hb h1 h2 => ?_
      rcases h with h | h | h
      · rw [hb, isK_nI (by omega)] at h; simp at h; omega
      · exact absurd h h1
      · exact absurd h h2
    refine ⟨to, fun h => no (Or.inl (isK_neg h _)), fun h => ?_⟩
    obtain ⟨n, hn, hb⟩ := (z_cases b).resolve_left h
    have q12 : ((12 : Int32) < b) = (12 < n) := by rw [hb]; exact z_lt (a := 12) (by omega) hn
    rw [q12]
    refine ⟨fun h2 => no (Or.inl (by rw [hb, isK_nI hn]; simp; omega)), fun h2 => ⟨fun h3 => no (Or.inr (Or.inl h3)), fun h3 => ⟨fun h4 => ?_, fun h4 => no (Or.inr (Or.inr ?_))⟩⟩⟩
    · have hn12 : n ≤ 12 := by omega
      -- the reference, behind the class
      have ref : ∀ v M, vPr r n c v → wI l M_X12_programme (d + 6) [.ref z, .int a, .int b, .int c] kd mr (pm_ur mi (x + 229 + 3) M) ml fun r2 mi2 ml2 => v = r2 ∧ IV x z mi2 ml2 := by
        intro v M hv
        have fx : frX x mi (pm_ur mi (x + 229 + 3) M) ml ml := frX.urI (by omega)
        refine tests _ _ _ (fun hno => ?_) fun n' hn' hb' h5 h6 => q_hand tz Im hr hk ha (by rw [pm_up_row _ _ (by omega)]; exact (fx _ (by omega)).1) (by rw [pm_up_row _ _ (by omega)]; exact (fx _ (by omega)).1) fun mi' f g1 g2 H => ⟨fun _ => ?_, fun g => (by cases g)⟩
        · exfalso
          rcases hno with h5 | h5 | h5
          · rw [hb, isK_nI (by omega)] at h5; simp at h5; omega
          · exact h3 h5
          · exact (cmp n hn12 hb).mpr h4 h5
        · have fin : ∀ v2 M2, vPr r n c v2 → v = v2 ∧ IV x z (pm_ur mi' (z + 21) M2) ml := fun v2 M2 g => ⟨hv.uniq hn12 g, (I.smX fx).smZ (((f0 _ _).tr f).tr (frZ.urI (by omega)))⟩
          refine s_findBrings tz H O hb hn12 fun M2 hM2 => ?_
          rcases z_k3 c h3 with hc | hc | ⟨j, hj, hc⟩
          · refine ⟨fun q => absurd q (by rw [hc]; decide), fun _ => s_cell (b := 0) (c := 4) hb rfl rfl ?_⟩
            have hbd : clI n 0 4 ≤ 40624 := by unfold clI; omega
            have hd : decide (c = -2) = true := decide_eq_true hc
            rw [hd] at hM2
            rw [z_cl (by omega), pm_ur_s, hM2 n 0 4 hn12 (by omega) (by omega) (by unfold clI; omega)]
            exact ⟨z_in (by omega) (by omega), fin _ _ (Or.inr (Or.inl ⟨hc, rfl⟩))⟩
          · refine ⟨fun q => absurd q (by rw [hc]; decide), fun _ => s_cell (b := 0) (c := 4) hb rfl rfl ?_⟩
            have hbd : clI n 0 4 ≤ 40624 := by unfold clI; omega
            have hd : decide (c = -2) = false := by rw [hc]; decide
            rw [hd] at hM2
            rw [z_cl (by omega), pm_ur_s, hM2 n 0 4 hn12 (by omega) (by omega) (by unfold clI; omega)]
            exact ⟨z_in (by omega) (by omega), fin _ _ (Or.inl ⟨hc, rfl⟩)⟩
          · have hjn : j < n := by
              rw [hc, hb, z_lt hj hn] at h4; exact h4
            have hd : decide (c = -2) = false := decide_eq_false fun q => by
              rw [hc] at q
              have := z_m2 hj
              exact (this ▸ (q : nI j = -nI 2)).elim
            rw [hd] at hM2
            refine ⟨fun _ => s_commandAtZ tz H O hM2 hb hc hn12 hjn fun v2 hv2 => fin _ _ (Or.inr (Or.inr ⟨j, hjn, hc, hv2⟩)), fun q => absurd (by rw [hc]; exact nI_pos' hj) q⟩
      have hT : pgT r (x + 229) (x + 1 + 7 + 19 * k + 5) mi := by
        refine ⟨fun w hw c hc => I.2.2.2.2 w hw c hc, fun c hc => ?_⟩
        rw [C.val hc, O.lit (by omega)]
      have ka : kd[x + 1 + 7 + 19 * k + 5]? = some (1, 4) := TX0s_a10 to
      refine s_plan (TX11s_a9 tx) ka O (by omega) hT hb hn12 fun M hM => ?_
      rcases z_k3 c h3 with hc | hc | ⟨j, hj, hc⟩
      · have hd : decide (c = -2) = true := decide_eq_true hc
        rw [hd] at hM
        refine ⟨fun q => absurd q (by rw [hc]; decide), fun _ => s_mostOf (TX11s_a9 tx) hM hb hn12 (ref _ _ (Or.inr (Or.inl ⟨hc, rfl⟩)))⟩
      · have hd : decide (c = -2) = false := by rw [hc]; decide
        rw [hd] at hM
        refine ⟨fun q => absurd q (by rw [hc]; decide), fun _ => s_mostOf (TX11s_a9 tx) hM hb hn12 (ref _ _ (Or.inl ⟨hc, rfl⟩))⟩
      · have hjn : j < n := by
          rw [hc, hb, z_lt hj hn] at h4; exact h4
        have hd : decide (c = -2) = false := decide_eq_false fun q => by
          rw [hc] at q
          have := z_m2 hj
          exact (this ▸ (q : nI j = -nI 2)).elim
        rw [hd] at hM
        refine ⟨fun _ => s_commandAtX (TX11s_a9 tx) ka O (by omega) hT hM hb hc hn12 hjn fun v hv => ref _ _ (Or.inr (Or.inr ⟨j, hjn, hc, hv⟩)), fun q => absurd (by rw [hc]; exact nI_pos' hj) q⟩
    · exact Classical.not_not.mp fun q => h4 ((cmp n (by omega) hb).mp q)
end PRG
