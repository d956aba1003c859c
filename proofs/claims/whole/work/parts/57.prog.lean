/-! programmes: what they bring; the class -/
def dg (w c : Nat) : Nat := w / 5 ^ c % 5
def nd (w cmd c : Nat) : Nat := if c = cmd then (if dg w c + 1 ≤ 4 then dg w c + 1 else 4) else dg w c - 1
/-- how one is worn behind a command -/
def wrN (w cmd : Nat) : Nat := nd w cmd 0 + 5 * nd w cmd 1 + 25 * nd w cmd 2 + 125 * nd w cmd 3
def gnC (r : Nat → Int32) (w c : Nat) : Nat := gN r (5 + c) - dg w c
def bsH (hab : Bool) (last : Nat) (f : Nat → Nat) : Nat → Nat
  | 0 => 0
  | c + 1 => if hab = true ∧ c = last then bsH hab last f c else mx (bsH hab last f c) (f c)
/-- the most that m minutes bring -/
def RH (r : Nat → Int32) (hab : Bool) : Nat → Nat → Nat → Nat
  | 0 => fun _ _ => 0
  | m + 1 => fun w last => bsH hab last (fun c => gnC r w c + RH r hab m (wrN w c) c) 4
theorem bsH_s (hab : Bool) (last : Nat) (f : Nat → Nat) (c : Nat) : bsH hab last f (c + 1) = if hab = true ∧ c = last then bsH hab last f c else mx (bsH hab last f c) (f c) := rfl
theorem RH_0 (r : Nat → Int32) (hab : Bool) (w last : Nat) : RH r hab 0 w last = 0 := rfl
theorem RH_s (r : Nat → Int32) (hab : Bool) (m w last : Nat) : RH r hab (m + 1) w last = bsH hab last (fun c => gnC r w c + RH r hab m (wrN w c) c) 4 := rfl
theorem bsH_congr {hab : Bool} {last : Nat} {f g : Nat → Nat} (n : Nat) (h : ∀ c, c < n → f c = g c) : bsH hab last f n = bsH hab last g n := by
  induction n with
  | zero => rfl
  | succ n ih => rw [bsH_s, bsH_s, ih (fun c hc => h c (by omega)), h n (by omega)]
theorem bsH_any {last last' : Nat} {f : Nat → Nat} (n : Nat) : bsH false last f n = bsH false last' f n := by
  induction n with
  | zero => rfl
  | succ n ih => rw [bsH_s, bsH_s, ih, if_neg (by simp), if_neg (by simp)]
theorem RH_any {r : Nat → Int32} {m w last last' : Nat} : RH r false m w last = RH r false m w last' := by
  cases m with
  | zero => rfl
  | succ m => rw [RH_s, RH_s]; exact bsH_any 4
theorem bsH_le {hab : Bool} {last b : Nat} {f : Nat → Nat} (n : Nat) (h : ∀ c, c < n → f c ≤ b) : bsH hab last f n ≤ b := by
  induction n with
  | zero => exact Nat.zero_le _
  | succ n ih =>
    rw [bsH_s]
    have h1 := ih fun c hc => h c (by omega)
    have h2 := h n (by omega)
    split
    · exact h1
    · unfold mx; split <;> omega
theorem okC.val9 {r : Nat → Int32} (O : okC r) {c : Nat} (hc : c < 4) : gN r (5 + c) ≤ 9 := O.2.2.2.2.2.2.1 c hc
theorem RH_le {r : Nat → Int32} (O : okC r) (hab : Bool) : ∀ m w last, RH r hab m w last ≤ 9 * m := by
  intro m
  induction m with
  | zero => intro w last; rw [RH_0]; omega
  | succ m ih =>
    intro w last
    rw [RH_s]
    refine bsH_le 4 fun c hc => ?_
    have h1 := ih (wrN w c) c
    have h2 := O.val9 hc
    unfold gnC
    omega
theorem dg_lt (w c : Nat) : dg w c < 5 := Nat.mod_lt _ (by omega)
theorem pg_ok : ∀ w, w < 57 → pgC.getD w 0 < 625 ∧ ∀ c, c < 4 → pgA.getD (4 * w + c) 0 < 57 ∧ pgC.getD (pgA.getD (4 * w + c) 0) 0 = wrN (pgC.getD w 0) c := by decide +kernel
theorem gn_X : ∀ v, v < 10 → ∀ w, w < 5 → (if 0 < nI v - nI w then nI v - nI w else 0) = nI (v - w) := by decide +kernel
theorem gn_Z : ∀ v, v < 10 → ∀ w, w < 5 → (if 0 ≤ nI v - nI w then nI v - nI w else 0) = nI (v - w) := by decide +kernel
def ixP (l w a : Nat) : Nat := (l * 57 + w) * 5 + a
theorem ixP_inj {l w a l' w' a' : Nat} (hw : w < 57) (hw' : w' < 57) (ha : a < 5) (ha' : a' < 5) (h : ixP l w a = ixP l' w' a') : l = l' ∧ w = w' ∧ a = a' := by
  unfold ixP at h; omega
/-- the row MOST, as far as J -/
def pgM (r : Nat → Int32) (hab : Bool) (M : Nat → Int32) (J : Nat) : Prop := ∀ l w a, l ≤ 12 → w < 57 → a < 5 → (hab = true ∨ a = 4 ∨ l = 0) → ixP l w a < J → M (ixP l w a) = nI (RH r hab l (pgC.getD w 0) a)
section PRX
variable {l : Launch} {d h o x z T a1 : Nat} {kd : pm_K} {mr : pm_R} {mi : pm_I} {ml : pm_L} {k : Nat} {r : Nat → Int32} {hab : Bool}
theorem s_indexOf {a b c : Nat} {u v w : Int32} {K : Int32 → pm_I → pm_L → Prop} (hu : u = nI a) (hv : v = nI b) (hw : w = nI c) (k9 : K (nI (ixP a b c)) mi ml) : wI l M_X4_indexOf d [.int u, .int v, .int w] kd mr mi ml K := by
  subst hu; subst hv; subst hw
  refine w_X4_indexOf ?_
  have e : (nI a * 57 + nI b) * 5 + nI c = nI (ixP a b c) := by
    rw [show nI a * (57 : Int32) = nI (a * 57) from z_mul a 57, nI_add, show nI (a * 57 + b) * (5 : Int32) = nI ((a * 57 + b) * 5) from z_mul _ 5, nI_add]; rfl
  rw [e]; exact k9
/-- the class's tables and the city's values -/
def pgT (r : Nat → Int32) (h a1 : Nat) (mi : pm_I) : Prop := (∀ w, w < 57 → ∀ c, c < 4 → mi (h + 1) (4 * w + c) = nI (dg (pgC.getD w 0) c) ∧ mi (h + 2) (4 * w + c) = nI (pgA.getD (4 * w + c) 0)) ∧ (∀ c, c < 4 → mi a1 c = nI (gN r (5 + c)))
theorem pgT.up (hT : pgT r h a1 mi) (hne : a1 ≠ h + 3) (M : Nat → Int32) : pgT r h a1 (pm_ur mi (h + 3) M) := by
  unfold pgT at hT ⊢
  rw [pm_ur_k _ _ (by omega), pm_ur_k _ _ (by omega), pm_ur_k _ _ hne]
  exact hT
theorem s_brings {l1 w c : Nat} {u v y : Int32} {M : Nat → Int32} {J : Nat} {K : Int32 → pm_I → pm_L → Prop} (th : TX4s kd mr h) (ka1 : kd[a1]? = some (1, 4)) (O : okC r) (hne : a1 ≠ h + 3) (hT : pgT r h a1 mi) (hM : pgM r hab M J) (hJ : ixP l1 56 4 < J) (hu : u = nI (l1 + 1)) (hv : v = nI w) (hy : y = nI c) (hl : l1 < 12) (hw : w < 57) (hc : c < 4)
    (k9 : K (nI (gnC r (pgC.getD w 0) c + RH r hab l1 (wrN (pgC.getD w 0) c) c)) (pm_ur mi (h + 3) M) ml) : wI l M_X4_brings (d + 1) [.ref h, .ref a1, .int u, .int v, .int y, .int (b2i hab)] kd mr (pm_ur mi (h + 3) M) ml K := by
  subst hu; subst hv; subst hy
  obtain ⟨t1, t2⟩ := hT.up hne M
  obtain ⟨p1, p2⟩ := pg_ok w hw
  obtain ⟨p3, p4⟩ := p2 c hc
  obtain ⟨t3, t4⟩ := t1 w hw c hc
  have ei : nI w * 4 + nI c = nI (4 * w + c) := by
    rw [show nI w * (4 : Int32) = nI (w * 4) from z_mul w 4, nI_add]; congr 1; omega
  have hdg := dg_lt (pgC.getD w 0) c
  have hv9 := O.val9 hc
  have hR := RH_le O hab l1 (wrN (pgC.getD w 0) c) c
  refine w_X4_brings th ka1 ?_
  rw [ei, z_cl (a := 4 * w + c) (by omega), t3, t4, z_cl (by omega), t2 c hc, gn_X _ (by omega) _ hdg, nI_pred]
  refine ⟨z_in (by omega) (by omega), z_in (by omega) (by omega), z_in (by omega) (by omega), ?_⟩
  have ea : (if hab = true then nI c else (4 : Int32)) = nI (if hab = true then c else 4) := by split <;> rfl
  rw [ea]
  have ha : (if hab = true then c else 4) < 5 := by split <;> omega
  refine s_indexOf rfl rfl rfl ?_
  have hix : ixP l1 (pgA.getD (4 * w + c) 0) (if hab = true then c else 4) ≤ ixP l1 56 4 := by unfold ixP; omega
  have hb : ixP l1 56 4 ≤ 3704 := by unfold ixP; omega
  rw [z_cl (by omega), pm_ur_s, hM _ _ _ (by omega) p3 ha (by cases hab; exact Or.inr (Or.inl rfl); exact Or.inl rfl) (by omega), p4]
  refine ⟨z_in (by omega) (by omega), ?_⟩
  have eR : RH r hab l1 (wrN (pgC.getD w 0) c) (if hab = true then c else 4) = RH r hab l1 (wrN (pgC.getD w 0) c) c := by
    cases hab with
    | false => exact RH_any
    | true => rfl
  rw [eR, nI_add]
  exact k9
theorem s_bestOf {l1 w a : Nat} {u v y : Int32} {M : Nat → Int32} {J : Nat} {K : Int32 → pm_I → pm_L → Prop} (th : TX4s kd mr h) (ka1 : kd[a1]? = some (1, 4)) (O : okC r) (hne : a1 ≠ h + 3) (hT : pgT r h a1 mi) (hM : pgM r hab M J) (hJ : ixP l1 56 4 < J) (hu : u = nI (l1 + 1)) (hv : v = nI w) (hy : y = nI a) (hl : l1 < 12) (hw : w < 57) (ha : a < 5) (hh : hab = true ∨ a = 4)
    (k9 : K (nI (RH r hab (l1 + 1) (pgC.getD w 0) a)) (pm_ur mi (h + 3) M) ml) : wI l M_X4_bestOf (d + 2) [.ref h, .ref a1, .int u, .int v, .int y, .int (b2i hab)] kd mr (pm_ur mi (h + 3) M) ml K := by
  subst hu; subst hv; subst hy
  rw [RH_s] at k9
  have bd : ∀ c, c < 4 → gnC r (pgC.getD w 0) c + RH r hab l1 (wrN (pgC.getD w 0) c) c ≤ 9 * (l1 + 1) := fun c hc => by
    have h1 := RH_le O hab l1 (wrN (pgC.getD w 0) c) c
    have h2 := O.val9 hc
    unfold gnC; omega
  have loop : ∀ (q c : Nat), c + q = 4 → c_X4_bestOf_6 l (d + 2) kd mr h a1 4 (nI (l1 + 1)) (nI w) (nI a) (b2i hab) (nI (bsH hab a (fun c => gnC r (pgC.getD w 0) c + RH r hab l1 (wrN (pgC.getD w 0) c) c) c)) (nI c) (pm_ur mi (h + 3) M) ml K := by
    intro q
    induction q with
    | zero =>
      intro c hc
      have : c = 4 := by omega
      subst this
      exact w_X4_bestOf_6 th ka1 ⟨fun _ => k9, fun q => absurd (nI_le (Nat.le_refl 4) (by omega)) q⟩
    | succ q ih =>
      intro c hc
      have nx := ih (c + 1) (by omega)
      have hbs := bsH_le (hab := hab) (last := a) (b := 9 * (l1 + 1)) (f := fun c => gnC r (pgC.getD w 0) c + RH r hab l1 (wrN (pgC.getD w 0) c) c) c (fun c' hc' => bd c' (by omega))
      have hbc := bd c (by omega)
      rw [bsH_s] at nx
      refine w_X4_bestOf_6 th ka1 ⟨fun q => absurd q (nI_ge (b := 4) (by omega) (by omega)), fun _ => ?_⟩
      rw [z_eq (by omega) (by omega)]
      refine ⟨fun e => w_X4_bestOf_37 th ka1 ?_, fun e => s_brings (hab := hab) th ka1 O hne hT hM hJ rfl rfl rfl hl hw (by omega) (w_X4_bestOf_37 th ka1 ?_)⟩
      · rw [nI_1]
        have : hab = true := hh.resolve_right (by omega)
        rw [if_pos ⟨this, e⟩] at nx
        exact nx
      · rw [mx_X9 _ _ (by omega) (by omega), nI_1]
        rw [if_neg (fun q9 => e q9.2)] at nx
        exact nx
  exact w_X4_bestOf th ka1 (loop 4 0 rfl)
theorem s_plan {n : Nat} {u : Int32} {K : pm_I → pm_L → Prop} (th : TX4s kd mr h) (ka1 : kd[a1]? = some (1, 4)) (O : okC r) (hne : a1 ≠ h + 3) (hT : pgT r h a1 mi) (hu : u = nI n) (hn : n ≤ 12)
    (k9 : ∀ M, pgM r hab M (ixP n 56 4 + 1) → K (pm_ur mi (h + 3) M) ml) : wV l M_X4_plan (d + 3) [.ref h, .ref a1, .int u, .int (b2i hab)] kd mr mi ml K := by
  subst hu
  -- minutes
  have mins : ∀ (q l1 : Nat) (M : Nat → Int32), l1 + q = n → pgM r hab M (ixP l1 56 4 + 1) → c_X4_plan_48 l (d + 3) kd mr h a1 4 (nI n) (b2i hab) (nI (l1 + 1)) (pm_ur mi (h + 3) M) ml K := by
    intro q
    induction q with
    | zero =>
      intro l1 M hl hM
      have : l1 = n := by omega
      subst this
      exact w_X4_plan_48 th ka1 ⟨fun _ => k9 M hM, fun q => absurd (nI_lt (Nat.lt_succ_self _) (by omega)) q⟩
    | succ q ih =>
      intro l1 M hl hM
      refine w_X4_plan_48 th ka1 ⟨fun q => absurd q (nI_nlt (by omega) (by omega)), fun _ => ⟨fun q => absurd q (nI_nlt (a := 12) (by omega) (by omega)), fun _ => ?_⟩⟩
      -- the ways
      have ways : ∀ (u w : Nat) (M : Nat → Int32), w + u = 57 → pgM r hab M (ixP (l1 + 1) w 0) → c_X4_plan_64 l (d + 3) kd mr h a1 4 (nI n) (b2i hab) (nI (l1 + 1)) (nI w) (pm_ur mi (h + 3) M) ml K := by
        intro u
        induction u with
        | zero =>
          intro w M hw hM
          have : w = 57 := by omega
          subst this
          refine w_X4_plan_64 th ka1 ⟨fun _ => ?_, fun q => absurd (nI_le (Nat.le_refl 57) (by omega)) q⟩
          rw [nI_1]
          exact ih (l1 + 1) M (by omega) (by rw [show ixP (l1 + 1) 56 4 + 1 = ixP (l1 + 1) 57 0 by unfold ixP; omega]; exact hM)
        | succ u ihu =>
          intro w M hw hM
          refine w_X4_plan_64 th ka1 ⟨fun q => absurd q (nI_ge (b := 57) (by omega) (by omega)), fun _ => ?_⟩
          have lasts : ∀ (v a : Nat) (M : Nat → Int32), a + v = 5 → (hab = true ∨ 4 ≤ a) → pgM r hab M (ixP (l1 + 1) w a) → c_X4_plan_82 l (d + 3) kd mr h a1 4 (nI n) (b2i hab) (nI (l1 + 1)) (nI w) (nI a) (pm_ur mi (h + 3) M) ml K := by
            intro v
            induction v with
            | zero =>
              intro a M ha hh hM
              have : a = 5 := by omega
              subst this
              refine w_X4_plan_82 th ka1 ⟨fun _ => ?_, fun q => absurd (nI_le (Nat.le_refl 5) (by omega)) q⟩
              rw [nI_1]
              exact ihu (w + 1) M (by omega) (by rw [show ixP (l1 + 1) (w + 1) 0 = ixP (l1 + 1) w 5 by unfold ixP; omega]; exact hM)
            | succ v ihv =>
              intro a M ha hh hM
              have hb : ixP (l1 + 1) w a ≤ 3704 := by unfold ixP; omega
              refine w_X4_plan_82 th ka1 ⟨fun q => absurd q (nI_ge (b := 5) (by omega) (by omega)), fun _ => s_indexOf rfl rfl rfl (s_bestOf th ka1 O hne hT hM (by unfold ixP; omega) rfl rfl rfl (by omega) (by omega) (by omega) (hh.imp_right fun q => by omega) ?_)⟩
              refine ⟨z_in (by omega) (by omega), ?_⟩
              rw [z_cl (by omega), pm_up_ur, nI_1]
              refine ihv (a + 1) _ (by omega) (hh.imp_right fun q => by omega) fun l' w' a' hl' hw' ha' hh' hlt => ?_
              by_cases e : ixP l' w' a' = ixP (l1 + 1) w a
              · obtain ⟨rfl, rfl, rfl⟩ := ixP_inj hw' (by omega) ha' (by omega) e
                rw [if_pos rfl]
              · rw [if_neg e]
                exact hM l' w' a' hl' hw' ha' hh' (by have : ixP (l1 + 1) w (a + 1) = ixP (l1 + 1) w a + 1 := by unfold ixP; omega
                                                      omega)
          cases hab with
          | false =>
            refine lasts 1 4 M rfl (Or.inr (Nat.le_refl 4)) fun l' w' a' hl' hw' ha' hh' hlt => ?_
            refine hM l' w' a' hl' hw' ha' hh' (Nat.lt_of_not_le fun q => ?_)
            have hh' : a' = 4 ∨ l' = 0 := hh'.resolve_left (by decide)
            unfold ixP at q hlt
            omega
          | true => exact lasts 5 0 M rfl (Or.inl rfl) hM
      exact ways 57 0 M rfl (by rw [show ixP (l1 + 1) 0 0 = ixP l1 56 4 + 1 by unfold ixP; omega]; exact hM)
  -- the row of no minutes
  have zero : ∀ (q w : Nat) (M : Nat → Int32), w + q = 57 → pgM r hab M (ixP 0 w 0) → c_X4_plan_3 l (d + 3) kd mr h a1 4 (nI n) (b2i hab) (nI w) (pm_ur mi (h + 3) M) ml K := by
    intro q
    induction q with
    | zero =>
      intro w M hw hM
      have : w = 57 := by omega
      subst this
      refine w_X4_plan_3 th ka1 ⟨fun _ => ?_, fun q => absurd (nI_le (Nat.le_refl 57) (by omega)) q⟩
      exact mins n 0 M (by omega) (by rw [show ixP 0 56 4 + 1 = ixP 0 57 0 by unfold ixP; omega]; exact hM)
    | succ q ih =>
      intro w M hw hM
      refine w_X4_plan_3 th ka1 ⟨fun q => absurd q (nI_ge (b := 57) (by omega) (by omega)), fun _ => ?_⟩
      have lasts : ∀ (v a : Nat) (M : Nat → Int32), a + v = 5 → pgM r hab M (ixP 0 w a) → c_X4_plan_13 l (d + 3) kd mr h a1 4 (nI n) (b2i hab) (nI w) (nI a) (pm_ur mi (h + 3) M) ml K := by
        intro v
        induction v with
        | zero =>
          intro a M ha hM
          have : a = 5 := by omega
          subst this
          refine w_X4_plan_13 th ka1 ⟨fun _ => ?_, fun q => absurd (nI_le (Nat.le_refl 5) (by omega)) q⟩
          rw [nI_1]
          exact ih (w + 1) M (by omega) (by rw [show ixP 0 (w + 1) 0 = ixP 0 w 5 by unfold ixP; omega]; exact hM)
        | succ v ihv =>
          intro a M ha hM
          have hb : ixP 0 w a ≤ 3704 := by unfold ixP; omega
          refine w_X4_plan_13 th ka1 ⟨fun q => absurd q (nI_ge (b := 5) (by omega) (by omega)), fun _ => s_indexOf (a := 0) rfl rfl rfl ⟨z_in (by omega) (by omega), ?_⟩⟩
          rw [z_cl (by omega), pm_up_ur, nI_1]
          refine ihv (a + 1) _ (by omega) fun l' w' a' hl' hw' ha' hh' hlt => ?_
          by_cases e : ixP l' w' a' = ixP 0 w a
          · obtain ⟨rfl, rfl, rfl⟩ := ixP_inj hw' (by omega) ha' (by omega) e
            rw [if_pos rfl, RH_0]; rfl
          · rw [if_neg e]
            exact hM l' w' a' hl' hw' ha' hh' (by have : ixP 0 w (a + 1) = ixP 0 w a + 1 := by unfold ixP; omega
                                                  omega)
      exact lasts 5 0 M rfl hM
  have := zero 57 0 (mi (h + 3)) rfl (fun l' w' a' _ _ _ _ hlt => by unfold ixP at hlt; omega)
  rw [pm_ur_self] at this
  exact w_X4_plan th ka1 this
end PRX
