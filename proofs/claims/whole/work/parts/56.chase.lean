/-! chase: the class's sets; through and through -/
theorem cellC_op {r : Nat → Int32} (O : okC r) {a p : Nat} (ha : (a = 9 ∧ p < gN r 3) ∨ (a = 27 ∧ p < gN r 4)) : wlC r (cellC r a p) = false := by
  have key : gN r (a + 6 + p) < gN r 0 ∧ (gN r (45 + gN r (a + 12 + p))).testBit (gN r (a + 6 + p)) = false := by
    rcases ha with ⟨rfl, h⟩ | ⟨rfl, h⟩
    · obtain ⟨-, h1, h2, h3⟩ := O.2.2.2.2.2.2.2.1 p h
      exact ⟨h1, h3⟩
    · obtain ⟨-, h1, h2, h3⟩ := O.2.2.2.2.2.2.2.2.1 p h
      exact ⟨h1, h3⟩
  have : cellC r a p = clC r (gN r (a + 6 + p)) (gN r (a + 12 + p)) := rfl
  rw [this, wlC_xy key.1]; exact key.2
theorem b2_or (a b : Bool) : b2i a ||| b2i b = b2i (a || b) := by cases a <;> cases b <;> decide
def hlC (r : Nat → Int32) (n p q : Nat) : Prop := p = q ∨ ∀ q', nbC r q q' → ctC r n p q'
/-- row A tells, for each open spot of the player, where he is sure to catch in n turns -/
def cgt (r : Nat → Int32) (n : Nat) (A : Nat → Int64) (p : Nat) : Prop := cS r (A (spC r p)) fun q => wlC r q = false ∧ ctC r n p q
def v2 (ml : pm_L) (h : Nat) (A B : Nat → Int64) : pm_L := pm_ur (pm_ur ml (h + 5) A) (h + 6) B
section V2
variable {ml : pm_L} {h : Nat} {A B : Nat → Int64}
theorem v2_5 : v2 ml h A B (h + 5) = A := by unfold v2; rw [pm_ur_k _ _ (by omega), pm_ur_s]
theorem v2_6 : v2 ml h A B (h + 6) = B := by unfold v2; rw [pm_ur_s]
theorem v2_o {b : Nat} (hb : b ≠ h + 5) (hb2 : b ≠ h + 6) : v2 ml h A B b = ml b := by unfold v2; rw [pm_ur_k _ _ hb2, pm_ur_k _ _ hb]
theorem v2_u5 {j : Nat} {v : Int64} : pm_up (v2 ml h A B) (h + 5) j v = v2 ml h (setF A j v) B := by
  unfold v2
  rw [ur_up _ _ _ (by omega), pm_up_ur]; rfl
theorem v2_u6 {j : Nat} {v : Int64} : pm_up (v2 ml h A B) (h + 6) j v = v2 ml h A (setF B j v) := by
  unfold v2
  rw [pm_up_ur]; rfl
theorem v2_self : v2 ml h (ml (h + 5)) (ml (h + 6)) = ml := by
  unfold v2
  rw [pm_ur_self, pm_ur_self]
end V2
def vCa (r : Nat → Int32) (b c : Int32) : Int32 → Prop := vK b (gN r 3) (-1) fun p => vK c (gN r 4) (-1) fun q => vCh r (cellC r 9 p) (cellC r 27 q)
theorem vCa.uniq {r : Nat → Int32} {b c v v' : Int32} (h1 : vCa r b c v) (h2 : vCa r b c v') : v = v' := by
  unfold vCa at h1 h2
  refine vK_uniq (fun p v v' _ g1 g2 => ?_) h1 h2
  refine vK_uniq (fun q v v' _ g1 g2 => ?_) g1 g2
  exact g1.uniq g2
section CHX
variable {l : Launch} {d h o x z T : Nat} {kd : pm_K} {mr : pm_R} {mi : pm_I} {ml : pm_L} {k : Nat} {r : Nat → Int32}
theorem cS_dif2 {op v : Int64} {P : Nat → Prop} (h : cS r op P) : cS r (op &&& (v ^^^ (-1))) fun c => P c ∧ bl v (spC r c) = false := fun s hs => by
  rw [bl_not, Bool.and_eq_true, Bool.not_eq_true', h s hs]
  constructor
  · rintro ⟨⟨h1, h2⟩, h3⟩
    exact ⟨h1, h2, by rw [spC_ceS h1]; exact h3⟩
  · rintro ⟨h1, h2, h3⟩
    rw [spC_ceS h1] at h3
    exact ⟨⟨h1, h2⟩, h3⟩
theorem s_heldAround {n p : Nat} {y : Int32} {op : Int64} {A B : Nat → Int64} {K : Int64 → pm_I → pm_L → Prop} (th : TX2s kd mr h) (O : okC r) (hop : ∀ s, s < 64 → bl op s = opS r s) (hB : ∀ p, p < cells r → wlC r p = false → cS r (B (spC r p)) fun q => wlC r q = false ∧ hlC r n p q) (hy : y = nI (spC r p)) (hp : p < cells r) (hpo : wlC r p = false)
    (k9 : ∀ v, cS r v (fun q => wlC r q = false ∧ ctC r (n + 1) p q) → K v mi (v2 ml h A B)) : wL l M_X2_heldAround (d + 3) [.ref h, .long op, .int y] kd mr mi (v2 ml h A B) K := by
  subst hy
  have hs := (spC_in O hp).2.2
  refine w_X2_heldAround th ⟨z_in hs (by omega), ?_⟩
  rw [z_cl (by omega), v2_6]
  have loop : ∀ (u w : Nat) (v : Int64), w + u = 4 → cS r v (fun q => wlC r q = false ∧ ∃ p', (p' = p ∨ ∃ w', w' < w ∧ fre r p w' = some p') ∧ hlC r n p' q) → c_X2_heldAround_11 l (d + 3) kd mr h op (nI (spC r p)) v (nI w) mi (v2 ml h A B) K := by
    intro u
    induction u with
    | zero =>
      intro w v hw hv
      have : w = 4 := by omega
      subst this
      exact w_X2_heldAround_11 th ⟨fun _ => k9 v hv, fun q => absurd (nI_le (Nat.le_refl 4) (by omega)) q⟩
    | succ u ih =>
      intro w v hw hv
      refine w_X2_heldAround_11 th ⟨fun q => absurd q (nI_ge (b := 4) (by omega) (by omega)), fun _ => s_nextSpot O hop rfl hp rfl (by omega) ?_⟩
      cases hn : fre r p w with
      | none =>
        refine ⟨fun _ => w_X2_heldAround_44 th ?_, fun q => absurd rfl q⟩
        rw [nI_1]
        refine ih (w + 1) v (by omega) (hv.congr fun q _ => ?_)
        constructor
        · rintro ⟨h1, p', h2, h3⟩
          exact ⟨h1, p', h2.imp_right fun ⟨w', a, b⟩ => ⟨w', by omega, b⟩, h3⟩
        · rintro ⟨h1, p', h2, h3⟩
          refine ⟨h1, p', ?_, h3⟩
          rcases h2 with h2 | ⟨w', a, b⟩
          · exact Or.inl h2
          · by_cases e : w' = w
            · subst e; rw [hn] at b; cases b
            · exact Or.inr ⟨w', by omega, b⟩
      | some t =>
        have ht := fre_lt O hp hn
        have hto := (fre_iff.mp hn).2
        have hts := (spC_in O ht).2.2
        refine ⟨fun q => absurd q (z_eq1 (by omega)), fun _ => ⟨z_in hts (by omega), w_X2_heldAround_44 th ?_⟩⟩
        show c_X2_heldAround_11 l (d + 3) kd mr h op (nI (spC r p)) (v ||| v2 ml h A B (h + 6) (nI (spC r t)).toNatClampNeg) (nI w + 1) mi (v2 ml h A B) K
        rw [nI_1, z_cl (by omega), v2_6]
        refine ih (w + 1) _ (by omega) ((cS_or hv (hB t ht hto)).congr fun q _ => ?_)
        constructor
        · rintro (⟨h1, p', h2, h3⟩ | ⟨h1, h2⟩)
          · exact ⟨h1, p', h2.imp_right fun ⟨w', a, b⟩ => ⟨w', by omega, b⟩, h3⟩
          · exact ⟨h1, t, Or.inr ⟨w, by omega, hn⟩, h2⟩
        · rintro ⟨h1, p', h2, h3⟩
          rcases h2 with h2 | ⟨w', a, b⟩
          · exact Or.inl ⟨h1, p', Or.inl h2, h3⟩
          · by_cases e : w' = w
            · subst e; rw [hn] at b; cases b; exact Or.inr ⟨h1, h3⟩
            · exact Or.inl ⟨h1, p', Or.inr ⟨w', by omega, b⟩, h3⟩
  refine loop 4 0 _ rfl ((hB p hp hpo).congr fun q _ => ⟨fun ⟨h1, h2⟩ => ⟨h1, p, Or.inl rfl, h2⟩, ?_⟩)
  rintro ⟨h1, p', h2, h3⟩
  rcases h2 with rfl | ⟨w', a, -⟩
  · exact ⟨h1, h3⟩
  · omega
theorem s_addTurn {n : Nat} {op : Int64} {A B : Nat → Int64} {K : Bool → pm_I → pm_L → Prop} (th : TX2s kd mr h) (O : okC r) (hop : ∀ s, s < 64 → bl op s = opS r s) (hA : ∀ p, p < cells r → wlC r p = false → cgt r n A p)
    (k9 : ∀ b A' B', (∀ p, p < cells r → wlC r p = false → cgt r (n + 1) A' p) → (b = false → ∀ p q, p < cells r → q < cells r → wlC r p = false → wlC r q = false → ctC r (n + 1) p q → ctC r n p q) → K b mi (v2 ml h A' B')) : wB l M_X2_addTurn (d + 4) [.ref h, .long op] kd mr mi (v2 ml h A B) K := by
  -- the second pass
  have second : ∀ (B : Nat → Int64), (∀ p, p < cells r → wlC r p = false → cS r (B (spC r p)) fun q => wlC r q = false ∧ hlC r n p q) → ∀ (u s : Nat) (A' : Nat → Int64) (b : Bool), s + u = 64 → (∀ p, p < cells r → wlC r p = false → cgt r (if spC r p < s then n + 1 else n) A' p) → (b = false → ∀ p q, spC r p < s → p < cells r → q < cells r → wlC r p = false → wlC r q = false → ctC r (n + 1) p q → ctC r n p q) → c_X2_addTurn_56 l (d + 4) kd mr h op (b2i b) (nI s) mi (v2 ml h A' B) K := by
    intro B hB u
    induction u with
    | zero =>
      intro s A' b hs hA' hb
      have : s = 64 := by omega
      subst this
      refine w_X2_addTurn_56 th ⟨fun _ => ⟨b, rfl, k9 b A' B (fun p hp hpo => ?_) fun e p q hp => hb e p q (spC_in O hp).2.2 hp⟩, fun q => absurd (nI_le (Nat.le_refl 64) (by omega)) q⟩
      have := hA' p hp hpo
      rw [if_pos (spC_in O hp).2.2] at this; exact this
    | succ u ih =>
      intro s A' b hs hA' hb
      refine w_X2_addTurn_56 th ⟨fun q => absurd q (nI_ge (b := 64) (by omega) (by omega)), fun _ => s_hasX rfl (by omega) ?_⟩
      rw [hop s (by omega)]
      refine ⟨fun hno => w_X2_addTurn_111 th ?_, fun hyes => ?_⟩
      · rw [nI_1]
        have hne : ∀ p, p < cells r → wlC r p = false → spC r p ≠ s := fun p hp hpo e => by
          rw [← e, opS_sp O hp, hpo] at hno; cases hno
        refine ih (s + 1) A' b (by omega) (fun p hp hpo => ?_) (fun e p q hps hp hq hpo hqo => hb e p q ?_ hp hq hpo hqo)
        · have := hA' p hp hpo
          have h1 := hne p hp hpo
          by_cases q : spC r p < s
          · rw [if_pos q] at this; rw [if_pos (by omega)]; exact this
          · rw [if_neg q] at this; rw [if_neg (by omega)]; exact this
        · have := hne p hp hpo; omega
      · obtain ⟨hi, hwo⟩ := opS_iff.mp hyes
        have hp0 := ceS_lt hi
        have es := spC_ceS hi
        generalize ceS r s = p0 at hwo hp0 es
        subst es
        refine s_heldAround th O hop hB rfl hp0 hwo fun v hv => ⟨z_in (by omega) (by omega), z_in (by omega) (by omega), w_X2_addTurn_111 th ?_⟩
        rw [z_cl (by omega), v2_5, v2_u5, nI_1, b2_or]
        have hA0 := hA' p0 hp0 hwo
        rw [if_neg (Nat.lt_irrefl _)] at hA0
        refine ih (spC r p0 + 1) _ _ (by omega) (fun p hp hpo => ?_) (fun e p q hps hp hq hpo hqo hc => ?_)
        · unfold cgt
          by_cases e : p = p0
          · subst e
            rw [setF_s, if_pos (by omega)]; exact hv
          · rw [setF_n _ _ (fun q => e (spC_inj O hp hp0 q))]
            have := hA' p hp hpo
            have hne : spC r p ≠ spC r p0 := fun q => e (spC_inj O hp hp0 q)
            by_cases q : spC r p < spC r p0
            · rw [if_pos q] at this; rw [if_pos (by omega)]; exact this
            · rw [if_neg q] at this; rw [if_neg (by omega)]; exact this
        · rw [Bool.or_eq_false_iff] at e
          obtain ⟨e1, e2⟩ := e
          by_cases e3 : p = p0
          · subst e3
            have e4 : v = A' (spC r p) := by
              rw [Bool.not_eq_false', decide_eq_true_eq, lg_eq] at e2
              exact e2
            have := (hv.ne hA0 O e4 hq).mp ⟨hqo, hc⟩
            exact this.2
          · have hne : spC r p ≠ spC r p0 := fun q => e3 (spC_inj O hp hp0 q)
            exact hb e1 p q (by omega) hp hq hpo hqo hc
  -- the first pass
  have first : ∀ (u s : Nat) (B : Nat → Int64), s + u = 64 → (∀ p, p < cells r → wlC r p = false → spC r p < s → cS r (B (spC r p)) fun q => wlC r q = false ∧ hlC r n p q) → c_X2_addTurn_2 l (d + 4) kd mr h op (nI s) mi (v2 ml h A B) K := by
    intro u
    induction u with
    | zero =>
      intro s B hs hB
      have : s = 64 := by omega
      subst this
      refine w_X2_addTurn_2 th ⟨fun _ => second B (fun p hp hpo => hB p hp hpo (spC_in O hp).2.2) 64 0 A false rfl (fun p hp hpo => by rw [if_neg (by omega)]; exact hA p hp hpo) (fun _ p q hps => by omega), fun q => absurd (nI_le (Nat.le_refl 64) (by omega)) q⟩
    | succ u ih =>
      intro s B hs hB
      refine w_X2_addTurn_2 th ⟨fun q => absurd q (nI_ge (b := 64) (by omega) (by omega)), fun _ => ⟨z_in (by omega) (by omega), ?_⟩⟩
      rw [z_cl (by omega), v2_5]
      refine s_grown O hop (cS_dif2 (cS_open hop)) fun gr hgr => s_only rfl (by omega) fun y hy => ⟨z_in (by omega) (by omega), ?_⟩
      rw [v2_u6, nI_1]
      refine ih (s + 1) _ (by omega) fun p hp hpo hps => ?_
      by_cases e : spC r p = s
      · subst e
        rw [setF_s]
        have hAp := hA p hp hpo
        refine (cS_or (cS_diff (cS_open hop) hgr) (cS_only O hp hy)).congr fun q hq => ?_
        have hbit : ∀ c, c < cells r → wlC r c = false → (bl (A (spC r p)) (spC r c) = false ↔ ¬ ctC r n p c) := by
          intro c hc hco
          have := hAp.sp O hc
          constructor
          · intro h1 h2
            rw [this.mpr ⟨hco, h2⟩] at h1; cases h1
          · intro h1
            cases e : bl (A (spC r p)) (spC r c) with
            | false => rfl
            | true => exact absurd (this.mp e).2 h1
        constructor
        · rintro (⟨h1, h2⟩ | rfl)
          · refine ⟨h1, Or.inr fun q' hq' => Classical.byContradiction fun hno => h2 ?_⟩
            rcases hq' with rfl | ⟨w, w1, w2⟩
            · exact Or.inl ⟨h1, (hbit _ hq h1).mpr hno⟩
            · have hq'l := fre_lt O hq w2
              have hq'o := (fre_iff.mp w2).2
              exact Or.inr ⟨q', (w + 2) % 4, by omega, hq'l, ⟨hq'o, (hbit _ hq'l hq'o).mpr hno⟩, fre_back O hq w1 h1 w2⟩
          · exact ⟨hpo, Or.inl rfl⟩
        · rintro ⟨h1, h2⟩
          rcases h2 with rfl | h2
          · exact Or.inr rfl
          · refine Or.inl ⟨h1, ?_⟩
            rintro (⟨-, h3⟩ | ⟨c, w, w1, hc, ⟨hco, h3⟩, w2⟩)
            · exact (hbit _ hq h1).mp h3 (h2 q (Or.inl rfl))
            · exact (hbit _ hc hco).mp h3 (h2 c (Or.inr ⟨(w + 2) % 4, by omega, fre_back O hc w1 hco w2⟩))
      · rw [setF_n _ _ e]; exact hB p hp hpo (by omega)
  exact w_X2_addTurn th (first 64 0 B rfl fun p _ _ h => by omega)
theorem s_turns {p q : Nat} {y v : Int32} {op : Int64} {K : Int32 → pm_I → pm_L → Prop} (th : TX2s kd mr h) (O : okC r) (hop : ∀ s, s < 64 → bl op s = opS r s) (hy : y = nI (spC r p)) (hv : v = nI (spC r q)) (hp : p < cells r) (hq : q < cells r) (hpo : wlC r p = false) (hqo : wlC r q = false)
    (k9 : ∀ v A B, vCh r p q v → K v mi (v2 ml h A B)) : wI l M_X2_turnsToCatch (d + 5) [.ref h, .long op, .int y, .int v] kd mr mi ml K := by
  subst hy; subst hv
  have hs := (spC_in O hp).2.2
  have hs2 := (spC_in O hq).2.2
  have main : ∀ (u n : Nat) (A B : Nat → Int64), n + u = 4097 → (∀ p, p < cells r → wlC r p = false → cgt r n A p) → (∀ m, m < n → ¬ ctC r m p q) → c_X2_turnsToCatch_31 l (d + 5) kd mr h op (nI (spC r p)) (nI (spC r q)) (nI n) mi (v2 ml h A B) K := by
    intro u
    induction u with
    | zero =>
      intro n A B hn hA hno
      refine w_X2_turnsToCatch_31 th ⟨fun _ => k9 _ _ _ (Or.inl ⟨fun k hk => ?_, rfl⟩), fun q => absurd (nI_lt (a := 4096) (by omega) (by omega)) q⟩
      obtain ⟨j, j1, j2⟩ := ctC.stab O hp hpo
      exact hno j (by omega) (j2 k p q hp hq hpo hqo hk)
    | succ u ih =>
      intro n A B hn hA hno
      refine w_X2_turnsToCatch_31 th ⟨fun q => absurd q (nI_nlt (a := 4096) (by omega) (by omega)), fun _ => ⟨z_in hs (by omega), s_hasX rfl hs2 ?_⟩⟩
      rw [z_cl (by omega), v2_5]
      have hc := (hA p hp hpo).sp O hq
      refine ⟨fun hf => ?_, fun ht => k9 _ _ _ (Or.inr ⟨n, rfl, (hc.mp ht).2, fun k hk => Nat.le_of_not_lt fun q9 => hno k q9 hk⟩)⟩
      have hn0 : ¬ ctC r n p q := fun q9 => by rw [hc.mpr ⟨hqo, q9⟩] at hf; cases hf
      refine s_addTurn th O hop hA fun b A' B' hA' hb => ⟨fun _ => ?_, fun e => k9 _ _ _ (Or.inl ⟨fun k hk => hn0 (ctC.closed O (fun p q hp hq hpo hqo h => hb e p q hp hq hpo hqo h) k p q hp hq hpo hqo hk), rfl⟩)⟩
      rw [nI_1]
      refine ih (n + 1) A' B' (by omega) hA' fun m hm => ?_
      by_cases e : m = n
      · subst e; exact hn0
      · exact hno m (by omega)
  have init : ∀ (u s : Nat) (A : Nat → Int64), s + u = 64 → (∀ p, p < cells r → wlC r p = false → spC r p < s → cgt r 0 A p) → c_X2_turnsToCatch_3 l (d + 5) kd mr h op (nI (spC r p)) (nI (spC r q)) (nI s) mi (v2 ml h A (ml (h + 6))) K := by
    intro u
    induction u with
    | zero =>
      intro s A hs hA
      have : s = 64 := by omega
      subst this
      exact w_X2_turnsToCatch_3 th ⟨fun _ => main 4097 0 A _ (by omega) (fun p hp hpo => hA p hp hpo (spC_in O hp).2.2) (fun m hm => by omega), fun q => absurd (nI_le (Nat.le_refl 64) (by omega)) q⟩
    | succ u ih =>
      intro s A hs hA
      refine w_X2_turnsToCatch_3 th ⟨fun q => absurd q (nI_ge (b := 64) (by omega) (by omega)), fun _ => s_only rfl (by omega) fun y hy => ⟨z_in (by omega) (by omega), ?_⟩⟩
      rw [z_cl (by omega), v2_u5, nI_1]
      refine ih (s + 1) _ (by omega) fun p hp hpo hps => ?_
      unfold cgt
      by_cases e : spC r p = s
      · subst e
        rw [setF_s]
        refine (cS_only O hp hy).congr fun q _ => ?_
        constructor
        · rintro rfl; exact ⟨hpo, rfl⟩
        · rintro ⟨-, h⟩; exact (show p = q from h).symm
      · rw [setF_n _ _ e]; exact hA p hp hpo (by omega)
  have := init 64 0 (ml (h + 5)) rfl fun p _ _ h => by omega
  rw [v2_self] at this
  exact w_X2_turnsToCatch th this
theorem c_chase {a b c : Int32} (tx : TX11s kd mr x) (tz : TX12s kd mr z) (I : IV x z mi ml) : wI l M_X11_chase (d + 6) [.ref x, .int a, .int b, .int c] kd mr mi ml fun r mi1 ml1 => wI l M_X12_chase (d + 6) [.ref z, .int a, .int b, .int c] kd mr mi1 ml1 fun r2 mi2 ml2 => r = r2 ∧ IV x z mi2 ml2 := by
  have f0 : ∀ (mi : pm_I) (ml : pm_L), frZ z mi (pm_up mi z 0 0) ml ml := fun _ _ => frZ.upI (Or.inl rfl)
  have hz := I.1
  refine w_X11_chase tx (q_city tx I (fun m Im h => ⟨fun _ => ?_, fun b hb => (by cases hb)⟩) (fun m k r hr Im hk ha to O C => ⟨fun h => (by cases h), fun b4 hb4 => ?_⟩))
  · exact w_X12_chase tz (p_handN tz Im h (pm_up_row _ _ (by omega)) (pm_up_row _ _ (by omega)) ⟨fun _ => ⟨rfl, I.smZ (f0 _ _)⟩, fun g => (by cases g)⟩)
  · cases hb4
    have hm := Im.1
    have hw := O.w
    have h3 := O.2.2.2.2.1
    have h4 := O.2.2.2.2.2.1
    have ref : ∀ v mi1 ml1, vCa r b c v → frX x mi mi1 ml ml1 → wI l M_X12_chase (d + 6) [.ref z, .int a, .int b, .int c] kd mr mi1 ml1 fun r2 mi2 ml2 => v = r2 ∧ IV x z mi2 ml2 := by
      intro v mi1 ml1 hv fx
      refine w_X12_chase tz (q_hand tz Im hr hk ha (by rw [pm_up_row _ _ (by omega)]; exact (fx _ (by omega)).1) (by rw [pm_up_row _ _ (by omega)]; exact (fx _ (by omega)).1) fun mi' f g1 g2 H => ⟨fun g => (by cases g), fun _ => ?_⟩)
      have fin : ∀ v2 mi2, vCa r b c v2 → frZ z mi' mi2 ml1 ml1 → v = v2 ∧ IV x z mi2 ml1 := fun v2 mi2 g1 g2 => ⟨hv.uniq g1, (I.smX fx).smZ (((f0 _ _).tr f).tr g2)⟩
      refine s_isPlayer tz H O ⟨fun h => fin _ _ (vK_no h) frZ.rf, fun h => ?_⟩
      obtain ⟨p, hp, hp2, rfl⟩ := isK_iff.mp h
      refine s_isPerson tz H O ⟨fun h => ?_, fun h => fin _ _ (vK_yes hp hp2 rfl (vK_no h)) frZ.rf⟩
      obtain ⟨q, hq, hq2, rfl⟩ := isK_iff.mp h
      obtain ⟨c1, -⟩ := cellC_lt O (Or.inl ⟨rfl, hp⟩)
      obtain ⟨c2, -⟩ := cellC_lt O (Or.inr ⟨rfl, hq⟩)
      have o1 := cellC_op O (Or.inl ⟨rfl, hp⟩)
      have o2 := cellC_op O (Or.inr ⟨rfl, hq⟩)
      obtain ⟨e1, e2, e3⟩ := pr_ok O c1 c2
      refine s_findChase tz H O fun g a T hJ hT => ?_
      have H2 : Hd (w2 mi' z g a) z k r := H.sm fun b hb => w2_o (by omega) (by omega)
      have F2 : frZ z mi' (w2 mi' z g a) ml1 ml1 := fun a ha => ⟨w2_o (by omega) (by omega), rfl⟩
      refine s_cellOf (a := 9) tz H2 O rfl rfl (by omega) (by omega) (s_cellOf (a := 27) tz H2 O rfl rfl (by omega) (by omega) ?_)
      have ea : (64 : Int32) * nI (cellC r 9 p) + nI (cellC r 27 q) = nI (64 * cellC r 9 p + cellC r 27 q) := by
        rw [show (64 : Int32) * nI (cellC r 9 p) = nI (64 * cellC r 9 p) from z_mul 64 _, nI_add]
      obtain ⟨t1, t2⟩ := hJ.1 (64 * cellC r 9 p + cellC r 27 q) (by omega)
      have c9 : (nI (T (64 * cellC r 9 p + cellC r 27 q)) < (1000000 : Int32)) = (T (64 * cellC r 9 p + cellC r 27 q) < 1000000) := z_lt (b := 1000000) (by omega) (by omega)
      rw [ea, z_cl (by omega), w2_19, t1]
      refine ⟨z_in (by omega) (by omega), fin _ _ (vK_yes hp hp2 rfl (vK_yes hq hq2 rfl ?_)) F2⟩
      have g1 := hJ.2.1 _ e3 (by rw [e1]; exact o1) (by rw [e2]; exact o2)
      have g2 := fun n => hT _ n e3 (by rw [e1]; exact o1) (by rw [e2]; exact o2)
      rw [e1, e2] at g1 g2
      by_cases q9 : nI (T (64 * cellC r 9 p + cellC r 27 q)) < (1000000 : Int32)
      · rw [if_pos q9]
        exact Or.inr ⟨_, rfl, g1 (c9.mp q9), fun k hk => g2 k hk⟩
      · rw [if_neg q9]
        refine Or.inl ⟨fun k hk => ?_, rfl⟩
        obtain ⟨j, j1, j2⟩ := ctC.stab O c1 o1
        have h1 := g2 j (j2 k _ _ c1 c2 o1 o2 hk)
        exact q9 (c9.mpr (by omega))
    refine ⟨to, s_hasPlayer to C O ⟨fun h => ref _ _ _ (vK_no h) frX.rf, fun h => ?_⟩⟩
    obtain ⟨p, hp, hp2, hpb⟩ := isK_iff.mp h
    refine s_hasPerson to C O ⟨fun h => ?_, fun h => ref _ _ _ (vK_yes hp hp2 hpb (vK_no h)) frX.rf⟩
    obtain ⟨q, hq, hq2, hqc⟩ := isK_iff.mp h
    obtain ⟨c1, c1'⟩ := cellC_lt O (Or.inl ⟨rfl, hp⟩)
    obtain ⟨c2, c2'⟩ := cellC_lt O (Or.inr ⟨rfl, hq⟩)
    have o1 := cellC_op O (Or.inl ⟨rfl, hp⟩)
    have o2 := cellC_op O (Or.inr ⟨rfl, hq⟩)
    refine s_openX to C O fun op hop => ⟨by rw [hpb]; exact z_in (by omega) (by omega), by rw [hqc]; exact z_in (by omega) (by omega), ?_⟩
    have e1 : mi (x + 1 + 7 + 19 * k + 2) b.toNatClampNeg = nI (spC r (cellC r 9 p)) := by rw [hpb, z_cl hp2, (C.pl hp).2, c1']
    have e2 : mi (x + 1 + 7 + 19 * k + 4) c.toNatClampNeg = nI (spC r (cellC r 27 q)) := by rw [hqc, z_cl hq2, (C.pe hq).2, c2']
    rw [e1, e2]
    exact s_turns (TX11s_a8 tx) O hop rfl rfl c1 c2 o1 o2 fun v A B hv => ref v _ _ (vK_yes hp hp2 hpb (vK_yes hq hq2 hqc hv)) fun a ha => ⟨rfl, v2_o (by omega) (by omega)⟩
end CHX
