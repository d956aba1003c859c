/-! blocks, through and through -/
theorem lg_eq (x y : Int64) : (lg_cmp x y = 0) = (x = y) := by
  apply propext
  unfold lg_cmp
  constructor
  · intro h
    split at h
    · cases h
    · split at h
      · assumption
      · cases h
  · intro h
    subst h
    rw [if_neg (Int64.lt_irrefl), if_pos rfl]
theorem rN_closed {g : Nat → Nat → Option Nat} {f k : Nat} (hc : ∀ c, rN g f (k + 1) c → rN g f k c) : ∀ m c, rN g f m c → rN g f k c := by
  intro m
  induction m with
  | zero => intro c h; rw [show c = f from h]; exact rN.self
  | succ m ih =>
    intro c h
    rcases h with h | ⟨c', w, h1, h2, h3⟩
    · exact ih c h
    · exact hc c (Or.inr ⟨c', w, h1, ih c' h2, h3⟩)
theorem z_dec (u : Nat) : nI u + (-1) = nI u - 1 := (Int32.sub_eq_add_neg _ _).symm
noncomputable def nMn (r : Nat → Int32) (m : Nat) : Nat := cnt (fun c => pb (isMn r c)) m
def isMax (r : Nat → Int32) (M : Nat) : Prop := (∀ c, c < cells r → wlC r c = false → szC r c ≤ M) ∧ (M = 0 ∨ ∃ c, c < cells r ∧ wlC r c = false ∧ szC r c = M)
theorem isMax.uniq {r : Nat → Int32} {M M' : Nat} (h1 : isMax r M) (h2 : isMax r M') : M = M' := by
  have key : ∀ M M', isMax r M → isMax r M' → M ≤ M' := by
    intro M M' h1 h2
    rcases h1.2 with h | ⟨c, g1, g2, g3⟩
    · omega
    · rw [← g3]; exact h2.1 c g1 g2
  exact Nat.le_antisymm (key _ _ h1 h2) (key _ _ h2 h1)
theorem szC_le {r : Nat → Int32} (O : okC r) (c : Nat) : szC r c ≤ 64 := Nat.le_trans (cnt_le _ _) O.w.2.2.2.2.2
def vBlk (r : Nat → Int32) (big : Bool) (v : Int32) : Prop := if big = true then ∃ M, isMax r M ∧ v = nI M else v = nI (nMn r (cells r))
theorem vBlk.uniq {r : Nat → Int32} {big : Bool} {v v' : Int32} (h1 : vBlk r big v) (h2 : vBlk r big v') : v = v' := by
  unfold vBlk at h1 h2
  split at h1
  · rename_i q
    rw [if_pos q] at h2
    obtain ⟨M, g1, g2⟩ := h1
    obtain ⟨M', g3, g4⟩ := h2
    rw [g2, g4, g1.uniq g3]
  · rename_i q
    rw [if_neg q] at h2
    rw [h1, h2]
section BLK2
variable {l : Launch} {d h o x z T : Nat} {kd : pm_K} {mr : pm_R} {mi : pm_I} {ml : pm_L} {k : Nat} {r : Nat → Int32}
theorem s_allReached {f : Nat} {y : Int32} {op : Int64} {K : Int64 → pm_I → pm_L → Prop} (O : okC r) (hz : ∀ s, s < 64 → bl op s = opS r s) (hy : y = nI (spC r f)) (hf : f < cells r) (k9 : ∀ v, cS r v (cn r f) → K v mi ml) : wL l M_X8_allReached (d + 2) [.long op, .int y] kd mr mi ml K := by
  have hb := O.w
  have loop : ∀ (q k : Nat) (y : Int64), k + q = 64 → cS r y (fun c => rN (fre r) f k c) → c_X8_allReached_8 l (d + 2) kd mr op y (nI k) mi ml K := by
    intro q
    induction q with
    | zero =>
      intro k y hk hy
      have : k = 64 := by omega
      subst this
      refine w_X8_allReached_8 ⟨fun _ => k9 y (hy.congr fun c _ => ⟨fun q => ⟨_, q⟩, fun ⟨m, q⟩ => ?_⟩), fun h => absurd (nI_le (Nat.le_refl 64) (by omega)) h⟩
      obtain ⟨j, j1, j2⟩ := rN.stab (fre_clo O) hf
      exact (j2 _ _ q).mono (by omega)
    | succ q ih =>
      intro k y hk hy
      refine w_X8_allReached_8 ⟨fun h => absurd h (nI_ge (b := 64) (by omega) (by omega)), fun _ => s_grown O hz hy fun y2 hy2 => ?_⟩
      have hy3 : cS r y2 (fun c => rN (fre r) f (k + 1) c) := hy2.congr fun c _ => grow_rN O hf c
      rw [lg_eq]
      refine ⟨fun _ => ?_, fun e => k9 y (hy.congr fun c _ => ⟨fun q => ⟨_, q⟩, fun ⟨m, q⟩ => rN_closed (fun c hc => ?_) m c q⟩)⟩
      · rw [nI_1]; exact ih (k + 1) y2 (by omega) hy3
      · exact (hy3.ne hy O e (rN.lt (fre_clo O) hf _ _ hc)).mp hc
  exact w_X8_allReached (s_onlyC O hy hf fun y0 h0 => loop 64 0 y0 rfl h0)
theorem s_parts {big : Bool} {op : Int64} {K : Int32 → pm_I → pm_L → Prop} (th : TX8s kd mr h) (O : okC r) (hz : ∀ s, s < 64 → bl op s = opS r s) (k9 : ∀ v, vBlk r big v → K v mi ml) : wI l M_X8_parts (d + 3) [.ref h, .long op, .int (b2i big)] kd mr mi ml K := by
  have hb := O.w
  have fin : ∀ (m M : Nat), m ≤ cells r → (∀ c, m ≤ c → ¬ isMn r c) → (∀ c, c < m → isMn r c → szC r c ≤ M) → (M = 0 ∨ ∃ c, c < cells r ∧ wlC r c = false ∧ szC r c = M) → c_X8_parts_69 l (d + 3) kd mr h (b2i big) (nI (nMn r m)) (nI M) mi ml K := by
    intro m M hm hno hM1 hM2
    refine w_X8_parts_69 th (k9 _ ?_)
    have e1 : nMn r (cells r) = nMn r m := by
      obtain ⟨b, hb⟩ := Nat.exists_eq_add_of_le hm
      rw [hb]
      refine cnt_all _ m b fun i h1 _ => ?_
      cases e : pb (isMn r i) with
      | false => rfl
      | true => exact absurd (pb_iff.mp e) (hno i h1)
    unfold vBlk
    cases big with
    | false => rw [if_neg (by decide), if_pos (show b2i false = 0 from rfl), e1]
    | true =>
      rw [if_pos rfl, if_neg (by decide)]
      refine ⟨M, ⟨fun c hc ho => ?_, hM2⟩, rfl⟩
      obtain ⟨c0, g1, g2, g3⟩ := mn_of O hc ho
      rw [← szC_eq O g2.1 g2.2.1 g3]
      refine hM1 c0 (Nat.lt_of_not_le fun q => hno c0 q g2) g2
  have loop : ∀ (q n m M : Nat) (y : Int64), n + q = 64 → n = nMn r m → m ≤ cells r → cS r y (fun e => wlC r e = false ∧ ∀ c, c < m → isMn r c → ¬ cn r c e) → (∀ c, c < m → isMn r c → szC r c ≤ M) → (M = 0 ∨ ∃ c, c < cells r ∧ wlC r c = false ∧ szC r c = M) → M ≤ 64 → c_X8_parts_12 l (d + 3) kd mr h op (b2i big) (nI n) (nI M) y (nI n) mi ml K := by
    intro q
    induction q with
    | zero =>
      intro n m M y hn hnm hm hy hM1 hM2 hM3
      have : n = 64 := by omega
      subst this
      have h1 : nMn r m ≤ m := cnt_le _ _
      refine w_X8_parts_12 th ⟨fun _ => ?_, fun h => absurd (nI_le (Nat.le_refl 64) (by omega)) h⟩
      rw [hnm]
      exact fin m M hm (fun c hc q => by have := q.1; omega) hM1 hM2
    | succ q ih =>
      intro n m M y hn hnm hm hy hM1 hM2 hM3
      have inr : ∀ c, isMn r c → m ≤ c → bl y (spC r c) = true := by
        intro c hc hmc
        refine (hy.sp O hc.1).mpr ⟨hc.2.1, fun c' h1 h2 h3 => ?_⟩
        have := hc.2.2 c' (h3.sym O h2.1 h2.2.1)
        omega
      refine w_X8_parts_12 th ⟨fun h => absurd h (nI_ge (b := 64) (by omega) (by omega)), fun _ => ⟨fun h => ?_, fun h => ?_⟩⟩
      · rw [lg_0] at h
        rw [hnm]
        refine fin m M hm (fun c hc q => ?_) hM1 hM2
        have := inr c q hc
        rw [h, bl_0] at this; cases this
      · rw [lg_0] at h
        refine s_leastOf (fun h0 => absurd h0 h) (fun j hj h1 h2 => ?_)
        obtain ⟨g1, g2, g3⟩ := (hy j hj).mp h1
        have he := ceS_lt g1
        have hs := spC_ceS g1
        generalize ceS r j = e at g2 g3 he hs
        subst hs
        have mn : isMn r e := by
          refine ⟨he, g2, fun e' h3 => Nat.le_of_not_lt fun q9 => ?_⟩
          have h4 : bl y (spC r e') = true := (hy.sp O (h3.lt O he)).mpr ⟨h3.op g2, fun c h5 h6 h7 => g3 c h5 h6 (h7.tr (h3.sym O he g2))⟩
          rw [h2 _ (spC_rise O q9 he)] at h4; cases h4
        have hme : m ≤ e := Nat.le_of_not_lt fun q9 => g3 e q9 mn (cn.rf r e)
        have gap : ∀ c, m ≤ c → c < e → ¬ isMn r c := fun c h3 h4 h5 => by
          have := inr c h5 h3
          rw [h2 _ (spC_rise O h4 he)] at this; cases this
        refine s_allReached O hz rfl he fun v hv => s_popX ?_
        have ep : pop v = szC r e := pop_cS O hv
        have hsz := szC_le O e
        have emx : (if nI M < nI (pop v) then nI (pop v) else nI M) = nI (mx M (szC r e)) := by rw [ep]; exact mx_X9 _ _ (by omega) (by omega)
        rw [emx, nI_1]
        have en : n + 1 = nMn r (e + 1) := by
          show _ = nMn r e + if pb (isMn r e) = true then 1 else 0
          rw [if_pos (pb_iff.mpr mn), hnm]
          obtain ⟨b, hb⟩ := Nat.exists_eq_add_of_le hme
          have : nMn r (m + b) = nMn r m := cnt_all _ m b fun i h1 h9 => by
            cases e9 : pb (isMn r i) with
            | false => rfl
            | true => exact absurd (pb_iff.mp e9) (gap i h1 (by omega))
          rw [hb, this]
        refine ih (n + 1) (e + 1) (mx M (szC r e)) _ (by omega) en (by omega) (fun s hs => ?_) (fun c h3 h4 => ?_) ?_ ?_
        · rw [bl_not, Bool.and_eq_true, Bool.not_eq_true', hy s hs]
          have hv' := hv s hs
          constructor
          · rintro ⟨⟨a1, a2, a3⟩, a4⟩
            refine ⟨a1, a2, fun c h3 h4 h5 => ?_⟩
            by_cases q9 : c < m
            · exact a3 c q9 h4 h5
            · by_cases q8 : c = e
              · subst q8; rw [hv'.mpr ⟨a1, h5⟩] at a4; cases a4
              · exact gap c (by omega) (by omega) h4
          · rintro ⟨a1, a2, a3⟩
            refine ⟨⟨a1, a2, fun c h3 h4 => a3 c (by omega) h4⟩, ?_⟩
            cases e9 : bl v s with
            | false => rfl
            | true => exact absurd (hv'.mp e9).2 (a3 e (by omega) mn)
        · by_cases q9 : c < m
          · have := hM1 c q9 h4
            unfold mx; split <;> omega
          · by_cases q8 : c = e
            · subst q8; unfold mx; split <;> omega
            · exact absurd h4 (gap c (by omega) (by omega))
        · unfold mx
          split
          · exact Or.inr ⟨e, he, g2, rfl⟩
          · exact hM2
        · unfold mx; split <;> omega
  refine w_X8_parts th (loop 64 0 0 0 op rfl rfl (Nat.zero_le _) ((cS_open hz).congr fun c _ => ⟨fun q => ⟨q, fun c h => by omega⟩, fun q => q.1⟩) (fun c h => by omega) (Or.inl rfl) (by omega))
theorem fs_cn {f : Nat} (O : okC r) (hf : f < cells r) {a : Nat → Nat} (h : ∀ c, c < cells r → a c ≤ 1000000 ∧ (a c < 1000000 → rN (fre r) f (a c) c) ∧ ∀ k, rN (fre r) f k c → a c ≤ k) {e : Nat} (he : e < cells r) : a e < 1000000 ↔ cn r f e := by
  have hb := O.w
  obtain ⟨h1, h2, h3⟩ := h e he
  constructor
  · intro q; exact ⟨_, h2 q⟩
  · rintro ⟨k, q⟩
    obtain ⟨j, j1, j2⟩ := rN.stab (fre_clo O) hf
    have := h3 j (j2 _ _ q)
    omega
theorem s_blocksZ {big : Bool} {K : Int32 → pm_I → pm_L → Prop} (tz : TX12s kd mr z) (H : Hd mi z k r) (O : okC r) (k9 : ∀ v g, vBlk r big v → K v (pm_ur mi (z + 23) g) ml) : c_X12_blocks_23 l (d + 4) kd mr z (b2i big) 0 0 0 mi ml K := by
  have hb := O.w
  have Hg : ∀ g, Hd (pm_ur mi (z + 23) g) z k r := fun g => H.ur (by omega) (by omega)
  have e27 : ∀ g, pm_ur mi (z + 23) g z 27 = nI (cells r) := fun g => (Hg g).2.2.2.1
  have loop : ∀ (q c M : Nat) (g : Nat → Int32), c + q = cells r → (∀ c', c' < c → wlC r c' = false → szC r c' ≤ M) → (M = 0 ∨ ∃ c, c < cells r ∧ wlC r c = false ∧ szC r c = M) → M ≤ 64 → c_X12_blocks_23 l (d + 4) kd mr z (b2i big) (nI (nMn r c)) (nI M) (nI c) (pm_ur mi (z + 23) g) ml K := by
    intro q
    induction q with
    | zero =>
      intro c M g hc hM1 hM2 hM3
      have : c = cells r := by omega
      subst this
      refine w_X12_blocks_23 tz ⟨fun _ => k9 _ g ?_, fun h => absurd (by rw [e27]; exact nI_le (Nat.le_refl _) (by omega)) h⟩
      unfold vBlk
      cases big with
      | false => rw [if_neg (by decide), if_pos (show b2i false = 0 from rfl)]
      | true => rw [if_pos rfl, if_neg (by decide)]; exact ⟨M, ⟨hM1, hM2⟩, rfl⟩
    | succ q ih =>
      intro c M g0 hc hM1 hM2 hM3
      have hcc : c < cells r := by omega
      refine w_X12_blocks_23 tz ⟨fun h => absurd h (by rw [e27]; exact nI_ge (by omega) (by omega)), fun _ => s_findSoon tz (Hg g0) O rfl hcc fun g a hg => ?_⟩
      rw [pm_ur_ur, e27]
      have eg : pm_ur mi (z + 23) g (z + 23) = g := pm_ur_s _ _ _
      -- behind a cell
      have next : ∀ (S : Nat) (x7 : Int32), S ≤ 64 → (wlC r c = false → S = szC r c) → ((wlC r c = true ∧ S = 0) ∨ wlC r c = false) → (x7 = nI c ↔ isMn r c) → c_X12_blocks_117 l (d + 4) kd mr z (b2i big) (nI (nMn r c)) (nI M) (nI c) (nI S) x7 (pm_ur mi (z + 23) g) ml K := by
        intro S x7 hS hS2 hS3 hx
        refine w_X12_blocks_117 tz (w_X12_greater ?_)
        have e1 : nI (nMn r c) + b2i (decide (x7 = nI c)) = nI (nMn r (c + 1)) := by
          rw [b2i_nI]
          show _ = nI (nMn r c + if pb (isMn r c) = true then 1 else 0)
          by_cases q9 : isMn r c
          · rw [if_pos (hx.mpr q9), if_pos (pb_iff.mpr q9)]
          · rw [if_neg (fun q8 => q9 (hx.mp q8)), if_neg (fun q8 => q9 (pb_iff.mp q8))]
        rw [e1, mx_Z9 _ _ (by omega) (by omega), nI_1]
        refine ih (c + 1) (mx M S) g (by omega) (fun c' h1 h2 => ?_) ?_ ?_
        · by_cases q9 : c' = c
          · subst q9
            rw [← hS2 h2]; unfold mx; split <;> omega
          · have := hM1 c' (by omega) h2
            unfold mx; split <;> omega
        · unfold mx
          split
          · rcases hS3 with ⟨-, h2⟩ | h2
            · omega
            · exact Or.inr ⟨c, hcc, h2, (hS2 h2).symm⟩
          · exact hM2
        · unfold mx; split <;> omega
      cases ew : wlC r c with
      | true =>
        have e0 : ¬ nI (cells r) - 1 < 0 := by
          have : nI (cells r) - 1 = nI (cells r - 1) := z_sub (b := 1) (by omega)
          rw [this]; exact nI_pos (by omega)
        refine w_X12_blocks_52 tz ⟨fun h => absurd h e0, fun _ => s_isWall tz (Hg g) O rfl hcc ⟨fun _ => ?_, fun h => by rw [ew] at h; cases h⟩⟩
        refine next 0 (-1) (by omega) (fun h => by rw [ew] at h; cases h) (Or.inl ⟨ew, rfl⟩) ⟨fun h => absurd h.symm (z_eq1 (by omega)), fun h => by have h9 := h.2.1; rw [ew] at h9; cases h9⟩
      | false =>
        have inner : ∀ (u S : Nat) (x7 : Int32), u ≤ cells r → S + cnt (fun e => pb (cn r c e)) u = szC r c → ((x7 = -1 ∧ ∀ e, u ≤ e → e < cells r → ¬ cn r c e) ∨ ∃ e0, x7 = nI e0 ∧ e0 < cells r ∧ cn r c e0 ∧ ∀ e, u ≤ e → e < e0 → ¬ cn r c e) → c_X12_blocks_52 l (d + 4) kd mr z (b2i big) (nI (nMn r c)) (nI M) (nI c) (nI S) x7 (nI u - 1) (pm_ur mi (z + 23) g) ml K := by
          intro u
          induction u with
          | zero =>
            intro S x7 _ hS hx
            have hS' : S = szC r c := hS
            refine w_X12_blocks_52 tz ⟨fun _ => next S x7 (by rw [hS']; exact szC_le O c) (fun _ => hS') (Or.inr ew) ?_, fun h => absurd (by decide) h⟩
            rcases hx with ⟨-, h2⟩ | ⟨e0, h1, h2, h3, h4⟩
            · exact absurd (cn.rf r c) (h2 c (Nat.zero_le _) hcc)
            · rw [h1, z_eq (by omega) (by omega)]
              constructor
              · rintro rfl
                exact ⟨hcc, ew, fun e he => Nat.le_of_not_lt fun q9 => h4 e (Nat.zero_le _) q9 he⟩
              · intro h5
                have h6 := h5.2.2 e0 h3
                refine Nat.le_antisymm (Nat.le_of_not_lt fun q9 => h4 c (Nat.zero_le _) q9 (cn.rf r c)) h6
          | succ u ihu =>
            intro S x7 hu hS hx
            rw [nI_pred]
            have huc : u < cells r := by omega
            obtain ⟨a1, a2, a3, a4⟩ := hg u huc
            refine w_X12_blocks_52 tz ⟨fun h => absurd h (nI_pos (by omega)), fun _ => s_isWall tz (Hg g) O rfl hcc ⟨fun h => (by rw [ew] at h; cases h), fun _ => ⟨z_in (by omega) (by omega), z_in (by omega) (by omega), ?_⟩⟩⟩
            have c9 : ((1000000 : Int32) ≤ nI (a u)) = (1000000 ≤ a u) := z_le (a := 1000000) (by omega) (by omega)
            have hcn : a u < 1000000 ↔ cn r c u := fs_cn O hcc (fun c hc => (hg c hc).2) huc
            rw [z_cl (by omega), eg, a1, z_dec]
            simp only [c9]
            have hS9 : S + (cnt (fun e => pb (cn r c e)) u + if pb (cn r c u) = true then 1 else 0) = szC r c := hS
            by_cases q9 : cn r c u
            · have q8 : ¬ 1000000 ≤ a u := Nat.not_le.mpr (hcn.mpr q9)
              rw [if_neg q8, decide_eq_false q8]
              rw [if_pos (pb_iff.mpr q9)] at hS9
              have : nI S + b2i (!false) = nI (S + 1) := nI_1 S
              rw [this]
              exact ihu (S + 1) (nI u) (by omega) (by omega) (Or.inr ⟨u, rfl, huc, q9, fun e h1 h2 => by omega⟩)
            · have q8 : 1000000 ≤ a u := Nat.le_of_not_lt fun q7 => q9 (hcn.mp q7)
              rw [if_pos q8, decide_eq_true q8]
              rw [if_neg (fun q7 => q9 (pb_iff.mp q7))] at hS9
              have : nI S + b2i (!true) = nI S := nI_add S 0
              rw [this]
              refine ihu S x7 (by omega) (by omega) ?_
              rcases hx with ⟨h1, h2⟩ | ⟨e0, h1, h2, h3, h4⟩
              · refine Or.inl ⟨h1, fun e g1 g2 => ?_⟩
                by_cases q7 : e = u
                · subst q7; exact q9
                · exact h2 e (by omega) g2
              · refine Or.inr ⟨e0, h1, h2, h3, fun e g1 g2 => ?_⟩
                by_cases q7 : e = u
                · subst q7; exact q9
                · exact h4 e (by omega) g2
        exact inner (cells r) 0 (-1) (Nat.le_refl _) (Nat.zero_add _) (Or.inl ⟨rfl, fun e g1 g2 => by omega⟩)
  have := loop (cells r) 0 0 (mi (z + 23)) (by omega) (fun c' h => by omega) (Or.inl rfl) (by omega)
  rw [pm_ur_self] at this
  exact this
theorem c_blocks {a : Int32} {big : Bool} (tx : TX11s kd mr x) (tz : TX12s kd mr z) (I : IV x z mi ml) : wI l M_X11_blocks (d + 4) [.ref x, .int a, .int (b2i big)] kd mr mi ml fun r mi1 ml1 => wI l M_X12_blocks (d + 4) [.ref z, .int a, .int (b2i big)] kd mr mi1 ml1 fun r2 mi2 ml2 => r = r2 ∧ IV x z mi2 ml2 := by
  have e5 : pm_up mi z 0 (0 : Int32) (z + 5) = mi (z + 5) := pm_up_row _ _ (by omega)
  have e6 : pm_up mi z 0 (0 : Int32) (z + 6) = mi (z + 6) := pm_up_row _ _ (by omega)
  have f0 : frZ z mi (pm_up mi z 0 0) ml ml := frZ.upI (Or.inl rfl)
  refine w_X11_blocks tx (q_city tx I (fun m Im h => ⟨fun _ => ?_, fun b hb => (by cases hb)⟩) (fun m k r hr Im hk ha to O C => ⟨fun h => (by cases h), fun b4 hb4 => ?_⟩))
  · exact w_X12_blocks tz (p_handN tz Im h e5 e6 ⟨fun g => (by cases g), fun _ => ⟨rfl, I.smZ f0⟩⟩)
  · cases hb4
    refine ⟨to, s_openX to C O fun op hop => s_parts (TX11s_a7 tx) O hop fun v hv => ?_⟩
    refine w_X12_blocks tz (q_hand tz Im hr hk ha e5 e6 fun mi' f g1 g2 H => ⟨fun _ => s_blocksZ tz H O fun v2 g hv2 => ⟨hv.uniq hv2, I.smZ ((f0.tr f).tr (frZ.urI (by omega)))⟩, fun g => (by cases g)⟩)
end BLK2
