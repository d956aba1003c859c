/-! fresh -/
theorem bl_dec (x : Int64) {s : Nat} (hs : s < 64) : bl (x - 1) s = !(bl x s ^^ decide (∃ i, i < s ∧ bl x i = true)) := by
  have e : bl (-x) s = (bl x s ^^ decide (∃ i, i < s ∧ bl x i = true)) := by
    unfold bl
    rw [Int64.toBitVec_neg, BitVec.getLsbD_neg]
    simp only [hs, decide_true, Bool.true_and]
  rw [← e]
  unfold bl
  have e2 : (x - 1).toBitVec = ~~~((-x).toBitVec) := by
    rw [Int64.toBitVec_sub, Int64.toBitVec_neg, BitVec.not_neg]; rfl
  rw [e2, BitVec.getLsbD_not]
  simp [hs]
theorem bl_drop {x : Int64} {j : Nat} (h1 : bl x j = true) (h2 : ∀ i, i < j → bl x i = false) {s : Nat} (hs : s < 64) : bl (x &&& (x - 1)) s = (bl x s && decide (¬ s = j)) := by
  rw [bl_and, bl_dec x hs]
  rcases Nat.lt_trichotomy s j with q | q | q
  · rw [h2 s q, Bool.false_and, Bool.false_and]
  · subst q
    have q2 : ¬ ∃ i, i < s ∧ bl x i = true := by
      rintro ⟨i, g1, g2⟩
      rw [h2 i g1] at g2; cases g2
    rw [decide_eq_false q2, h1]; simp
  · have q2 : ∃ i, i < s ∧ bl x i = true := ⟨j, q, h1⟩
    have q3 : ¬ s = j := by omega
    rw [decide_eq_true q2, decide_eq_true q3]
    cases bl x s <;> rfl
theorem cnt_less {P Q : Nat → Bool} {j : Nat} (h1 : P j = true) : ∀ n, j < n → (∀ s, s < n → Q s = (P s && decide (¬ s = j))) → cnt Q n + 1 = cnt P n := by
  intro n
  induction n with
  | zero => intro hj; omega
  | succ n ih =>
    intro hj h2
    unfold cnt
    rw [h2 n (by omega)]
    by_cases e : j = n
    · subst e
      have : cnt Q j = cnt P j := cnt_congr fun i hi => by
        rw [h2 i (by omega), decide_eq_true (show ¬ i = j by omega), Bool.and_true]
      rw [this, h1, decide_eq_false (by simp)]
      rfl
    · have := ih (by omega) fun s hs => h2 s (by omega)
      rw [decide_eq_true (show ¬ n = j by omega), Bool.and_true]
      omega
theorem pop_0 : pop 0 = 0 := cnt_all (bl 0) 0 64 fun i _ _ => bl_0 i
theorem pop_drop {x : Int64} {j : Nat} (hj : j < 64) (h1 : bl x j = true) (h2 : ∀ i, i < j → bl x i = false) : pop (x &&& (x - 1)) + 1 = pop x := cnt_less h1 64 hj fun s hs => bl_drop h1 h2 hs
/-- of the pairs before J, in their order, (a, b) is the first with the most -/
def FM (V : Nat → Nat → Prop) (g : Nat → Nat → Nat) (J a b : Nat) : Prop := V a b ∧ 64 * a + b < J ∧ (∀ a' b', V a' b' → 64 * a' + b' < J → g a' b' ≤ g a b) ∧ ∀ a' b', V a' b' → 64 * a' + b' < 64 * a + b → g a' b' < g a b
def FS (V : Nat → Nat → Prop) (g : Nat → Nat → Nat) (f : Nat → Nat) (n J : Nat) (m one oth : Int32) : Prop := (m = -1 ∧ ∀ a b, V a b → ¬ 64 * a + b < J) ∨ ∃ a b, FM V g J a b ∧ m = nI (g a b) ∧ one = nI (f a) ∧ (n = 2 → oth = nI (f b))
theorem FM.uniq {V : Nat → Nat → Prop} {g : Nat → Nat → Nat} {J a b a' b' : Nat} (hV : ∀ a b, V a b → b < 64) (h1 : FM V g J a b) (h2 : FM V g J a' b') : a = a' ∧ b = b' := by
  have b1 := hV _ _ h1.1
  have b2 := hV _ _ h2.1
  rcases Nat.lt_trichotomy (64 * a + b) (64 * a' + b') with q | q | q
  · have := h2.2.2.2 _ _ h1.1 q; have := h1.2.2.1 _ _ h2.1 h2.2.1; omega
  · omega
  · have := h1.2.2.2 _ _ h2.1 q; have := h2.2.2.1 _ _ h1.1 h1.2.1; omega
section FSS
variable {V : Nat → Nat → Prop} {g : Nat → Nat → Nat} {f : Nat → Nat} {n J J' a b : Nat} {m o t t' : Int32}
theorem FS.skip (h : FS V g f n J m o t) (hJ : J ≤ J') (hv : ∀ a b, V a b → 64 * a + b < J' → 64 * a + b < J) : FS V g f n J' m o t := by
  rcases h with ⟨h1, h2⟩ | ⟨a, b, ⟨h1, h2, h3, h4⟩, h5⟩
  · exact Or.inl ⟨h1, fun a b q q2 => h2 a b q (hv a b q q2)⟩
  · exact Or.inr ⟨a, b, ⟨h1, by omega, fun a' b' q q2 => h3 a' b' q (hv a' b' q q2), h4⟩, h5⟩
theorem FS.no (hV : ∀ a b, V a b → b < 64) (h : FS V g f n (64 * a + b) m o t) (hb : b < 64) (hn : ¬ V a b) : FS V g f n (64 * a + (b + 1)) m o t := h.skip (by omega) fun a' b' h1 h2 => by
  have b1 := hV _ _ h1
  by_cases q : a' = a ∧ b' = b
  · obtain ⟨rfl, rfl⟩ := q; exact absurd h1 hn
  · omega
theorem pr_cut (hb : b < 64) {a' b' : Nat} (hb' : b' < 64) (h : 64 * a' + b' < 64 * a + (b + 1)) : (a' = a ∧ b' = b) ∨ 64 * a' + b' < 64 * a + b := by omega
theorem FS.lt (hV : ∀ a b, V a b → b < 64) (hg : ∀ a b, g a b ≤ 64) (h : FS V g f n (64 * a + b) m o t) (hv : V a b) (q : ¬ nI (g a b) ≤ m) (ht : n = 2 → t' = nI (f b)) : FS V g f n (64 * a + (b + 1)) (nI (g a b)) (nI (f a)) t' := by
  have all : ∀ a' b', V a' b' → 64 * a' + b' < 64 * a + b → g a' b' < g a b := by
    intro a' b' g1 g2
    rcases h with ⟨h1, h2⟩ | ⟨a0, b0, h1, rfl, h5⟩
    · exact absurd g2 (h2 a' b' g1)
    · have := h1.2.2.1 a' b' g1 g2
      have w1 := hg a b
      have w2 := hg a0 b0
      rw [z_le (by omega) (by omega)] at q
      omega
  refine Or.inr ⟨a, b, ⟨hv, by omega, fun a' b' h1 h2 => ?_, all⟩, rfl, rfl, ht⟩
  rcases pr_cut (hV _ _ hv) (hV _ _ h1) h2 with ⟨rfl, rfl⟩ | q2
  · exact Nat.le_refl _
  · exact Nat.le_of_lt (all a' b' h1 q2)
theorem m1_le {a : Nat} (ha : a < 2147483648) : ¬ nI a ≤ -1 := by
  rw [Int32.le_iff_toInt_le, z_toInt ha]
  have e1 : (-1 : Int32).toInt = -1 := by decide
  omega
theorem le_m1 {a : Nat} (ha : a < 2147483648) : (-1 : Int32) ≤ nI a := by
  rw [Int32.le_iff_toInt_le, z_toInt ha]
  have e1 : (-1 : Int32).toInt = -1 := by decide
  omega
theorem FS.ge (hV : ∀ a b, V a b → b < 64) (hg : ∀ a b, g a b ≤ 64) (h : FS V g f n (64 * a + b) m o t) (hv : V a b) (q : nI (g a b) ≤ m) : FS V g f n (64 * a + (b + 1)) m o t := by
  have w1 := hg a b
  rcases h with ⟨h1, h2⟩ | ⟨a0, b0, ⟨h1, h2, h3, h4⟩, h6, h5⟩
  · rw [h1] at q; exact absurd q (m1_le (by omega))
  · have w2 := hg a0 b0
    refine Or.inr ⟨a0, b0, ⟨h1, by omega, fun a' b' g1 g2 => ?_, h4⟩, h6, h5⟩
    rw [h6, z_le (by omega) (by omega)] at q
    rcases pr_cut (hV _ _ hv) (hV _ _ g1) g2 with ⟨rfl, rfl⟩ | q2
    · exact q
    · exact h3 a' b' g1 q2
theorem FS.m1 (hg : ∀ a b, g a b ≤ 64) (h : FS V g f n J m o t) : (-1 : Int32) ≤ m := by
  rcases h with ⟨h1, h2⟩ | ⟨a0, b0, -, h6, -⟩
  · subst h1; decide
  · have := hg a0 b0
    rw [h6]; exact le_m1 (by omega)
end FSS
theorem gr_l {x y : Int32} (h : y ≤ x) : (if x ≤ y then y else x) = x := by
  split
  · rename_i q
    rw [Int32.le_iff_toInt_le] at h q
    exact Int32.toInt_inj.mp (by omega)
  · rfl
theorem gr_r {x y : Int32} (h : ¬ y ≤ x) : (if x ≤ y then y else x) = y := by
  rw [if_pos]
  rw [Int32.le_iff_toInt_le] at h ⊢
  omega
/-- who is due to be heard: open, and heard by nobody -/
def dueC (r : Nat → Int32) (c : Nat) : Prop := wlC r c = false ∧ ¬ hb r (2 ^ gN r 3 - 1) c
noncomputable def gnN (r : Nat → Int32) (t a b : Nat) : Nat := cnt (fun c => pb ((reach r a (rgN t) c ∧ dueC r c) ∨ (reach r b (rgN t) c ∧ dueC r c))) (cells r)
def vN (r : Nat → Int32) (n a b : Nat) : Prop := a < cells r ∧ b < cells r ∧ wlC r a = false ∧ wlC r b = false ∧ (n = 1 → b = a) ∧ (n = 2 → a < b)
theorem gnN_le {r : Nat → Int32} (O : okC r) (t a b : Nat) : gnN r t a b ≤ 64 := Nat.le_trans (cnt_le _ _) O.w.2.2.2.2.2
theorem vN_lt {r : Nat → Int32} (O : okC r) {n : Nat} : ∀ a b, vN r n a b → b < 64 := fun a b h => Nat.lt_of_lt_of_le h.2.1 O.w.2.2.2.2.2
theorem vN_next {r : Nat → Int32} (O : okC r) {n a J : Nat} (hJ : 64 * a + cells r ≤ J ∨ (n = 1 ∧ 64 * a + (a + 1) ≤ J)) : ∀ a' b', vN r n a' b' → 64 * a' + b' < 64 * (a + 1) → 64 * a' + b' < J := by
  intro a' b' h1 h2
  have b1 := h1.2.1
  have b2 := O.w.2.2.2.2.2
  rcases hJ with q | ⟨rfl, q⟩
  · have : a' ≤ a := by omega
    by_cases e : a' = a
    · subst e; omega
    · omega
  · have := h1.2.2.2.2.1 rfl
    subst this
    have : b' ≤ a := by omega
    omega
section FRESH
variable {l : Launch} {d h o x z T : Nat} {kd : pm_K} {mr : pm_R} {mi : pm_I} {ml : pm_L} {k : Nat} {r : Nat → Int32}
theorem s_sizeZ {x : Int64} {K : Int32 → pm_I → pm_L → Prop} (k9 : K (nI (pop x)) mi ml) : wI l M_X12_size d [.long x] kd mr mi ml K := by
  have loop : ∀ (n a : Nat) (y : Int64), pop y = n → a + n = pop x → c_X12_size_4 l d kd mr (nI a) y mi ml K := by
    intro n
    induction n with
    | zero =>
      intro a y hy ha
      refine w_X12_size_4 ⟨fun _ => ?_, fun h => ?_⟩
      · rw [show a = pop x by omega]; exact k9
      · rw [lg_0] at h
        obtain ⟨j, g1, g2, g3⟩ := bl_min h
        have := pop_drop g1 g2 g3
        omega
    | succ n ih =>
      intro a y hy ha
      refine w_X12_size_4 ⟨fun h => ?_, fun h => ?_⟩
      · rw [lg_0] at h
        subst h
        rw [pop_0] at hy; omega
      · rw [lg_0] at h
        obtain ⟨j, g1, g2, g3⟩ := bl_min h
        have := pop_drop g1 g2 g3
        rw [nI_1]
        exact ih (a + 1) _ (by omega) (by omega)
  exact w_X12_size (loop (pop x) 0 x rfl (by omega))
def KS (r : Nat → Int32) (h n t : Nat) (mi : pm_I) (J : Nat) (mi1 : pm_I) : Prop := (∀ a, a ≠ h → mi1 a = mi a) ∧ FS (vN r n) (gnN r t) (spC r) n J (mi1 h 6) (mi1 h 4) (mi1 h 5)
theorem s_keep {n t a b : Nat} {u v w : Int32} {mi1 : pm_I} {K : pm_I → pm_L → Prop} (th : TX1s kd mr h) (O : okC r) (S : KS r h n t mi (64 * a + b) mi1) (hv : vN r n a b) (hu : u = nI (gnN r t a b)) (hs : v = nI (spC r a)) (hw : n = 2 → w = nI (spC r b)) (k9 : ∀ mi2, KS r h n t mi (64 * a + (b + 1)) mi2 → K mi2 ml) : wV l M_X1_keepIfMore d [.ref h, .int u, .int v, .int w] kd mr mi1 ml K := by
  subst hu; subst hs
  refine w_X1_keepIfMore th ⟨fun q => k9 _ ⟨S.1, S.2.ge (vN_lt O) (gnN_le O t) hv q⟩, fun q => k9 _ ⟨fun a' ha => ?_, ?_⟩⟩
  · rw [pm_up_row _ _ ha, pm_up_row _ _ ha, pm_up_row _ _ ha]; exact S.1 a' ha
  · rw [pm_up_s, pm_up_j _ _ (show (6 : Nat) ≠ 5 by decide), pm_up_j _ _ (show (6 : Nat) ≠ 4 by decide), pm_up_s, pm_up_j _ _ (show (4 : Nat) ≠ 5 by decide), pm_up_s]
    exact S.2.lt (vN_lt O) (gnN_le O t) hv q hw
theorem s_tryPlaces {n t a : Nat} {op : Int64} {u v : Int32} {mi1 : pm_I} {K : pm_I → pm_L → Prop} (th : TX1s kd mr h) (O : okC r) (hop : ∀ s, s < 64 → bl op s = opS r s)
    (hg : ∀ s, s < 64 → inS r s → wlC r (ceS r s) = false → cS r (ml (h + 5) s) fun c => reach r (ceS r s) (rgN t) c ∧ dueC r c)
    (hn : n = 1 ∨ n = 2) (ha : a < cells r) (hwa : wlC r a = false) (hu : u = nI (spC r a)) (hv : v = nI n) (S : KS r h n t mi (64 * a) mi1) (k9 : ∀ mi2, KS r h n t mi (64 * (a + 1)) mi2 → K mi2 ml) : wV l M_X1_tryPlaces (d + 2) [.ref h, .long op, .int u, .int v] kd mr mi1 ml K := by
  subst hu; subst hv
  have hc64 := O.w.2.2.2.2.2
  obtain ⟨g1, g2, g3⟩ := spC_in O ha
  have hga := hg _ g3 g1 (by rw [g2]; exact hwa)
  rw [g2] at hga
  refine w_X1_tryPlaces th ⟨fun q => ?_, fun q => ⟨z_in g3 (by omega), s_popX ?_⟩⟩
  · have hn2 : n = 2 := by
      rcases hn with rfl | rfl
      · exact absurd rfl q
      · rfl
    subst hn2
    rw [nI_1]
    have loop : ∀ (q s n' : Nat) (mi1 : pm_I), s + q = 64 → spC r a < s → n' ≤ cells r → (∀ c, c < cells r → (spC r c < s ↔ c < n')) → KS r h 2 t mi (64 * a + n') mi1 → c_X1_tryPlaces_27 l (d + 2) kd mr h op (nI (spC r a)) (nI s) mi1 ml K := by
      intro q
      induction q with
      | zero =>
        intro s n' mi1 hs _ hn' hb S
        have : s = 64 := by omega
        subst this
        have := below_end O hn' hb
        subst this
        exact w_X1_tryPlaces_27 th ⟨fun _ => k9 mi1 ⟨S.1, S.2.skip (by omega) (vN_next O (Or.inl (Nat.le_refl _)))⟩, fun h => absurd (nI_le (Nat.le_refl 64) (by omega)) h⟩
      | succ q ih =>
        intro s n' mi1 hs hsa hn' hb S
        refine w_X1_tryPlaces_27 th ⟨fun h => absurd h (nI_ge (b := 64) (by omega) (by omega)), fun _ => s_hasX rfl (by omega) ⟨fun hf => w_X1_tryPlaces_67 th ?_, fun ht => ⟨z_in g3 (by omega), z_in (show s < 64 by omega) (by omega), ?_⟩⟩⟩
        · rw [nI_1]
          by_cases hi : inS r s
          · obtain ⟨e1, e2, e3⟩ := below_next O hn' hb hi
            refine ih (s + 1) (n' + 1) mi1 (by omega) (by omega) (by omega) e3 ⟨S.1, S.2.no (vN_lt O) (by omega) fun hv => ?_⟩
            rw [hop s (by omega)] at hf
            have := opS_iff.mpr ⟨hi, by rw [e1]; exact hv.2.2.2.1⟩
            rw [hf] at this; cases this
          · exact ih (s + 1) n' mi1 (by omega) (by omega) hn' (below_same O hb hi) S
        · rw [hop s (by omega)] at ht
          obtain ⟨hi, hw⟩ := opS_iff.mp ht
          obtain ⟨e1, e2, e3⟩ := below_next O hn' hb hi
          have hgs := hg s (by omega) hi hw
          rw [e1] at hgs hw
          have eS : spC r n' = s := by rw [← e1]; exact spC_ceS hi
          rw [z_cl (by omega), z_cl (by omega)]
          refine s_popX (s_keep th O S ⟨ha, e2, hwa, hw, fun q => by omega, fun _ => (hb a ha).mp hsa⟩ ?_ rfl (fun _ => by rw [eS]) fun mi2 S2 => w_X1_tryPlaces_67 th ?_)
          · rw [pop_cS O (cS_or hga hgs)]; rfl
          · rw [nI_1]
            exact ih (s + 1) (n' + 1) mi2 (by omega) (by omega) (by omega) e3 S2
    refine loop (63 - spC r a) (spC r a + 1) (a + 1) mi1 (by omega) (by omega) (by omega) (fun c hc => ?_) ⟨S.1, S.2.skip (by omega) fun a' b' h1 h2 => ?_⟩
    · constructor
      · intro q
        by_cases q9 : a < c
        · have := spC_rise O q9 hc; omega
        · omega
      · intro q
        by_cases e : c = a
        · subst e; omega
        · have := spC_rise O (show c < a by omega) ha; omega
    · have := h1.2.2.2.2.2 rfl
      have b1 := h1.2.1
      omega
  · have hn1 : n = 1 := by
      rcases hn with rfl | rfl
      · rfl
      · exact absurd q (by decide)
    subst hn1
    rw [z_cl (by omega)]
    refine s_keep (b := a) th O ⟨S.1, S.2.skip (by omega) fun a' b' h1 h2 => ?_⟩ ⟨ha, ha, hwa, hwa, fun _ => rfl, fun q => by omega⟩ ?_ rfl (fun q => by omega) fun mi2 S2 => k9 mi2 ⟨S2.1, S2.2.skip (by omega) (vN_next O (Or.inr ⟨rfl, Nat.le_refl _⟩))⟩
    · have := h1.2.2.2.2.1 rfl
      have b1 := h1.2.1
      omega
    · rw [pop_cS O hga]
      congr 1
      refine cnt_congr fun c _ => ?_
      exact pb_congr ⟨fun q => Or.inl q, fun q => q.elim id id⟩
theorem s_bestPlaces {n t w : Nat} {u v y : Int32} {K : Int32 → pm_I → pm_L → Prop} (th : TX1s kd mr h) (to : TX0s kd mr o) (C : CC mi ml o r) (O : okC r) (hh : hX r h mi ml) (ho : o + 5 < h) (hn : n = 1 ∨ n = 2) (hw : w ≤ n) (hV : ∃ a b, vN r n a b) (hu : u = nI (rgN t)) (hv : v = nI n) (hy : y = nI w)
    (k9 : ∀ a b mi1 ml1, (∀ a, a ≠ h → mi1 a = mi a) → (∀ a, a ≠ h + 2 → a ≠ h + 5 → ml1 a = ml a) → FM (vN r n) (gnN r t) (64 * cells r) a b → K (if w = 0 then nI (gnN r t a b) else if w = 1 then nI a else nI b) mi1 ml1) : wI l M_X1_bestPlaces (d + 4) [.ref h, .ref o, .int u, .int v, .int y] kd mr mi ml K := by
  subst hu; subst hv; subst hy
  have hc64 := O.w.2.2.2.2.2
  have h3 := O.2.2.2.2.1
  have hpw := pw_le h3
  have hrg := rgN_le t
  have e4 := C.np O
  refine w_X1_bestPlaces th to (s_openX to C O fun op hop => ?_)
  rw [e4, z_all h3]
  refine s_heardOfSet th to C O hh rfl (by omega) fun v hv => ?_
  have hun := cS_diff (cS_open hop) hv
  generalize op &&& (v ^^^ (-1)) = un at hun
  have CA : ∀ (ml1 : pm_L), (∀ a, a ≠ h + 2 → a ≠ h + 5 → ml1 a = ml a) → CC mi ml1 o r := fun ml1 hl => C.same (fun a h1 h2 => rfl) (hl o (by omega) (by omega))
  have second : ∀ (ml1 : pm_L), (∀ a, a ≠ h + 2 → a ≠ h + 5 → ml1 a = ml a) → (∀ s, s < 64 → inS r s → wlC r (ceS r s) = false → cS r (ml1 (h + 5) s) fun c => reach r (ceS r s) (rgN t) c ∧ dueC r c) → ∀ (q s n' : Nat) (mi1 : pm_I), s + q = 64 → n' ≤ cells r → (∀ c, c < cells r → (spC r c < s ↔ c < n')) → KS r h n t mi (64 * n') mi1 → c_X1_bestPlaces_97 l (d + 4) kd mr h o (nI n) (nI w) op (nI s) mi1 ml1 K := by
    intro ml1 hl hg q
    induction q with
    | zero =>
      intro s n' mi1 hs hn' hb S
      have : s = 64 := by omega
      subst this
      have := below_end O hn' hb
      subst this
      refine w_X1_bestPlaces_97 th to ⟨fun _ => ?_, fun h => absurd (nI_le (Nat.le_refl 64) (by omega)) h⟩
      rw [z_toInt (by omega)]
      have C1 : CC mi1 ml1 o r := C.same (fun a h1 h2 => S.1 a (by omega)) (hl o (by omega) (by omega))
      rcases S.2 with ⟨-, h2⟩ | ⟨a, b, h1, h2, h4, h5⟩
      · obtain ⟨a, b, hab⟩ := hV
        have b1 := hab.1
        have b2 := hab.2.1
        exact absurd (show 64 * a + b < 64 * cells r by omega) (h2 a b hab)
      · have k := k9 a b mi1 ml1 S.1 hl h1
        refine ⟨fun e => ?_, fun e => ⟨fun e2 => ?_, fun e2 => ?_⟩⟩
        · rw [if_pos (by omega)] at k
          rw [h2]; exact k
        · rw [if_neg (by omega), if_pos (by omega)] at k
          exact s_cellOfX to C1 O h4 h1.1.1 k
        · rw [if_neg (by omega), if_neg (by omega)] at k
          exact s_cellOfX to C1 O (h5 (by omega)) h1.1.2.1 k
    | succ q ih =>
      intro s n' mi1 hs hn' hb S
      refine w_X1_bestPlaces_97 th to ⟨fun h => absurd h (nI_ge (b := 64) (by omega) (by omega)), fun _ => s_hasX rfl (by omega) ⟨fun hf => w_X1_bestPlaces_123 th to ?_, fun ht => ?_⟩⟩
      · rw [nI_1]
        by_cases hi : inS r s
        · obtain ⟨e1, e2, e3⟩ := below_next O hn' hb hi
          refine ih (s + 1) (n' + 1) mi1 (by omega) (by omega) e3 ⟨S.1, S.2.skip (by omega) fun a' b' h1 h2 => ?_⟩
          have b1 := h1.2.1
          by_cases e : a' = n'
          · subst e
            rw [hop s (by omega)] at hf
            have := opS_iff.mpr ⟨hi, by rw [e1]; exact h1.2.2.1⟩
            rw [hf] at this; cases this
          · omega
        · exact ih (s + 1) n' mi1 (by omega) hn' (below_same O hb hi) S
      · rw [hop s (by omega)] at ht
        obtain ⟨hi, hw⟩ := opS_iff.mp ht
        obtain ⟨e1, e2, e3⟩ := below_next O hn' hb hi
        rw [e1] at hw
        have eS : spC r n' = s := by rw [← e1]; exact spC_ceS hi
        refine s_tryPlaces th O hop hg hn e2 hw (by rw [eS]) rfl S fun mi2 S2 => w_X1_bestPlaces_123 th to ?_
        rw [nI_1]
        exact ih (s + 1) (n' + 1) mi2 (by omega) (by omega) e3 S2
  have first : ∀ (q s : Nat) (ml1 : pm_L), s + q = 64 → (∀ a, a ≠ h + 2 → a ≠ h + 5 → ml1 a = ml a) → (∀ s', s' < s → inS r s' → wlC r (ceS r s') = false → cS r (ml1 (h + 5) s') fun c => reach r (ceS r s') (rgN t) c ∧ dueC r c) → c_X1_bestPlaces_31 l (d + 4) kd mr h o (nI (rgN t)) (nI n) (nI w) op un (nI s) mi ml1 K := by
    intro q
    induction q with
    | zero =>
      intro s ml1 hs hl hg
      have : s = 64 := by omega
      subst this
      refine w_X1_bestPlaces_31 th to ⟨fun _ => ?_, fun h => absurd (nI_le (Nat.le_refl 64) (by omega)) h⟩
      refine second ml1 hl hg 64 0 0 _ rfl (Nat.zero_le _) below_0 ⟨fun a ha => by rw [pm_up_row _ _ ha, pm_up_row _ _ ha, pm_up_row _ _ ha], ?_⟩
      rw [pm_up_s]
      exact Or.inl ⟨rfl, fun a b _ => by omega⟩
    | succ q ih =>
      intro s ml1 hs hl hg
      have nx : ∀ (ml2 : pm_L) (g : Int64), (∀ a, a ≠ h + 2 → a ≠ h + 5 → ml2 a = ml a) → (∀ s', s' < s → inS r s' → wlC r (ceS r s') = false → cS r (ml2 (h + 5) s') fun c => reach r (ceS r s') (rgN t) c ∧ dueC r c) → (inS r s → wlC r (ceS r s) = false → cS r g fun c => reach r (ceS r s) (rgN t) c ∧ dueC r c) → c_X1_bestPlaces_72 l (d + 4) kd mr h o (nI (rgN t)) (nI n) (nI w) op un (nI s) g (nI s) mi ml2 K := by
        intro ml2 g hl2 hg2 hgs
        refine w_X1_bestPlaces_72 th to ⟨z_in (by omega) (by omega), ?_⟩
        rw [nI_1, z_cl (by omega)]
        refine ih (s + 1) _ (by omega) (fun a h1 h2 => by rw [pm_up_row _ _ h2]; exact hl2 a h1 h2) fun s' hs' h1 h2 => ?_
        by_cases e : s' = s
        · subst e; rw [pm_up_s]; exact hgs h1 h2
        · rw [pm_up_j _ _ e]; exact hg2 s' (by omega) h1 h2
      refine w_X1_bestPlaces_31 th to ⟨fun h => absurd h (nI_ge (b := 64) (by omega) (by omega)), fun _ => s_hasX rfl (by omega) ⟨fun hf => nx ml1 0 hl hg fun h1 h2 => ?_, fun ht => ?_⟩⟩
      · rw [hop s (by omega)] at hf
        have := opS_iff.mpr ⟨h1, h2⟩
        rw [hf] at this; cases this
      · rw [hop s (by omega)] at ht
        obtain ⟨hi, hw⟩ := opS_iff.mp ht
        refine s_heardX (TX1s_a0 th) to (CA ml1 hl) O (by omega) (ceS_lt hi) (by rw [spC_ceS hi]) rfl (by omega) fun v2 g hv2 => ?_
        refine nx _ _ (fun a h1 h2 => by rw [pm_ur_k _ _ (by omega)]; exact hl a h1 h2) (fun s' hs' h1 h2 => by rw [pm_ur_k _ _ (by omega)]; exact hg s' hs' h1 h2) fun _ _ => ?_
        exact cS_and (show cS r v2 (reach r (ceS r s) (rgN t)) from hv2) hun
  exact first 64 0 ml rfl (fun _ _ _ => rfl) fun s' hs' => by omega
/-! the reference's -/
def RS (r : Nat → Int32) (z k n t : Nat) (mi : pm_I) (J : Nat) (m : Int32) (mi1 : pm_I) : Prop := (∀ a, a ≠ z → a ≠ z + 12 → mi1 a = mi a) ∧ Hd mi1 z k r ∧ FS (vN r n) (gnN r t) id n J m (mi1 z 41) (mi1 z 42)
theorem s_findNew {n t : Nat} {u v : Int32} {K : Int32 → pm_I → pm_L → Prop} (tz : TX12s kd mr z) (H : Hd mi z k r) (O : okC r) (hn : n = 1 ∨ n = 2) (ht : t < 4) (hu : u = nI t) (hv : v = nI n)
    (k9 : ∀ m mi1 ml1, (∀ a, a ≠ z + 17 → a ≠ z + 18 → ml1 a = ml a) → RS r z k n t mi (64 * cells r) m mi1 → K m mi1 ml1) : wI l M_X12_findNew (d + 6) [.ref z, .int u, .int v] kd mr mi ml K := by
  subst hu; subst hv
  have hc64 := O.w.2.2.2.2.2
  have h3 := O.2.2.2.2.1
  have hpw := pw_le h3
  refine w_X12_findNew tz (s_findHeard tz H O fun g0 ml0 hl0 hh => ?_)
  have Hg : ∀ g, Hd (pm_ur mi (z + 12) g) z k r := fun g => H.ur (by omega) (by omega)
  refine s_openZ tz (Hg g0) O fun op hop => s_everybody tz (Hg g0) O (s_heardBy tz (Hg g0) O hh rfl (by omega) fun w hw => ?_)
  have hun := cZ_diff hop hw
  generalize op &&& (w ^^^ (-1)) = un at hun
  have second : ∀ (ml1 : pm_L), (∀ a, a ≠ z + 17 → a ≠ z + 18 → ml1 a = ml a) → (∀ c, c < cells r → cZ r (ml1 (z + 18) c) fun e => reach r c (rgN t) e ∧ dueC r e) → ∀ (q a : Nat) (m : Int32) (mi1 : pm_I), a + q = cells r → RS r z k n t mi (64 * a) m mi1 → c_X12_findNew_62 l (d + 6) kd mr z (nI n) m (nI a) mi1 ml1 K := by
    intro ml1 hl hg q
    induction q with
    | zero =>
      intro a m mi1 ha S
      have : a = cells r := by omega
      subst this
      exact w_X12_findNew_62 tz ⟨fun _ => k9 m mi1 ml1 hl S, fun h => absurd (by rw [show mi1 z 27 = nI (cells r) from S.2.1.2.2.2.1]; exact nI_le (Nat.le_refl _) (by omega)) h⟩
    | succ q ih =>
      intro a m mi1 ha S
      have hac : a < cells r := by omega
      have out : ∀ (J : Nat) (m : Int32) (mi1 : pm_I), 64 * a + cells r ≤ J ∨ (n = 1 ∧ 64 * a + (a + 1) ≤ J) → J ≤ 64 * (a + 1) → RS r z k n t mi J m mi1 → c_X12_findNew_205 l (d + 6) kd mr z (nI n) m (nI a) mi1 ml1 K := by
        intro J m mi1 hJ hJ2 S
        refine w_X12_findNew_205 tz ?_
        rw [nI_1]
        exact ih (a + 1) m mi1 (by omega) ⟨S.1, S.2.1, S.2.2.skip hJ2 (vN_next O hJ)⟩
      have inner : ∀ (u b : Nat) (m : Int32) (mi1 : pm_I), b + u = cells r → (n = 1 → b = a ∨ b = a + 1) → (n = 2 → a < b) → RS r z k n t mi (64 * a + b) m mi1 → c_X12_findNew_87 l (d + 6) kd mr z (nI n) m (nI a) (nI b) mi1 ml1 K := by
        intro u
        induction u with
        | zero =>
          intro b m mi1 hb _ _ S
          have : b = cells r := by omega
          subst this
          exact w_X12_findNew_87 tz ⟨fun _ => out _ m mi1 (Or.inl (Nat.le_refl _)) (by omega) S, fun h => absurd (by rw [show mi1 z 27 = nI (cells r) from S.2.1.2.2.2.1]; exact nI_le (Nat.le_refl _) (by omega)) h⟩
        | succ u ihu =>
          intro b m mi1 hb h1 h2 S
          have hbc : b < cells r := by omega
          have go : (n = 1 → b = a) → c_X12_findNew_108 l (d + 6) kd mr z (nI n) m (nI a) (nI b) mi1 ml1 K := by
            intro h1'
            have nx : ∀ m' mi', RS r z k n t mi (64 * a + (b + 1)) m' mi' → c_X12_findNew_87 l (d + 6) kd mr z (nI n) m' (nI a) (nI (b + 1)) mi' ml1 K := fun m' mi' S' => ihu (b + 1) m' mi' (by omega) (fun q => Or.inr (by rw [h1' q])) (fun q => by have := h2 q; omega) S'
            have no : ¬ vN r n a b → c_X12_findNew_126 l (d + 6) kd mr z (nI n) m (nI a) (nI b) mi1 ml1 K := by
              intro hno
              have hm := S.2.2.m1 (gnN_le O t)
              refine w_X12_findNew_126 tz (w_X12_findNew_148 tz (w_X12_greater ?_))
              rw [gr_l hm, if_pos hm, if_pos hm, nI_1]
              refine nx m _ ⟨fun a' g1 g2 => by rw [pm_up_row _ _ g1, pm_up_row _ _ g1]; exact S.1 a' g1 g2, (S.2.1.up (Or.inr (Or.inr (by omega))) (by omega)).up (Or.inr (Or.inr (by omega))) (by omega), ?_⟩
              rw [pm_up_s, pm_up_j _ _ (show (41 : Nat) ≠ 42 by decide), pm_up_s]
              exact S.2.2.no (vN_lt O) (by omega) hno
            refine w_X12_findNew_108 tz (s_isWall tz S.2.1 O rfl hac ⟨fun hf => no fun hv => ?_, fun hf => s_isWall tz S.2.1 O rfl hbc ⟨fun hf2 => ⟨z_in (by omega) (by omega), z_in (by omega) (by omega), ?_⟩, fun hf2 => no fun hv => ?_⟩⟩)
            · rw [hv.2.2.1] at hf; cases hf
            · rw [z_cl (by omega), z_cl (by omega)]
              refine s_sizeZ ?_
              have hp : pop (ml1 (z + 18) a ||| ml1 (z + 18) b) = gnN r t a b := pop_cZ O (cZ_or (hg a hac) (hg b hbc))
              rw [hp]
              have hv : vN r n a b := ⟨hac, hbc, hf, hf2, h1', h2⟩
              refine w_X12_findNew_148 tz (w_X12_greater ?_)
              rw [nI_1]
              by_cases q : nI (gnN r t a b) ≤ m
              · rw [gr_l q, if_pos q, if_pos q]
                refine nx m _ ⟨fun a' g1 g2 => by rw [pm_up_row _ _ g1, pm_up_row _ _ g1]; exact S.1 a' g1 g2, (S.2.1.up (Or.inr (Or.inr (by omega))) (by omega)).up (Or.inr (Or.inr (by omega))) (by omega), ?_⟩
                rw [pm_up_s, pm_up_j _ _ (show (41 : Nat) ≠ 42 by decide), pm_up_s]
                exact S.2.2.ge (vN_lt O) (gnN_le O t) hv q
              · rw [gr_r q, if_neg q, if_neg q]
                refine nx _ _ ⟨fun a' g1 g2 => by rw [pm_up_row _ _ g1, pm_up_row _ _ g1]; exact S.1 a' g1 g2, (S.2.1.up (Or.inr (Or.inr (by omega))) (by omega)).up (Or.inr (Or.inr (by omega))) (by omega), ?_⟩
                rw [pm_up_s, pm_up_j _ _ (show (41 : Nat) ≠ 42 by decide), pm_up_s]
                exact S.2.2.lt (vN_lt O) (gnN_le O t) hv q (fun _ => rfl)
            · rw [hv.2.2.2.1] at hf2; cases hf2
          refine w_X12_findNew_87 tz ⟨fun h => absurd h (by rw [show mi1 z 27 = nI (cells r) from S.2.1.2.2.2.1]; exact nI_ge (by omega) (by omega)), fun _ => ⟨fun q => go fun q1 => ?_, fun q => ⟨fun q2 => ?_, fun q2 => go fun _ => ?_⟩⟩⟩
          · rw [q1] at q; exact absurd q (by decide)
          · have hn1 : n = 1 := by
              rcases hn with rfl | rfl
              · rfl
              · exact absurd rfl q
            have : b = a + 1 := by
              rcases h1 hn1 with rfl | e
              · exact absurd rfl q2
              · exact e
            subst this
            exact out _ m mi1 (Or.inr ⟨hn1, Nat.le_refl _⟩) (by omega) S
          · rw [z_eq (by omega) (by omega)] at q2; exact q2
      refine w_X12_findNew_62 tz ⟨fun h => absurd h (by rw [show mi1 z 27 = nI (cells r) from S.2.1.2.2.2.1]; exact nI_ge (by omega) (by omega)), fun _ => ?_⟩
      rcases hn with rfl | rfl
      · rw [if_pos (show nI 1 = 1 from rfl)]
        refine inner (cells r - a) a m mi1 (by omega) (fun _ => Or.inl rfl) (fun q => by omega) ⟨S.1, S.2.1, S.2.2.skip (by omega) fun a' b' g1 g2 => ?_⟩
        have := g1.2.2.2.2.1 rfl
        have b1 := g1.2.1
        omega
      · rw [if_neg (by decide), nI_1]
        refine inner (cells r - (a + 1)) (a + 1) m mi1 (by omega) (fun q => by omega) (fun _ => by omega) ⟨S.1, S.2.1, S.2.2.skip (by omega) fun a' b' g1 g2 => ?_⟩
        have := g1.2.2.2.2.2 rfl
        have b1 := g1.2.1
        omega
  have first : ∀ (q c : Nat) (g : Nat → Int32) (ml1 : pm_L), c + q = cells r → (∀ a, a ≠ z + 17 → a ≠ z + 18 → ml1 a = ml a) → (∀ c', c' < c → cZ r (ml1 (z + 18) c') fun e => reach r c' (rgN t) e ∧ dueC r e) → c_X12_findNew_25 l (d + 6) kd mr z (nI t) (nI n) un (nI c) (pm_ur mi (z + 12) g) ml1 K := by
    intro q
    induction q with
    | zero =>
      intro c g ml1 hc hl hg
      have : c = cells r := by omega
      subst this
      refine w_X12_findNew_25 tz ⟨fun _ => second ml1 hl hg (cells r) 0 (-1) _ (by omega) ⟨fun a _ ha => pm_ur_k _ _ ha, Hg g, Or.inl ⟨rfl, fun a b _ => by omega⟩⟩, fun h => absurd (by rw [show pm_ur mi (z + 12) g z 27 = nI (cells r) from (Hg g).2.2.2.1]; exact nI_le (Nat.le_refl _) (by omega)) h⟩
    | succ q ih =>
      intro c g ml1 hc hl hg
      refine w_X12_findNew_25 tz ⟨fun h => absurd h (by rw [show pm_ur mi (z + 12) g z 27 = nI (cells r) from (Hg g).2.2.2.1]; exact nI_ge (by omega) (by omega)), fun _ => s_heardFrom tz (Hg g) O rfl rfl (by omega) ht fun v g2 hv => ⟨z_in (by omega) (by omega), ?_⟩⟩
      rw [pm_ur_ur, z_cl (by omega), nI_1]
      refine ih (c + 1) g2 _ (by omega) (fun a h1 h2 => by rw [pm_up_row _ _ h2]; exact hl a h1 h2) fun c' hc' => ?_
      by_cases e : c' = c
      · subst e; rw [pm_up_s]; exact cZ_and hv hun
      · rw [pm_up_j _ _ e]; exact hg c' (by omega)
  exact first (cells r) 0 g0 ml0 (by omega) (fun a h1 _ => hl0 a h1) fun c' hc' => by omega
theorem z_cutL (y : Int32) {m : Nat} (hm : m < 2147483648) : (!decide (y < 0) && !decide (nI m ≤ y)) = isK y m := by
  rcases z_cases y with h | ⟨n, hn, rfl⟩
  · rw [isK_neg h, decide_eq_true h]; rfl
  · rw [isK_nI hn]
    have e1 : (nI n < 0) = False := z_nn hn
    have e2 : (nI m ≤ nI n) = (m ≤ n) := z_le hm hn
    simp only [e1, e2]
    by_cases q : n < m
    · have : ¬ m ≤ n := by omega
      simp [q, this]
    · have : m ≤ n := by omega
      simp [q, this]
/-- are there as many open cells as are asked for? -/
theorem vN_ex {n : Nat} (O : okC r) (hn : n = 1 ∨ n = 2) : (∃ a b, vN r n a b) ↔ n ≤ cnt (fun c => pb (wlC r c = false)) (cells r) := by
  constructor
  · rintro ⟨a, b, h1, h2, h3, h4, h5, h6⟩
    have m1 := cnt_slt (P := fun _ => false) (Q := fun i => pb (i = a)) (n := cells r) (j := a) (fun i _ h => by cases h) h1 (pb_iff.mpr rfl) (by decide)
    rcases hn with rfl | rfl
    · have := cnt_mono (P := fun i => pb (i = a)) (Q := fun c => pb (wlC r c = false)) (n := cells r) fun i _ h => by
        have := pb_iff.mp h
        subst this; exact pb_iff.mpr h3
      omega
    · have hab := h6 rfl
      have := cnt_slt (P := fun i => pb (i = a)) (Q := fun c => pb (wlC r c = false)) (n := cells r) (j := b) (fun i _ h => by
        have := pb_iff.mp h
        subst this; exact pb_iff.mpr h3) h2 (pb_iff.mpr h4) (fun h => by have := pb_iff.mp h; omega)
      omega
  · intro h
    have ex : ∀ (P : Nat → Bool) (m : Nat), 1 ≤ cnt P m → ∃ i, i < m ∧ P i = true := by
      intro P m
      induction m with
      | zero => intro h; unfold cnt at h; omega
      | succ m ih =>
        intro h
        by_cases e : P m = true
        · exact ⟨m, by omega, e⟩
        · unfold cnt at h
          rw [if_neg e] at h
          obtain ⟨i, h1, h2⟩ := ih (by omega)
          exact ⟨i, by omega, h2⟩
    obtain ⟨a, h1, h2⟩ := ex _ _ (show 1 ≤ cnt (fun c => pb (wlC r c = false)) (cells r) by omega)
    have h2 := pb_iff.mp h2
    rcases hn with rfl | rfl
    · exact ⟨a, a, h1, h1, h2, h2, fun _ => rfl, fun q => by omega⟩
    · have := cnt_less (P := fun c => pb (wlC r c = false)) (Q := fun c => pb (wlC r c = false) && decide (¬ c = a)) (j := a) (pb_iff.mpr h2) (cells r) h1 fun _ _ => rfl
      obtain ⟨b, g1, g2⟩ := ex _ _ (show 1 ≤ cnt (fun c => pb (wlC r c = false) && decide (¬ c = a)) (cells r) by omega)
      rw [Bool.and_eq_true, decide_eq_true_eq] at g2
      have g3 := pb_iff.mp g2.1
      rcases Nat.lt_or_gt_of_ne g2.2 with q | q
      · exact ⟨b, a, g1, h1, g3, h2, fun q => by omega, fun _ => q⟩
      · exact ⟨a, b, h1, g1, h2, g3, fun q => by omega, fun _ => q⟩
theorem c_fresh {a b c e : Int32} (tx : TX11s kd mr x) (tz : TX12s kd mr z) (I : IV x z mi ml) : wI l M_X11_fresh (d + 7) [.ref x, .int a, .int b, .int c, .int e] kd mr mi ml fun r mi1 ml1 => wI l M_X12_fresh (d + 7) [.ref z, .int a, .int b, .int c, .int e] kd mr mi1 ml1 fun r2 mi2 ml2 => r = r2 ∧ IV x z mi2 ml2 := by
  have f0 : ∀ (mi : pm_I) (ml : pm_L), frZ z mi (pm_up mi z 0 0) ml ml := fun _ _ => frZ.upI (Or.inl rfl)
  have hz := I.1
  refine w_X11_fresh tx (q_city tx I (fun m Im h => ⟨fun _ => ?_, fun b hb => (by cases hb)⟩) (fun m k r hr Im hk ha to O C => ⟨fun h => (by cases h), fun b4 hb4 => ?_⟩))
  · exact w_X12_fresh tz (p_handN tz Im h (pm_up_row _ _ (by omega)) (pm_up_row _ _ (by omega)) ⟨fun _ => ⟨rfl, I.smZ (f0 _ _)⟩, fun g => (by cases g)⟩)
  · cases hb4
    have hm := Im.1
    have ref : ∀ (v : Int32) (mi1 : pm_I) (ml1 : pm_L), frX x mi mi1 ml ml1 →
        ((isK b 4 = false ∨ c < 1 ∨ 2 < c ∨ e < 0 ∨ c < e) ∧ v = -1 ∨ ∃ t n w, b = nI t ∧ c = nI n ∧ e = nI w ∧ t < 4 ∧ (n = 1 ∨ n = 2) ∧ w ≤ n ∧ (((¬ ∃ a b, vN r n a b) ∧ v = -1) ∨ ∃ a b, FM (vN r n) (gnN r t) (64 * cells r) a b ∧ v = if w = 0 then nI (gnN r t a b) else if w = 1 then nI a else nI b)) →
        wI l M_X12_fresh (d + 7) [.ref z, .int a, .int b, .int c, .int e] kd mr mi1 ml1 fun r2 mi2 ml2 => v = r2 ∧ IV x z mi2 ml2 := by
      intro v mi1 ml1 fx hv
      refine w_X12_fresh tz (q_hand tz Im hr hk ha (by rw [pm_up_row _ _ (by omega)]; exact (fx _ (by omega)).1) (by rw [pm_up_row _ _ (by omega)]; exact (fx _ (by omega)).1) fun mi' f g1 g2 H => ⟨fun g => (by cases g), fun _ => ?_⟩)
      have I2 : IV x z mi' ml1 := (I.smX fx).smZ ((f0 _ _).tr f)
      rcases hv with ⟨hbad, rfl⟩ | ⟨t, n, w, rfl, rfl, rfl, ht, hn, hw, hv⟩
      · refine s_in2 (m := 3) rfl (by omega) ⟨fun _ => ⟨rfl, I2⟩, fun k1 => w_X12_in ⟨fun _ => ⟨rfl, I2⟩, fun k2 => w_X12_in ⟨fun k3 => ?_, fun _ => ⟨rfl, I2⟩⟩⟩⟩
        rw [Bool.and_eq_true, Bool.not_eq_true', Bool.not_eq_true', decide_eq_false_iff_not, decide_eq_false_iff_not] at k2 k3
        rcases hbad with q | q | q | q | q
        · rw [q] at k1; cases k1
        · exact absurd q k2.1
        · exact absurd q k2.2
        · exact absurd q k3.1
        · exact absurd q k3.2
      · have hn2 : n < 3 := by omega
        have e1 : isK (nI t) (3 + 1) = true := by rw [isK_nI (by omega)]; exact decide_eq_true ht
        have e2 : (!decide (nI n < 1) && !decide (2 < nI n)) = true := by
          rcases hn with rfl | rfl <;> decide
        have e3 : (!decide (nI w < 0) && !decide (nI n < nI w)) = true := by
          have a1 : (nI w < 0) = False := z_nn (by omega)
          have a2 : (nI n < nI w) = (n < w) := z_lt (by omega) (by omega)
          simp only [a1, a2]
          have : ¬ n < w := by omega
          simp [this]
        refine s_in2 (m := 3) rfl (by omega) ⟨fun k1 => ?_, fun _ => w_X12_in ⟨fun k1 => ?_, fun _ => w_X12_in ⟨fun _ => ?_, fun k1 => ?_⟩⟩⟩
        · rw [e1] at k1; cases k1
        · rw [e2] at k1; cases k1
        · refine s_findNew tz H O hn ht rfl rfl fun m2 mi2 ml2 hl2 S => ⟨?_, ?_⟩
          · rcases hv with ⟨h1, rfl⟩ | ⟨a, b, h1, rfl⟩
            · rcases S.2.2 with ⟨rfl, -⟩ | ⟨a, b, h2, -⟩
              · rfl
              · exact absurd ⟨a, b, h2.1⟩ h1
            · rcases S.2.2 with ⟨-, h2⟩ | ⟨a2, b2, h2, rfl, h3, h4⟩
              · exact absurd h1.2.1 (h2 a b h1.1)
              · obtain ⟨rfl, rfl⟩ := h1.uniq (vN_lt O) h2
                have hgl := gnN_le O t a b
                rw [if_neg (z_eq1 (by omega)), h3]
                have c1 : (nI w = 0) = (w = 0) := z_eq (b := 0) (by omega) (by omega)
                have c2 : (nI w = 1) = (w = 1) := z_eq (b := 1) (by omega) (by omega)
                by_cases w0 : w = 0
                · rw [if_pos w0, if_pos (c1.mpr w0)]
                · rw [if_neg w0, if_neg (fun q => w0 (c1.mp q))]
                  by_cases w1 : w = 1
                  · rw [if_pos w1, if_pos (c2.mpr w1)]; rfl
                  · rw [if_neg w1, if_neg (fun q => w1 (c2.mp q)), h4 (by omega)]; rfl
          · exact I2.smZ fun a ha => ⟨S.1 a (by omega) (by omega), hl2 a (by omega) (by omega)⟩
        · rw [e3] at k1; cases k1
    have bad : (isK b 4 = false ∨ c < 1 ∨ 2 < c ∨ e < 0 ∨ c < e) → wI l M_X12_fresh (d + 7) [.ref z, .int a, .int b, .int c, .int e] kd mr mi ml fun r2 mi2 ml2 => -1 = r2 ∧ IV x z mi2 ml2 := fun q => ref _ _ _ frX.rf (Or.inl ⟨q, rfl⟩)
    refine ⟨to, fun k1 => bad (Or.inl ?_), fun k1 => ⟨fun k2 => bad (Or.inr (Or.inl k2)), fun k2 => ⟨fun k3 => bad (Or.inr (Or.inr (Or.inl k3))), fun k3 => ⟨fun k4 => bad (Or.inr (Or.inr (Or.inr (Or.inl k4)))), fun k4 => ⟨fun k5 => ?_, fun k5 => bad (Or.inr (Or.inr (Or.inr (Or.inr ?_))))⟩⟩⟩⟩⟩
    · rw [← z_cutL b (m := 4) (by omega)]; exact k1
    · have hb : isK b 4 = true := by rw [← z_cutL b (m := 4) (by omega)]; exact k1
      obtain ⟨t, ht, ht2, rfl⟩ := isK_iff.mp hb
      obtain ⟨n, hn, rfl, hn12⟩ : ∃ n : Nat, n < 2147483648 ∧ c = nI n ∧ (n = 1 ∨ n = 2) := by
        rcases z_cases c with q | ⟨n, hn, rfl⟩
        · exact absurd (z_ltm q (a := 1) (by omega)) k2
        · refine ⟨n, hn, rfl, ?_⟩
          have c1 : (nI n < 1) = (n < 1) := z_lt (b := 1) (by omega) (by omega)
          have c2 : (2 < nI n) = (2 < n) := z_lt (a := 2) (by omega) (by omega)
          have d1 : ¬ n < 1 := fun q => k2 (c1.mpr q)
          have d2 : ¬ 2 < n := fun q => k3 (c2.mpr q)
          omega
      obtain ⟨w, hw2, rfl⟩ : ∃ w : Nat, w < 2147483648 ∧ e = nI w := by
        rcases z_cases e with q | q
        · exact absurd q k4
        · exact q
      rw [z_le hw2 hn] at k5
      have C0 := C
      refine s_openX to C O fun op hop => s_popX ?_
      have hp : pop op = cnt (fun c => pb (wlC r c = false)) (cells r) := pop_cS O (cS_open hop)
      have hpl := pop_le op
      rw [z_le hn (by omega), hp, ← vN_ex O hn12]
      refine ⟨fun hV => ?_, fun hV => ref _ _ _ frX.rf (Or.inr ⟨t, n, w, rfl, rfl, rfl, ht, hn12, k5, Or.inl ⟨hV, rfl⟩⟩)⟩
      refine q_listen tx to (by omega) C O fun mi1 ml1 fx f1 f2 C1 hx => ⟨z_in (by omega) (by omega), fun g hg => ?_⟩
      have hg : g = nI (rgN t) := by
        rw [z_cl (by omega)] at hg
        rcases (show t = 0 ∨ t = 1 ∨ t = 2 ∨ t = 3 by omega) with rfl | rfl | rfl | rfl <;> (cases hg; rfl)
      refine s_bestPlaces (TX11s_a5 tx) to C1 O hx (by omega) hn12 k5 hV hg rfl rfl fun a b mi2 ml2 q1 q2 hF => ref _ _ _ (fx.tr fun a ha => ⟨q1 a (by omega), q2 a (by omega) (by omega)⟩) (Or.inr ⟨t, n, w, rfl, rfl, rfl, ht, hn12, k5, Or.inr ⟨a, b, hF, rfl⟩⟩)
    · rw [Int32.lt_iff_toInt_lt]
      rw [Int32.le_iff_toInt_le] at k5
      omega
end FRESH
