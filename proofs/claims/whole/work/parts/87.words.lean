/-! words -/
def chN : List (List Nat) := [[102, 105, 100, 100, 108, 101, 32, 102, 108, 117, 116, 101, 32, 100, 114, 117, 109, 32, 104, 111, 114, 110, 32, 99, 105, 116, 105, 122, 101, 110, 32, 116, 104, 105, 101, 102, 32, 99, 104, 105, 108, 100, 32, 100, 101, 97, 102, 32, 119, 97, 108, 108, 32, 115, 105, 122, 101, 32, 119, 105, 110, 100, 32, 118, 97, 108, 117, 101, 32], [115, 116, 97, 110, 100, 32, 102, 114, 101, 101, 32, 116, 101, 108, 108, 32, 109, 97, 114, 99, 104, 32], [115, 116, 97, 110, 100, 32, 102, 114, 101, 101, 32, 116, 101, 108, 108, 32, 109, 97, 114, 99, 104, 32, 119, 97, 108, 107, 32, 103, 111, 32, 114, 101, 115, 116, 32], [100, 101, 110, 105, 101, 115, 32, 115, 97, 121, 115, 32, 118, 111, 105, 99, 101, 115, 32, 116, 104, 105, 101, 118, 101, 115, 32], [113, 117, 105, 101, 116, 32, 108, 111, 117, 100, 32]]
def wl : Nat → List (List Nat)
  | 0 => [[102, 105, 100, 100, 108, 101], [102, 108, 117, 116, 101], [100, 114, 117, 109], [104, 111, 114, 110], [99, 105, 116, 105, 122, 101, 110], [116, 104, 105, 101, 102], [99, 104, 105, 108, 100], [100, 101, 97, 102], [119, 97, 108, 108], [115, 105, 122, 101], [119, 105, 110, 100], [118, 97, 108, 117, 101]]
  | 1 => [[115, 116, 97, 110, 100], [102, 114, 101, 101], [116, 101, 108, 108], [109, 97, 114, 99, 104]]
  | 2 => [[115, 116, 97, 110, 100], [102, 114, 101, 101], [116, 101, 108, 108], [109, 97, 114, 99, 104], [119, 97, 108, 107], [103, 111], [114, 101, 115, 116]]
  | 3 => [[100, 101, 110, 105, 101, 115], [115, 97, 121, 115], [118, 111, 105, 99, 101, 115], [116, 104, 105, 101, 118, 101, 115]]
  | _ => [[113, 117, 105, 101, 116], [108, 111, 117, 100]]
theorem ch_N : ∀ k, k < 5 → ∀ j, j < pm_len.getD k 0 → chS k j = (chN.getD k []).getD j 0 := by decide +kernel
theorem ch_lenN : ∀ k, k < 5 → pm_len.getD k 0 = (chN.getD k []).length := by decide +kernel
def fwN (c : List Nat) : Nat → Nat × Nat
  | 0 => (0, 0)
  | j + 1 => if c.getD j 0 = 32 then (j + 1, (fwN c j).2 + 1) else fwN c j
theorem fw_ok : ∀ k, k < 5 → ∀ j, j < (chN.getD k []).length → (fwN (chN.getD k []) j).1 ≤ j ∧ ((chN.getD k []).getD j 0 = 32 → (fwN (chN.getD k []) j).2 < (wl k).length ∧ (wl k).getD (fwN (chN.getD k []) j).2 [] = (List.range (j - (fwN (chN.getD k []) j).1)).map fun i => (chN.getD k []).getD ((fwN (chN.getD k []) j).1 + i) 0) := by decide +kernel
theorem fw_end : ∀ k, k < 5 → (fwN (chN.getD k []) (chN.getD k []).length).2 = (wl k).length := by decide +kernel
theorem wl_inj : ∀ k, k < 5 → ∀ w, w < (wl k).length → ∀ w', w' < (wl k).length → (wl k).getD w [] = (wl k).getD w' [] → w = w' := by decide +kernel
theorem wl_len : ∀ k, k < 5 → (wl k).length ≤ 12 := by decide +kernel
def ixF : List (List Nat) → List Nat → Option Nat
  | [], _ => none
  | y :: L, x => if y = x then some 0 else (ixF L x).map (· + 1)
theorem ixF_some {x : List Nat} : ∀ {L : List (List Nat)} {w : Nat}, ixF L x = some w → w < L.length ∧ L.getD w [] = x := by
  intro L
  induction L with
  | nil => intro w h; cases h
  | cons y L ih =>
    intro w h
    unfold ixF at h
    split at h
    · rename_i q
      cases h
      exact ⟨Nat.succ_pos _, q⟩
    · cases e : ixF L x with
      | none => rw [e] at h; cases h
      | some v =>
        rw [e] at h
        cases h
        obtain ⟨g1, g2⟩ := ih e
        exact ⟨Nat.succ_lt_succ g1, g2⟩
theorem ixF_none {x : List Nat} : ∀ {L : List (List Nat)}, ixF L x = none → ∀ w, w < L.length → L.getD w [] ≠ x := by
  intro L
  induction L with
  | nil => intro _ w hw; exact absurd hw (Nat.not_lt_zero w)
  | cons y L ih =>
    intro h w hw
    unfold ixF at h
    split at h
    · cases h
    · rename_i q
      cases e : ixF L x with
      | none =>
        cases w with
        | zero => exact q
        | succ w => exact ih e w (Nat.lt_of_succ_lt_succ hw)
      | some v => rw [e] at h; cases h
theorem ixF_of {k w : Nat} {x : List Nat} (hk : k < 5) (hw : w < (wl k).length) (h : (wl k).getD w [] = x) : ixF (wl k) x = some w := by
  cases e : ixF (wl k) x with
  | none => exact absurd h (ixF_none e w hw)
  | some v =>
    obtain ⟨g1, g2⟩ := ixF_some e
    rw [wl_inj k hk v g1 w hw (g2.trans h.symm)]
theorem mr_eq {a b : Nat} {f g : Nat → Nat} : (List.range a).map f = (List.range b).map g ↔ a = b ∧ ∀ i, i < a → f i = g i := by
  constructor
  · intro h
    have hl := congrArg List.length h
    simp at hl
    subst hl
    refine ⟨rfl, fun i hi => ?_⟩
    have := congrArg (fun l : List Nat => l[i]?) h
    simpa [hi] using this
  · rintro ⟨rfl, h⟩
    exact List.map_congr_left fun i hi => h i (List.mem_range.mp hi)
/-- the number of the word that begins at s, in the k-th list -/
def wdO (t : Nat → Nat) (n k s : Nat) : Option Nat := if tkK t n s = 1 then ixF (wl k) (tkW t n s) else none
def noteF (f p : Nat) (F : Nat × Nat) : Nat × Nat := if F.1 = 0 then (f, p) else F
/-- the class's reader at the token that begins at s, with a FAULT told so far, not stuck -/
def stX (mi : pm_I) (h : Nat) (t : Nat → Nat) (n s : Nat) (F : Nat × Nat) : Prop := tkX mi h t n s ∧ mi h 6 = nI F.1 ∧ F.1 ≠ 1 ∧ F.1 < 6 ∧ (F.1 ≠ 0 → mi h 7 = nI F.2) ∧ (F.1 = 0 → mi h 7 = -1)
def skX (mi : pm_I) (h p : Nat) : Prop := mi h 6 = 1 ∧ mi h 7 = nI p
def fH (h : Nat) (mi mi' : pm_I) : Prop := (∀ a, a ≠ h → mi' a = mi a) ∧ ∀ j, (j < 2 ∨ 7 < j) → mi' h j = mi h j
theorem fH.rf {h : Nat} {mi : pm_I} : fH h mi mi := ⟨fun _ _ => rfl, fun _ _ => rfl⟩
theorem fH.tr {h : Nat} {mi mi1 mi2 : pm_I} (h1 : fH h mi mi1) (h2 : fH h mi1 mi2) : fH h mi mi2 := ⟨fun a g => (h2.1 a g).trans (h1.1 a g), fun j g => (h2.2 j g).trans (h1.2 j g)⟩
theorem fG.H {h : Nat} {mi mi' : pm_I} (f : fG h mi mi') : fH h mi mi' := ⟨f.1, fun j g => f.2 j (by omega)⟩
theorem fH.up {h j : Nat} {mi mi' : pm_I} {v : Int32} (f : fH h mi mi') (hj : 2 ≤ j ∧ j ≤ 7) : fH h mi (pm_up mi' h j v) := ⟨fun a g => (pm_up_row _ _ g).trans (f.1 a g), fun i g => (pm_up_j _ _ (by omega)).trans (f.2 i g)⟩
theorem tpX.fH {mi mi' : pm_I} {h n : Nat} {t : Nat → Nat} (P : tpX mi h t n) (f : fH h mi mi') : tpX mi' h t n := by
  unfold tpX at P ⊢
  rw [f.2 1 (by omega), f.1 (h + 1) (by omega)]; exact P
theorem stX.fG {mi mi' : pm_I} {h n s s' : Nat} {t : Nat → Nat} {F : Nat × Nat} (X : stX mi h t n s F) (f : fG h mi mi') (g : tkX mi' h t n s') : stX mi' h t n s' F := by
  obtain ⟨-, h1, h2, h3, h4, h5⟩ := X
  refine ⟨g, ?_, h2, h3, ?_, ?_⟩
  · rw [f.2 6 (by omega)]; exact h1
  · rw [f.2 7 (by omega)]; exact h4
  · rw [f.2 7 (by omega)]; exact h5
section WRD
variable {l : Launch} {d h : Nat} {kd : pm_K} {mr : pm_R} {mi : pm_I} {ml : pm_L} {t : Nat → Nat} {n s p : Nat} {F : Nat × Nat}
theorem stX.n1 (X : stX mi h t n s F) : ¬ mi h 6 = 1 := by
  obtain ⟨-, h1, h2, h3, -⟩ := X
  rw [h1]
  have : (nI F.1 = (1 : Int32)) = (F.1 = 1) := z_eq (b := 1) (by omega) (by omega)
  rw [this]; exact h2
theorem s_isToken {k a b : Nat} {u v : Int32} {K : Bool → pm_I → pm_L → Prop} (th : TX5s kd mr h) (P : tpX mi h t n) (X : tkX mi h t n s) (hk : k < 5) (hu : u = nI a) (hv : v = nI b) (hab : a ≤ b) (hb : b ≤ (chN.getD k []).length)
    (k9 : K (decide ((List.range (b - a)).map (fun i => (chN.getD k []).getD (a + i) 0) = tkW t n s)) mi ml) : wB l M_X5_isToken (d + 4) [.ref h, .retAddr k, .int u, .int v] kd mr mi ml K := by
  subst hu; subst hv
  obtain ⟨l1, -⟩ := ch_len k hk
  have lN := ch_lenN k hk
  obtain ⟨X1, X2, -, -, X5⟩ := X
  have n600 := P.2.1
  have hE : s ≤ tkE t n s ∧ tkE t n s ≤ n := by
    by_cases q : s < n
    · have := tkE_lt (t := t) q; omega
    · rw [tkE_end (by omega)]; omega
  refine w_X5_isToken th hk ?_
  rw [X1, X2, z_sub hab, z_sub hE.1]
  have e1 : (nI (b - a) = nI (tkE t n s - s)) = (b - a = tkE t n s - s) := z_eq (by omega) (by omega)
  rw [e1]
  have loop : ∀ (q i : Nat), i + q = b - a → b - a = tkE t n s - s → (∀ j, j < i → (chN.getD k []).getD (a + j) 0 = t (s + j)) → c_X5_isToken_20 l (d + 4) kd mr h k (nI a) (nI b) (nI i) mi ml K := by
    intro q
    induction q with
    | zero =>
      intro i hi hl hm
      have : i = b - a := by omega
      subst this
      refine w_X5_isToken_20 th hk ⟨fun _ => ?_, fun g => absurd (by rw [z_sub hab]; exact nI_le (Nat.le_refl _) (by omega)) g⟩
      have : ((List.range (b - a)).map fun i => (chN.getD k []).getD (a + i) 0) = tkW t n s := mr_eq.mpr ⟨hl, hm⟩
      rw [decide_eq_true this] at k9; exact k9
    | succ q ih =>
      intro i hi hl hm
      refine w_X5_isToken_20 th hk ⟨fun g => absurd g (by rw [z_sub hab]; exact nI_ge (by omega) (by omega)), fun _ => s_charAt hk (nI_add a i) (by omega) (s_byteAt th P (p := s + i) (by rw [X1]; exact nI_add s i) (by omega) ?_)⟩
      have tb := (P.2.2 (s + i) (by omega)).2
      have cb := (ch_ok k hk (a + i) (by omega)).2
      have e2 : (nI (chS k (a + i)) = nI (t (s + i))) = (chS k (a + i) = t (s + i)) := z_eq (by omega) (by omega)
      rw [e2, ch_N k hk _ (by omega)]
      refine ⟨fun g => ?_, fun g => ?_⟩
      · rw [nI_1]
        refine ih (i + 1) (by omega) hl fun j hj => ?_
        by_cases e : j = i
        · subst e; exact g
        · exact hm j (by omega)
      · have : ¬ ((List.range (b - a)).map fun i => (chN.getD k []).getD (a + i) 0) = tkW t n s := fun z => g ((mr_eq.mp z).2 i (by omega))
        rw [decide_eq_false this] at k9; exact k9
  refine ⟨fun g => loop (b - a) 0 (by omega) g fun j hj => by omega, fun g => ?_⟩
  have : ¬ ((List.range (b - a)).map fun i => (chN.getD k []).getD (a + i) 0) = tkW t n s := fun z => g (mr_eq.mp z).1
  rw [decide_eq_false this] at k9; exact k9
theorem s_wordIn {k : Nat} {K : Int32 → pm_I → pm_L → Prop} (th : TX5s kd mr h) (P : tpX mi h t n) (X : tkX mi h t n s) (hk : k < 5) (kw : ∀ w, ixF (wl k) (tkW t n s) = some w → K (nI w) mi ml) (kn : ixF (wl k) (tkW t n s) = none → K (-1) mi ml) : wI l M_X5_wordIn (d + 5) [.ref h, .retAddr k] kd mr mi ml K := by
  obtain ⟨l1, -⟩ := ch_len k hk
  have lN := ch_lenN k hk
  have loop : ∀ (q j : Nat), j + q = (chN.getD k []).length → (∀ w, w < (fwN (chN.getD k []) j).2 → (wl k).getD w [] ≠ tkW t n s) → c_X5_wordIn_7 l (d + 5) kd mr h k (nI (fwN (chN.getD k []) j).1) (nI (fwN (chN.getD k []) j).2) (nI j) mi ml K := by
    intro q
    induction q with
    | zero =>
      intro j hj hno
      have : j = (chN.getD k []).length := by omega
      subst this
      refine w_X5_wordIn_7 th hk (s_strLen hk ⟨fun _ => kn ?_, fun g => absurd (by rw [lN]; exact nI_le (Nat.le_refl _) (by omega)) g⟩)
      rw [fw_end k hk] at hno
      cases e : ixF (wl k) (tkW t n s) with
      | none => rfl
      | some w =>
        obtain ⟨g1, g2⟩ := ixF_some e
        exact absurd g2 (hno w g1)
    | succ q ih =>
      intro j hj hno
      obtain ⟨f1, f2⟩ := fw_ok k hk j (by omega)
      have cb := (ch_ok k hk j (by omega)).2
      have e32 : (nI (chS k j) = (32 : Int32)) = (chS k j = 32) := z_eq (b := 32) (by omega) (by omega)
      have on : (∀ w, w < (fwN (chN.getD k []) (j + 1)).2 → (wl k).getD w [] ≠ tkW t n s) → c_X5_wordIn_48 l (d + 5) kd mr h k (nI (fwN (chN.getD k []) (j + 1)).1) (nI (fwN (chN.getD k []) (j + 1)).2) (nI j) mi ml K := by
        intro hno2
        refine w_X5_wordIn_48 th hk ?_
        rw [nI_1]
        exact ih (j + 1) (by omega) hno2
      refine w_X5_wordIn_7 th hk (s_strLen hk ⟨fun g => absurd g (by rw [lN]; exact nI_ge (by omega) (by omega)), fun _ => s_charAt hk rfl (by omega) ?_⟩)
      rw [e32, ch_N k hk j (by omega)]
      have eF : fwN (chN.getD k []) (j + 1) = if (chN.getD k []).getD j 0 = 32 then (j + 1, (fwN (chN.getD k []) j).2 + 1) else fwN (chN.getD k []) j := rfl
      refine ⟨fun g => ?_, fun g => ?_⟩
      · rw [eF, if_neg g] at on
        exact on hno
      · obtain ⟨g1, g2⟩ := f2 g
        refine s_isToken th P X hk rfl rfl f1 (by omega) ?_
        rw [← g2]
        rw [eF, if_pos g] at on
        refine ⟨fun h9 => ?_, fun h9 => ?_⟩
        · rw [nI_1, nI_1]
          refine on fun w hw => ?_
          have hw : w < (fwN (chN.getD k []) j).2 + 1 := hw
          by_cases e : w = (fwN (chN.getD k []) j).2
          · subst e; exact of_decide_eq_false h9
          · exact hno w (by omega)
        · exact kw _ (ixF_of hk g1 (of_decide_eq_true h9))
  exact w_X5_wordIn th hk (loop (chN.getD k []).length 0 (by omega) fun w hw => absurd hw (Nat.not_lt_zero w))
theorem s_stick {K : pm_I → pm_L → Prop} (th : TX5s kd mr h) (X : stX mi h t n s F) (k9 : ∀ mi', fH h mi mi' → skX mi' h s → K mi' ml) : wV l M_X5_stick d [.ref h] kd mr mi ml K := by
  refine w_X5_stick th ⟨fun g => absurd g X.n1, fun _ => k9 _ ((fH.rf.up (by omega)).up (by omega)) ⟨?_, ?_⟩⟩
  · rw [pm_up_j _ _ (by decide), pm_up_s]
  · rw [pm_up_s]; exact X.1.1
theorem s_stick_sk {K : pm_I → pm_L → Prop} (th : TX5s kd mr h) (X : skX mi h p) (k9 : K mi ml) : wV l M_X5_stick d [.ref h] kd mr mi ml K := w_X5_stick th ⟨fun _ => k9, fun g => absurd X.1 g⟩
theorem s_takeWord {k : Nat} {K : Int32 → pm_I → pm_L → Prop} (th : TX5s kd mr h) (P : tpX mi h t n) (X : stX mi h t n s F) (hk : k < 5)
    (kw : ∀ w mi', wdO t n k s = some w → fH h mi mi' → stX mi' h t n (nx t n s) F → K (nI w) mi' ml) (ks : ∀ mi', wdO t n k s = none → fH h mi mi' → skX mi' h s → K (-1) mi' ml) : wI l M_X5_takeWord (d + 6) [.ref h, .retAddr k] kd mr mi ml K := by
  have k5 := tkK_5 (t := t) (n := n) (s := s)
  have e1 : (mi h 4 = (1 : Int32)) = (tkK t n s = 1) := by rw [X.1.2.2.1]; exact z_eq (b := 1) (by omega) (by omega)
  have wl12 := wl_len k hk
  refine w_X5_takeWord th hk ⟨fun g => absurd g X.n1, fun _ => ?_⟩
  rw [e1]
  refine ⟨fun g => w_X5_takeWord_24 th hk (w_X5_takeWord_25 th hk ⟨fun z => absurd rfl z, fun _ => s_stick th X fun mi' f sk => ks mi' (if_neg g) f sk⟩), fun g => s_wordIn th P X.1 hk (fun w hw => ?_) (fun hw => ?_)⟩
  · have w12 := (ixF_some hw).1
    have hE : tkE t n s ≤ n := by
      by_cases q : s < n
      · exact (tkE_lt q).2
      · rw [tkE_end (by omega)]; exact X.1.2.2.2.2
    exact w_X5_takeWord_25 th hk ⟨fun _ => s_goOn th P X.1.2.1 hE fun mi' f gk => kw w mi' ((if_pos g).trans hw) f.H (X.fG f gk), fun z => absurd z (nI_m1' (by omega))⟩
  · exact w_X5_takeWord_25 th hk ⟨fun z => absurd rfl z, fun _ => s_stick th X fun mi' f sk => ks mi' ((if_pos g).trans hw) f sk⟩
theorem s_takeWord_sk {k : Nat} {K : Int32 → pm_I → pm_L → Prop} (th : TX5s kd mr h) (X : skX mi h p) (hk : k < 5) (k9 : K (-1) mi ml) : wI l M_X5_takeWord (d + 1) [.ref h, .retAddr k] kd mr mi ml K :=
  w_X5_takeWord th hk ⟨fun _ => w_X5_takeWord_24 th hk (w_X5_takeWord_25 th hk ⟨fun z => absurd rfl z, fun _ => s_stick_sk th X k9⟩), fun g => absurd X.1 g⟩
theorem s_note {f : Nat} {u v : Int32} {K : pm_I → pm_L → Prop} (th : TX5s kd mr h) (X : stX mi h t n s F) (hf : f ≠ 0 ∧ f ≠ 1 ∧ f < 6) (hu : u = nI f) (hv : v = nI p) (k9 : ∀ mi', fH h mi mi' → stX mi' h t n s (noteF f p F) → K mi' ml) : wV l M_X5_note d [.ref h, .int u, .int v] kd mr mi ml K := by
  subst hu; subst hv
  obtain ⟨X1, X2, X3, X4, X5, X6⟩ := id X
  have e0 : (mi h 6 = (0 : Int32)) = (F.1 = 0) := by rw [X2]; exact z_eq (b := 0) (by omega) (by omega)
  refine w_X5_note th ?_
  rw [e0]
  refine ⟨fun g => k9 mi fH.rf ?_, fun g => k9 _ ((fH.rf.up (by omega)).up (by omega)) ?_⟩
  · unfold noteF; rw [if_neg g]; exact X
  · unfold noteF; rw [if_pos g]
    refine ⟨?_, ?_, hf.2.1, hf.2.2, fun _ => ?_, fun z => absurd z hf.1⟩
    · unfold tkX at X1 ⊢
      have e : ∀ j, j < 6 → pm_up (pm_up mi h 6 (nI f)) h 7 (nI p) h j = mi h j := fun j hj => by rw [pm_up_j _ _ (by omega), pm_up_j _ _ (by omega)]
      rw [e 2 (by omega), e 3 (by omega), e 4 (by omega), e 5 (by omega)]
      exact X1
    · rw [pm_up_j _ _ (by decide), pm_up_s]
    · rw [pm_up_s]
theorem s_note_sk {u v : Int32} {K : pm_I → pm_L → Prop} (th : TX5s kd mr h) (X : skX mi h p) (k9 : K mi ml) : wV l M_X5_note d [.ref h, .int u, .int v] kd mr mi ml K := w_X5_note th ⟨fun _ => k9, fun g => absurd (X.1.symm.trans g) (by decide)⟩
/-- a number: its value, what is told behind it -/
def nmV (t : Nat → Nat) (n lo hi s : Nat) : Nat := if lo ≤ tkV t n s ∧ tkV t n s ≤ hi then tkV t n s else lo
def nmF (t : Nat → Nat) (n lo hi s : Nat) (F : Nat × Nat) : Nat × Nat := if lo ≤ tkV t n s ∧ tkV t n s ≤ hi then F else noteF 2 s F
theorem s_takeNumber {lo hi : Nat} {u v : Int32} {K : Int32 → pm_I → pm_L → Prop} (th : TX5s kd mr h) (P : tpX mi h t n) (X : stX mi h t n s F) (hu : u = nI lo) (hv : v = nI hi) (hlo : lo < 100 ∧ hi < 100)
    (kn : ∀ mi', tkK t n s = 2 → fH h mi mi' → stX mi' h t n (nx t n s) (nmF t n lo hi s F) → K (nI (nmV t n lo hi s)) mi' ml) (ks : ∀ mi', tkK t n s ≠ 2 → fH h mi mi' → skX mi' h s → K (nI lo) mi' ml) : wI l M_X5_takeNumber (d + 3) [.ref h, .int u, .int v] kd mr mi ml K := by
  subst hu; subst hv
  have k5 := tkK_5 (t := t) (n := n) (s := s)
  have e2 : (mi h 4 = (2 : Int32)) = (tkK t n s = 2) := by rw [X.1.2.2.1]; exact z_eq (b := 2) (by omega) (by omega)
  have n600 := P.2.1
  refine w_X5_takeNumber th ⟨fun g => absurd g X.n1, fun _ => ?_⟩
  rw [e2]
  refine ⟨fun g => ?_, fun g => w_X5_takeNumber_16 th (s_stick th X fun mi' f sk => ks mi' g f sk)⟩
  have v100 := tkV_100 (fun i hi => (P.2.2 i hi).2) g
  rw [X.1.2.2.2.1 g, z_lt (by omega) (by omega), z_le (by omega) (by omega)]
  have go : ∀ (x : Nat) (mi1 : pm_I) (F' : Nat × Nat), fH h mi mi1 → stX mi1 h t n s F' → (∀ mi', fH h mi mi' → stX mi' h t n (nx t n s) F' → K (nI x) mi' ml) → c_X5_takeNumber_48 l (d + 3) kd mr h (nI x) mi1 ml K := by
    intro x mi1 F' f1 X1 kk
    have hE : tkE t n s ≤ n := by
      by_cases q : s < n
      · exact (tkE_lt q).2
      · rw [tkE_end (by omega)]; exact X.1.2.2.2.2
    exact w_X5_takeNumber_48 th (s_goOn th (P.fH f1) X1.1.2.1 hE fun mi' f gk => kk mi' (f1.tr f.H) (X1.fG f gk))
  have bad : (¬ (lo ≤ tkV t n s ∧ tkV t n s ≤ hi)) → c_X5_takeNumber_37 l (d + 3) kd mr h (nI lo) mi ml K := by
    intro hb
    refine w_X5_takeNumber_37 th (s_note (f := 2) (p := s) th X ⟨by decide, by decide, by decide⟩ rfl X.1.1 fun mi' f1 X1 => go lo mi' _ f1 X1 fun mi2 f2 X2 => ?_)
    have a := kn mi2 g f2
    unfold nmF nmV at a
    rw [if_neg hb, if_neg hb] at a
    exact a X2
  refine ⟨fun h1 => bad fun q => by omega, fun h1 => ⟨fun h2 => go (tkV t n s) mi F fH.rf X fun mi2 f2 X2 => ?_, fun h2 => bad fun q => h2 q.2⟩⟩
  have hok : lo ≤ tkV t n s ∧ tkV t n s ≤ hi := ⟨by omega, h2⟩
  have a := kn mi2 g f2
  unfold nmF nmV at a
  rw [if_pos hok, if_pos hok] at a
  exact a X2
theorem s_takeNumber_sk {u v : Int32} {K : Int32 → pm_I → pm_L → Prop} (th : TX5s kd mr h) (X : skX mi h p) (k9 : K u mi ml) : wI l M_X5_takeNumber (d + 1) [.ref h, .int u, .int v] kd mr mi ml K := w_X5_takeNumber th ⟨fun _ => w_X5_takeNumber_16 th (s_stick_sk th X k9), fun g => absurd X.1 g⟩
theorem s_takeSemi {K : pm_I → pm_L → Prop} (th : TX5s kd mr h) (P : tpX mi h t n) (X : stX mi h t n s F)
    (kn : ∀ mi', tkK t n s = 3 → fH h mi mi' → stX mi' h t n (nx t n s) F → K mi' ml) (ks : ∀ mi', tkK t n s ≠ 3 → fH h mi mi' → skX mi' h s → K mi' ml) : wV l M_X5_takeSemicolon (d + 3) [.ref h] kd mr mi ml K := by
  have k5 := tkK_5 (t := t) (n := n) (s := s)
  have e3 : (mi h 4 = (3 : Int32)) = (tkK t n s = 3) := by rw [X.1.2.2.1]; exact z_eq (b := 3) (by omega) (by omega)
  refine w_X5_takeSemicolon th ⟨fun g => absurd g X.n1, fun _ => ?_⟩
  rw [e3]
  have hE : tkE t n s ≤ n := by
    by_cases q : s < n
    · exact (tkE_lt q).2
    · rw [tkE_end (by omega)]; exact X.1.2.2.2.2
  exact ⟨fun g => s_goOn th P X.1.2.1 hE fun mi' f gk => kn mi' g f.H (X.fG f gk), fun g => w_X5_takeSemicolon_16 th (s_stick th X fun mi' f sk => ks mi' g f sk)⟩
theorem s_takeSemi_sk {K : pm_I → pm_L → Prop} (th : TX5s kd mr h) (X : skX mi h p) (k9 : K mi ml) : wV l M_X5_takeSemicolon (d + 1) [.ref h] kd mr mi ml K := w_X5_takeSemicolon th ⟨fun _ => w_X5_takeSemicolon_16 th (s_stick_sk th X k9), fun g => absurd X.1 g⟩
end WRD
