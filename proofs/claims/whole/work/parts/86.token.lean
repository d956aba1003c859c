/-! tokens: pure -/
def isBl (b : Nat) : Bool := decide (b = 10) || decide (b = 32)
def isLe (b : Nat) : Bool := decide (97 ≤ b) && decide (b ≤ 122)
def isDg (b : Nat) : Bool := decide (48 ≤ b) && decide (b ≤ 57)
theorem eBl : ∀ b, b < 256 → (decide (nI b = 10) || (decide (nI b = 32))) = isBl b := by decide +kernel
theorem eLe : ∀ b, b < 256 → (!decide (nI b < 97) && (!decide (122 < nI b))) = isLe b := by decide +kernel
theorem eDg : ∀ b, b < 256 → (!decide (nI b < 48) && (!decide (57 < nI b))) = isDg b := by decide +kernel
def runF (f : Nat → Bool) (n : Nat) : Nat → Nat → Nat
  | 0, p => p
  | k + 1, p => if p < n ∧ f p = true then runF f n k (p + 1) else p
def runN (f : Nat → Bool) (n p : Nat) : Nat := runF f n (n - p) p
section RUN
variable {f : Nat → Bool} {n p : Nat}
theorem runN_go (hp : p < n) (hf : f p = true) : runN f n p = runN f n (p + 1) := by
  unfold runN
  rw [show n - p = n - (p + 1) + 1 by omega]
  show (if p < n ∧ f p = true then runF f n (n - (p + 1)) (p + 1) else p) = _
  rw [if_pos ⟨hp, hf⟩]
theorem runN_stop (h : ¬ (p < n ∧ f p = true)) : runN f n p = p := by
  unfold runN
  cases n - p with
  | zero => rfl
  | succ k =>
    show (if p < n ∧ f p = true then runF f n k (p + 1) else p) = p
    rw [if_neg h]
theorem runN_stF (h : f p = false) : runN f n p = p := runN_stop fun q => by rw [h] at q; cases q.2
theorem runN_le : ∀ k p, n - p = k → p ≤ n → p ≤ runN f n p ∧ runN f n p ≤ n ∧ (∀ i, p ≤ i → i < runN f n p → f i = true) ∧ (runN f n p < n → f (runN f n p) = false) := by
  intro k
  induction k with
  | zero =>
    intro p h1 h2
    have : runN f n p = p := runN_stop fun h => by omega
    rw [this]
    exact ⟨Nat.le_refl p, h2, fun i _ _ => by omega, fun h => by omega⟩
  | succ k ih =>
    intro p h1 h2
    by_cases q : f p = true
    · rw [runN_go (by omega) q]
      obtain ⟨g1, g2, g3, g4⟩ := ih (p + 1) (by omega) (by omega)
      refine ⟨by omega, g2, fun i i1 i2 => ?_, g4⟩
      by_cases e : i = p
      · subst e; exact q
      · exact g3 i (by omega) i2
    · rw [runN_stop fun h => q h.2]
      exact ⟨Nat.le_refl p, h2, fun i _ _ => by omega, fun _ => by simpa using q⟩
end RUN
section TOK
variable (t : Nat → Nat) (n : Nat)
def tkS (p : Nat) : Nat := runN (fun i => isBl (t i)) n p
def tkE (s : Nat) : Nat := if n ≤ s then s else if isLe (t s) = true then runN (fun i => isLe (t i)) n s else if isDg (t s) = true then runN (fun i => isDg (t i)) n s else s + 1
def tkK (s : Nat) : Nat := if n ≤ s then 0 else if isLe (t s) = true then 1 else if isDg (t s) = true then (if tkE t n s - s ≤ 2 then 2 else 4) else if t s = 59 then 3 else 4
def tkV (s : Nat) : Nat := if tkE t n s = s + 1 then t s - 48 else 10 * (t s - 48) + (t (s + 1) - 48)
def tkW (s : Nat) : List Nat := (List.range (tkE t n s - s)).map fun i => t (s + i)
def nx (s : Nat) : Nat := tkS t n (tkE t n s)
end TOK
section TOKS
variable {t : Nat → Nat} {n s p : Nat}
theorem tkS_le (h : p ≤ n) : p ≤ tkS t n p ∧ tkS t n p ≤ n := by
  obtain ⟨h1, h2, -⟩ := runN_le (f := fun i => isBl (t i)) _ p rfl h
  exact ⟨h1, h2⟩
theorem le_dg : ∀ b, isLe b = true → isDg b = false := by
  intro b h
  unfold isLe at h
  unfold isDg
  simp only [Bool.and_eq_true, decide_eq_true_eq] at h
  simp; omega
theorem tkE_lt (h : s < n) : s < tkE t n s ∧ tkE t n s ≤ n := by
  unfold tkE
  rw [if_neg (by omega)]
  by_cases q : isLe (t s) = true
  · rw [if_pos q, runN_go h q]
    obtain ⟨h1, h2, -⟩ := runN_le (f := fun i => isLe (t i)) (n := n) _ (s + 1) rfl (by omega)
    omega
  · rw [if_neg q]
    by_cases q2 : isDg (t s) = true
    · rw [if_pos q2, runN_go h q2]
      obtain ⟨h1, h2, -⟩ := runN_le (f := fun i => isDg (t i)) (n := n) _ (s + 1) rfl (by omega)
      omega
    · rw [if_neg q2]; omega
theorem tkE_end (h : n ≤ s) : tkE t n s = s := by unfold tkE; rw [if_pos h]
theorem nx_le (h : s ≤ n) : nx t n s ≤ n := by
  unfold nx
  by_cases q : s < n
  · exact (tkS_le (tkE_lt q).2).2
  · rw [tkE_end (by omega)]; exact (tkS_le h).2
theorem nx_lt (h : s < n) : s < nx t n s := by
  unfold nx
  have h1 := tkE_lt (t := t) h
  have := (tkS_le (t := t) h1.2).1
  omega
theorem tkK_0 : tkK t n s = 0 ↔ n ≤ s := by
  unfold tkK
  constructor
  · intro h
    split at h
    · assumption
    · split at h
      · cases h
      · split at h
        · split at h <;> cases h
        · split at h <;> cases h
  · intro h; rw [if_pos h]
theorem tkK_5 : tkK t n s < 5 := by
  unfold tkK
  repeat' split
  all_goals omega
theorem tkV_100 (ht : ∀ i, i < n → t i < 256) (h : tkK t n s = 2) : tkV t n s < 100 := by
  unfold tkK at h
  split at h
  · cases h
  · rename_i h0
    split at h
    · cases h
    · rename_i h1
      split at h
      · rename_i h2
        split at h
        · rename_i h3
          have e := tkE_lt (t := t) (n := n) (s := s) (by omega)
          unfold tkV
          have d1 : ∀ b, isDg b = true → 48 ≤ b ∧ b ≤ 57 := fun b hb => by unfold isDg at hb; simpa using hb
          have := d1 _ h2
          split
          · omega
          · have : isDg (t (s + 1)) = true := by
              obtain ⟨g1, g2, g3, g4⟩ := runN_le (f := fun i => isDg (t i)) _ s rfl (show s ≤ n by omega)
              refine g3 (s + 1) (by omega) ?_
              have : tkE t n s = runN (fun i => isDg (t i)) n s := by unfold tkE; rw [if_neg h0, if_neg h1, if_pos h2]
              omega
            have := d1 _ this
            omega
        · cases h
      · split at h <;> cases h
end TOKS
/-! the class's tokens -/
def tpX (mi : pm_I) (h : Nat) (t : Nat → Nat) (n : Nat) : Prop := mi h 1 = nI n ∧ n ≤ 600 ∧ ∀ i, i < n → (mi (h + 1) i &&& 255) = nI (t i) ∧ t i < 256
def tkX (mi : pm_I) (h : Nat) (t : Nat → Nat) (n s : Nat) : Prop := mi h 2 = nI s ∧ mi h 3 = nI (tkE t n s) ∧ mi h 4 = nI (tkK t n s) ∧ (tkK t n s = 2 → mi h 5 = nI (tkV t n s)) ∧ s ≤ n
def fG (h : Nat) (mi mi' : pm_I) : Prop := (∀ a, a ≠ h → mi' a = mi a) ∧ ∀ j, (j < 2 ∨ 5 < j) → mi' h j = mi h j
theorem fG.rf {h : Nat} {mi : pm_I} : fG h mi mi := ⟨fun _ _ => rfl, fun _ _ => rfl⟩
theorem fG.tr {h : Nat} {mi mi1 mi2 : pm_I} (h1 : fG h mi mi1) (h2 : fG h mi1 mi2) : fG h mi mi2 := ⟨fun a g => (h2.1 a g).trans (h1.1 a g), fun j g => (h2.2 j g).trans (h1.2 j g)⟩
theorem fG.up {h j : Nat} {mi mi' : pm_I} {v : Int32} (f : fG h mi mi') (hj : 2 ≤ j ∧ j ≤ 5) : fG h mi (pm_up mi' h j v) := ⟨fun a g => (pm_up_row _ _ g).trans (f.1 a g), fun i g => (pm_up_j _ _ (by omega)).trans (f.2 i g)⟩
section TKX
variable {l : Launch} {d h : Nat} {kd : pm_K} {mr : pm_R} {mi : pm_I} {ml : pm_L} {t : Nat → Nat} {n s p : Nat}
theorem tpX.fG {mi' : pm_I} (P : tpX mi h t n) (f : fG h mi mi') : tpX mi' h t n := by
  unfold tpX at P ⊢
  rw [f.2 1 (by omega), f.1 (h + 1) (by omega)]; exact P
theorem s_byteAt {x : Int32} {K : Int32 → pm_I → pm_L → Prop} (th : TX5s kd mr h) (P : tpX mi h t n) (hx : x = nI p) (hp : p < n) (k9 : K (nI (t p)) mi ml) : wI l M_X5_byteAt d [.ref h, .int x] kd mr mi ml K := by
  subst hx
  obtain ⟨P1, P2, P3⟩ := P
  refine w_X5_byteAt th ⟨fun g => absurd g (nI_pos (by omega)), fun _ => ⟨fun g => absurd g (nI_ge (b := 600) (by omega) (by omega)), fun _ => ⟨z_in (by omega) (by omega), ?_⟩⟩⟩
  rw [z_cl (by omega), (P3 p hp).1]; exact k9
theorem s_isLetter {b : Nat} {x : Int32} {K : Bool → pm_I → pm_L → Prop} (hx : x = nI b) (hb : b < 256) (k9 : K (isLe b) mi ml) : wB l M_X5_isLetter d [.int x] kd mr mi ml K := by
  subst hx
  refine w_X5_isLetter ?_
  rw [eLe b hb]; exact k9
theorem s_isDigit {b : Nat} {x : Int32} {K : Bool → pm_I → pm_L → Prop} (hx : x = nI b) (hb : b < 256) (k9 : K (isDg b) mi ml) : wB l M_X5_isDigit d [.int x] kd mr mi ml K := by
  subst hx
  refine w_X5_isDigit ?_
  rw [eDg b hb]; exact k9
theorem s_isBlank {b : Nat} {x : Int32} {K : Bool → pm_I → pm_L → Prop} (hx : x = nI b) (hb : b < 256) (k9 : K (isBl b) mi ml) : wB l M_X5_isBlank d [.int x] kd mr mi ml K := by
  subst hx
  refine w_X5_isBlank ?_
  rw [eBl b hb]; exact k9
theorem s_readDigits {K : pm_I → pm_L → Prop} (th : TX5s kd mr h) (P : tpX mi h t n) (hs : s < n) (h2 : mi h 2 = nI s) (h3 : mi h 3 = nI (s + 1)) (hl : isLe (t s) = false) (hd : isDg (t s) = true)
    (k9 : ∀ mi', fG h mi mi' → tkX mi' h t n s → K mi' ml) : wV l M_X5_readDigits (d + 1) [.ref h] kd mr mi ml K := by
  have n600 := P.2.1
  have eE : tkE t n s = runN (fun i => isDg (t i)) n s := by unfold tkE; rw [if_neg (by omega), if_neg (by rw [hl]; decide), if_pos hd]
  have fin : ∀ (e : Nat) (mi1 : pm_I), e = tkE t n s → fG h mi mi1 → mi1 h 2 = nI s → mi1 h 3 = nI e → (e ≤ s + 2 → mi1 h 5 = nI (tkV t n s)) → c_X5_readDigits_76 l (d + 1) kd mr h mi1 ml K := by
    intro e mi1 he f1 g2 g3 g5
    have := tkE_lt (t := t) hs
    refine w_X5_readDigits_76 th (k9 _ (f1.up (by omega)) ⟨?_, ?_, ?_, fun hk => ?_, by omega⟩)
    · rw [pm_up_j _ _ (by decide)]; exact g2
    · rw [pm_up_j _ _ (by decide), ← he]; exact g3
    · rw [pm_up_s, g2, g3, z_sub (by omega)]
      have e1 : ((2 : Int32) < nI (e - s)) = (2 < e - s) := z_lt (a := 2) (by omega) (by omega)
      simp only [e1]
      have eK : tkK t n s = if e - s ≤ 2 then 2 else 4 := by
        unfold tkK
        rw [if_neg (by omega), if_neg (by rw [hl]; decide), if_pos hd, ← he]
      rw [eK]
      by_cases q : e - s ≤ 2
      · rw [if_neg (show ¬ 2 < e - s by omega), if_pos q]; rfl
      · rw [if_pos (show 2 < e - s by omega), if_neg q]; rfl
    · rw [pm_up_j _ _ (by decide)]
      refine g5 ?_
      unfold tkK at hk
      rw [if_neg (by omega), if_neg (by rw [hl]; decide), if_pos hd, ← he] at hk
      by_cases q : e - s ≤ 2
      · omega
      · rw [if_neg q] at hk; cases hk
  have dg : ∀ b, isDg b = true → 48 ≤ b ∧ b ≤ 57 := fun b hb => by unfold isDg at hb; simpa using hb
  have loop : ∀ (k e : Nat) (mi1 : pm_I), n - e = k → s < e → e ≤ n → runN (fun i => isDg (t i)) n e = tkE t n s → fG h mi mi1 → mi1 h 2 = nI s → mi1 h 3 = nI e → (e = s + 1 → mi1 h 5 = nI (t s - 48)) → (e = s + 2 → mi1 h 5 = nI (10 * (t s - 48) + (t (s + 1) - 48))) → c_X5_readDigits_15 l (d + 1) kd mr h mi1 ml K := by
    intro k
    induction k with
    | zero =>
      intro e mi1 hk hse hen hrun f1 g2 g3 v1 v2
      have : e = n := by omega
      subst this
      have he : e = tkE t e s := by rw [← hrun, runN_stop fun q => by omega]
      refine w_X5_readDigits_15 th ⟨fun _ => fin e mi1 he f1 g2 g3 fun h => ?_, fun g => absurd (by rw [f1.2 1 (by omega), P.1, g3]; exact nI_le (Nat.le_refl _) (by omega)) g⟩
      unfold tkV
      rw [← he]
      by_cases q : e = s + 1
      · rw [if_pos q]; exact v1 q
      · rw [if_neg q]; exact v2 (by omega)
    | succ k ih =>
      intro e mi1 hk hse hen hrun f1 g2 g3 v1 v2
      have P1 := P.fG f1
      have te := (P.2.2 e (by omega)).2
      refine w_X5_readDigits_15 th ⟨fun g => absurd g (by rw [P1.1, g3]; exact nI_ge (by omega) (by omega)), fun _ => s_byteAt th P1 g3 (by omega) (s_isDigit rfl te ⟨fun q => ?_, fun q => s_byteAt th P1 g3 (by omega) ?_⟩)⟩
      · have he : e = tkE t n s := by rw [← hrun, runN_stF (f := fun i => isDg (t i)) (p := e) q]
        refine fin e mi1 he f1 g2 g3 fun h => ?_
        unfold tkV
        rw [← he]
        by_cases q : e = s + 1
        · rw [if_pos q]; exact v1 q
        · rw [if_neg q]; exact v2 (by omega)
      · have e3 : mi1 h 3 + 1 = nI (e + 1) := by rw [g3]; exact nI_1 e
        have db := dg _ q
        have ds := dg _ hd
        refine ih (e + 1) _ (by omega) (by omega) (by omega) ?_ ((f1.up (by omega)).up (by omega)) ?_ ?_ (fun z => by omega) (fun z => ?_)
        · rw [← hrun, ← runN_go (f := fun i => isDg (t i)) (p := e) (by omega) q]
        · rw [pm_up_j _ _ (by decide), pm_up_j _ _ (by decide)]; exact g2
        · rw [pm_up_s]; exact e3
        · have : e = s + 1 := by omega
          subst this
          rw [pm_up_j _ _ (by decide), pm_up_s, v1 rfl]
          rw [show (10 : Int32) * nI (t s - 48) = nI (10 * (t s - 48)) from z_mul 10 _, nI_add]
          have : nI (10 * (t s - 48) + t (s + 1)) - (48 : Int32) = nI (10 * (t s - 48) + t (s + 1) - 48) := z_sub (b := 48) (by omega)
          rw [this]; congr 1; omega
  have ts := (P.2.2 s hs).2
  have ds := dg _ hd
  refine w_X5_readDigits th (s_byteAt th P h2 hs ?_)
  have e48 : nI (t s) - (48 : Int32) = nI (t s - 48) := z_sub (b := 48) (by omega)
  refine loop (n - (s + 1)) (s + 1) _ rfl (by omega) (by omega) (by rw [eE, ← runN_go (f := fun i => isDg (t i)) hs hd]) (fG.rf.up (by omega)) ?_ ?_ (fun _ => ?_) (fun z => by omega)
  · rw [pm_up_j _ _ (by decide)]; exact h2
  · rw [pm_up_j _ _ (by decide)]; exact h3
  · rw [pm_up_s]; exact e48
theorem s_goOn {K : pm_I → pm_L → Prop} (th : TX5s kd mr h) (P : tpX mi h t n) (h3 : mi h 3 = nI p) (hp : p ≤ n)
    (k9 : ∀ mi', fG h mi mi' → tkX mi' h t n (tkS t n p) → K mi' ml) : wV l M_X5_goOn (d + 2) [.ref h] kd mr mi ml K := by
  have n600 := P.2.1
  have behind : ∀ (s : Nat) (mi1 : pm_I), s = tkS t n p → s ≤ n → fG h mi mi1 → mi1 h 2 = nI s → c_X5_goOn_46 l (d + 2) kd mr h mi1 ml K := by
    intro s mi1 hs hsn f1 g2
    have P1 := P.fG f1
    refine w_X5_goOn_46 th ?_
    have elt : (nI s < nI n) = (s < n) := z_lt (by omega) (by omega)
    rw [g2, P1.1, elt]
    refine ⟨fun hlt => ?_, fun hge => k9 _ ((f1.up (by omega)).up (by omega)) ?_⟩
    · have ts := (P.2.2 s hlt).2
      have P2 : tpX (pm_up mi1 h 3 (nI s)) h t n := P.fG (f1.up (by omega))
      refine s_byteAt th P2 rfl hlt (s_isLetter rfl ts ⟨fun hle => s_isDigit rfl ts ⟨fun hdg => ?_, fun hdg => ?_⟩, fun hle => ?_⟩)
      · have eE : tkE t n s = s + 1 := by unfold tkE; rw [if_neg (by omega), if_neg (by rw [hle]; decide), if_neg (by rw [hdg]; decide)]
        refine k9 _ (((f1.up (by omega)).up (by omega)).up (by omega)) ?_
        rw [← hs]
        refine ⟨?_, ?_, ?_, fun hk => ?_, hsn⟩
        · rw [pm_up_j _ _ (by decide), pm_up_j _ _ (by decide), pm_up_j _ _ (by decide)]; exact g2
        · rw [pm_up_j _ _ (by decide), pm_up_s, pm_up_j _ _ (by decide), eE, g2]; exact nI_1 s
        · rw [pm_up_s]
          have e59 : (nI (t s) = (59 : Int32)) = (t s = 59) := z_eq (b := 59) (by omega) (by omega)
          simp only [e59]
          have eK : tkK t n s = if t s = 59 then 3 else 4 := by
            unfold tkK
            rw [if_neg (by omega), if_neg (by rw [hle]; decide), if_neg (by rw [hdg]; decide)]
          rw [eK]
          by_cases q : t s = 59
          · rw [if_pos q, if_pos q]; rfl
          · rw [if_neg q, if_neg q]; rfl
        · unfold tkK at hk
          rw [if_neg (by omega), if_neg (by rw [hle]; decide), if_neg (by rw [hdg]; decide)] at hk
          split at hk <;> cases hk
      · refine s_readDigits th (P.fG ((f1.up (by omega)).up (by omega))) hlt ?_ ?_ hle hdg fun mi2 f2 g => k9 mi2 (((f1.up (by omega)).up (by omega)).tr f2) (by rw [← hs]; exact g)
        · rw [pm_up_j _ _ (by decide), pm_up_j _ _ (by decide)]; exact g2
        · rw [pm_up_s, pm_up_j _ _ (by decide), g2]; exact nI_1 s
      · have eE : tkE t n s = runN (fun i => isLe (t i)) n s := by unfold tkE; rw [if_neg (by omega), if_pos hle]
        have eK : tkK t n s = 1 := by unfold tkK; rw [if_neg (by omega), if_pos hle]
        have fin : ∀ (e : Nat) (mi2 : pm_I), e = tkE t n s → fG h mi mi2 → mi2 h 2 = nI s → mi2 h 3 = nI e → mi2 h 4 = nI 1 → K mi2 ml := by
          intro e mi2 he f2 q2 q3 q4
          refine k9 mi2 f2 ?_
          rw [← hs]
          exact ⟨q2, by rw [← he]; exact q3, by rw [eK]; exact q4, fun hk => (by rw [eK] at hk; cases hk), hsn⟩
        have loop : ∀ (k e : Nat) (mi2 : pm_I), n - e = k → s < e → e ≤ n → runN (fun i => isLe (t i)) n e = tkE t n s → fG h mi mi2 → mi2 h 2 = nI s → mi2 h 3 = nI e → mi2 h 4 = nI 1 → c_X5_goOn_102 l (d + 2) kd mr h mi2 ml K := by
          intro k
          induction k with
          | zero =>
            intro e mi2 hk hse hen hrun f2 q2 q3 q4
            have : e = n := by omega
            subst this
            refine w_X5_goOn_102 th ⟨fun _ => fin e mi2 (by rw [← hrun, runN_stop fun q => by omega]) f2 q2 q3 q4, fun g => absurd (by rw [f2.2 1 (by omega), P.1, q3]; exact nI_le (Nat.le_refl _) (by omega)) g⟩
          | succ k ih =>
            intro e mi2 hk hse hen hrun f2 q2 q3 q4
            have P3 := P.fG f2
            have te := (P.2.2 e (by omega)).2
            refine w_X5_goOn_102 th ⟨fun g => absurd g (by rw [P3.1, q3]; exact nI_ge (by omega) (by omega)), fun _ => s_byteAt th P3 q3 (by omega) (s_isLetter rfl te ⟨fun q => ?_, fun q => ?_⟩)⟩
            · exact fin e mi2 (by rw [← hrun, runN_stF (f := fun i => isLe (t i)) (p := e) q]) f2 q2 q3 q4
            · refine ih (e + 1) _ (by omega) (by omega) (by omega) ?_ (f2.up (by omega)) ?_ ?_ ?_
              · rw [← hrun, ← runN_go (f := fun i => isLe (t i)) (p := e) (by omega) q]
              · rw [pm_up_j _ _ (by decide)]; exact q2
              · rw [pm_up_s, q3]; exact nI_1 e
              · rw [pm_up_j _ _ (by decide)]; exact q4
        refine loop (n - (s + 1)) (s + 1) _ rfl (by omega) (by omega) (by rw [eE, ← runN_go (f := fun i => isLe (t i)) hlt hle]) (((f1.up (by omega)).up (by omega)).up (by omega)) ?_ ?_ ?_
        · rw [pm_up_j _ _ (by decide), pm_up_j _ _ (by decide), pm_up_j _ _ (by decide)]; exact g2
        · rw [pm_up_j _ _ (by decide), pm_up_s, pm_up_j _ _ (by decide), g2]; exact nI_1 s
        · rw [pm_up_s]; rfl
    · rw [← hs]
      have eE := tkE_end (t := t) (n := n) (s := s) (by omega)
      have eK : tkK t n s = 0 := tkK_0.mpr (by omega)
      refine ⟨?_, ?_, ?_, fun hk => (by rw [eK] at hk; cases hk), hsn⟩
      · rw [pm_up_j _ _ (by decide), pm_up_j _ _ (by decide)]; exact g2
      · rw [pm_up_j _ _ (by decide), pm_up_s, eE]
      · rw [pm_up_s, eK]; rfl
  have loop : ∀ (k s : Nat) (mi1 : pm_I), n - s = k → s ≤ n → runN (fun i => isBl (t i)) n s = tkS t n p → fG h mi mi1 → mi1 h 2 = nI s → c_X5_goOn_8 l (d + 2) kd mr h mi1 ml K := by
    intro k
    induction k with
    | zero =>
      intro s mi1 hk hsn hrun f1 g2
      refine w_X5_goOn_8 th ⟨fun _ => behind s mi1 (by rw [← hrun, runN_stop fun q => by omega]) hsn f1 g2, fun g => absurd (by rw [(P.fG f1).1, g2]; exact nI_le (by omega) (by omega)) g⟩
    | succ k ih =>
      intro s mi1 hk hsn hrun f1 g2
      have P1 := P.fG f1
      have ts := (P.2.2 s (by omega)).2
      refine w_X5_goOn_8 th ⟨fun g => absurd g (by rw [P1.1, g2]; exact nI_ge (by omega) (by omega)), fun _ => s_byteAt th P1 g2 (by omega) (s_isBlank rfl ts ⟨fun q => ?_, fun q => ?_⟩)⟩
      · exact behind s mi1 (by rw [← hrun, runN_stF (f := fun i => isBl (t i)) (p := s) q]) hsn f1 g2
      · refine ih (s + 1) _ (by omega) (by omega) ?_ (f1.up (by omega)) ?_
        · rw [← hrun, ← runN_go (f := fun i => isBl (t i)) (p := s) (by omega) q]
        · rw [pm_up_s, g2]; exact nI_1 s
  refine w_X5_goOn th (loop (n - p) p _ rfl hp rfl (fG.rf.up (by omega)) ?_)
  rw [pm_up_s]; exact h3
end TKX
