/-! the reference's tokens -/
def pkF (g : Nat → Nat) : Nat → Nat
  | 0 => 0
  | c + 1 => 256 * pkF g c + g c
theorem pkF_inj {g g' : Nat → Nat} : ∀ c c', (∀ i, i < c → 0 < g i ∧ g i < 256) → (∀ i, i < c' → 0 < g' i ∧ g' i < 256) → pkF g c = pkF g' c' → c = c' ∧ ∀ i, i < c → g i = g' i := by
  intro c
  induction c with
  | zero =>
    intro c' _ h2 h
    cases c' with
    | zero => exact ⟨rfl, fun i hi => absurd hi (Nat.not_lt_zero i)⟩
    | succ c' =>
      have := (h2 c' (by omega)).1
      have h : 0 = 256 * pkF g' c' + g' c' := h
      omega
  | succ c ih =>
    intro c' h1 h2 h
    have a := h1 c (by omega)
    cases c' with
    | zero =>
      have h : 256 * pkF g c + g c = 0 := h
      omega
    | succ c' =>
      have b := h2 c' (by omega)
      have h : 256 * pkF g c + g c = 256 * pkF g' c' + g' c' := h
      obtain ⟨e1, e2⟩ := ih c' (fun i hi => h1 i (by omega)) (fun i hi => h2 i (by omega)) (by omega)
      subst e1
      refine ⟨rfl, fun i hi => ?_⟩
      by_cases q : i = c
      · subst q; omega
      · exact e2 i (by omega)
theorem pkF_lt {g : Nat → Nat} : ∀ c, (∀ i, i < c → g i < 256) → pkF g c < 256 ^ c := by
  intro c
  induction c with
  | zero => intro _; exact Nat.one_pos
  | succ c ih =>
    intro h
    have h1 := ih fun i hi => h i (by omega)
    have h2 := h c (by omega)
    show 256 * pkF g c + g c < 256 ^ (c + 1)
    rw [Nat.pow_succ]; omega
theorem pkF_big {g : Nat → Nat} {c : Nat} (hc : c ≤ 8) (h : ∀ i, i < c → g i < 256) : pkF g c < 18446744073709551616 := by
  have h1 := pkF_lt c h
  have h2 : 256 ^ c ≤ 256 ^ 8 := Nat.pow_le_pow_right (by decide) hc
  have h3 : 256 ^ 8 = 18446744073709551616 := by decide
  omega
theorem i64_inj {a b : Nat} (ha : a < 18446744073709551616) (hb : b < 18446744073709551616) (h : Int64.ofNat a = Int64.ofNat b) : a = b := by
  have h1 := congrArg (fun x : Int64 => x.toBitVec.toNat) h
  have e : ∀ n, (Int64.ofNat n).toBitVec.toNat = n % 18446744073709551616 := fun n => BitVec.toNat_ofNat n 64
  simp only [e] at h1
  rw [Nat.mod_eq_of_lt ha, Nat.mod_eq_of_lt hb] at h1
  exact h1
theorem bl_nat (m : Nat) {s : Nat} (hs : s < 64) : bl (Int64.ofNat m) s = m.testBit s := by
  unfold bl
  have : (Int64.ofNat m).toBitVec = BitVec.ofNat 64 m := rfl
  rw [this, BitVec.getLsbD_ofNat]; simp [hs]
theorem i64_b : ∀ b, b < 256 → Int32.toInt64 (nI b) = Int64.ofNat b := by decide +kernel
theorem pk_step (m b : Nat) (hb : b < 256) : ((Int64.ofNat m <<< ((Int32.toInt64 8) &&& 63)) ||| Int32.toInt64 (nI b)) = Int64.ofNat (256 * m + b) := by
  refine bl_ext fun s hs => ?_
  have e := bl_shl (n := 8) (by decide) (Int64.ofNat m) hs
  have e8 : (nI 8).toInt64 = Int32.toInt64 8 := rfl
  rw [e8] at e
  rw [bl_or, e, i64_b b hb, bl_nat _ hs, bl_nat _ hs]
  have h2 : 256 * m + b = 2 ^ 8 * m + b := rfl
  rw [h2, Nat.testBit_two_pow_mul_add m (i := 8) hb s]
  by_cases q : s < 8
  · rw [if_pos q, decide_eq_false (by omega)]; simp
  · rw [if_neg q, decide_eq_true (show 8 ≤ s by omega), bl_nat _ (by omega)]
    have : b.testBit s = false := Nat.testBit_lt_two_pow (Nat.lt_of_lt_of_le hb (Nat.pow_le_pow_right (n := 2) (by decide) (show 8 ≤ s by omega)))
    rw [this]; simp
def kc (y : List Nat) : Int64 := Int64.ofNat (pkF (fun i => y.getD i 0) y.length)
/-- w is the reference's number of the word x -/
def wOK (w : Int64) (x : List Nat) : Prop := ∀ k, k < 5 → ∀ i, i < (wl k).length → (w = kc ((wl k).getD i []) ↔ (wl k).getD i [] = x)
theorem wl_dig : ∀ k, k < 5 → ∀ i, i < (wl k).length → ((wl k).getD i []).length ≤ 8 ∧ 1 ≤ ((wl k).getD i []).length ∧ ∀ j, j < ((wl k).getD i []).length → 0 < ((wl k).getD i []).getD j 0 ∧ ((wl k).getD i []).getD j 0 < 256 := by decide +kernel
theorem list_mr (y : List Nat) : (List.range y.length).map (fun i => y.getD i 0) = y := by
  apply List.ext_getElem?
  intro i
  by_cases h : i < y.length
  · simp [h]
  · simp [h]
theorem wOK_F {g : Nat → Nat} {c : Nat} (hg : ∀ i, i < c → 0 < g i ∧ g i < 256) : wOK (if c ≤ 8 then Int64.ofNat (pkF g c) else 0) ((List.range c).map g) := by
  intro k hk i hi
  obtain ⟨d1, d2, d3⟩ := wl_dig k hk i hi
  generalize (wl k).getD i [] = y at d1 d2 d3
  have key : y = (List.range c).map g ↔ y.length = c ∧ ∀ j, j < y.length → y.getD j 0 = g j := by
    have := mr_eq (a := y.length) (b := c) (f := fun i => y.getD i 0) (g := g)
    rw [list_mr] at this; exact this
  have b2 := pkF_big d1 fun j hj => (d3 j hj).2
  rw [key]
  unfold kc
  by_cases h8 : c ≤ 8
  · rw [if_pos h8]
    have b1 := pkF_big h8 fun j hj => (hg j hj).2
    constructor
    · intro h
      obtain ⟨e1, e2⟩ := pkF_inj _ _ hg d3 (i64_inj b1 b2 h)
      exact ⟨e1.symm, fun j hj => (e2 j (by omega)).symm⟩
    · rintro ⟨e1, e2⟩
      subst e1
      have : ∀ m, m ≤ y.length → pkF g m = pkF (fun i => y.getD i 0) m := by
        intro m
        induction m with
        | zero => intro _; rfl
        | succ m ih =>
          intro hm
          show 256 * pkF g m + g m = 256 * pkF _ m + y.getD m 0
          rw [ih (by omega), e2 m (by omega)]
      rw [this _ (Nat.le_refl _)]
  · rw [if_neg h8]
    constructor
    · intro h
      have h : Int64.ofNat 0 = Int64.ofNat (pkF (fun i => y.getD i 0) y.length) := h
      have := i64_inj (by decide) b2 h
      obtain ⟨e1, -⟩ := pkF_inj (g := fun _ => 0) 0 y.length (fun i hi => absurd hi (Nat.not_lt_zero i)) d3 this
      omega
    · rintro ⟨e1, -⟩; omega
theorem wOK_0 : wOK 0 [] := wOK_F (g := fun _ => 0) (c := 0) fun i hi => absurd hi (Nat.not_lt_zero i)
def zk : Nat → Nat
  | 0 => 0
  | 1 => 2
  | 2 => 3
  | 3 => 4
  | _ => 1
theorem zk_eq : ∀ k, k < 5 → (nI (zk k) = 0 ↔ k = 0) ∧ (nI (zk k) = 2 ↔ k = 1) ∧ (nI (zk k) = 3 ↔ k = 2) ∧ (nI (zk k) = 4 ↔ k = 3) := by decide +kernel
def tpZ (mi : pm_I) (z : Nat) (t : Nat → Nat) (n : Nat) : Prop := mi z 11 = nI n ∧ n ≤ 600 ∧ ∀ i, i < n → (mi (z + 1) i &&& 255) = nI (t i) ∧ t i < 256
def tkZ (mi : pm_I) (ml : pm_L) (z : Nat) (t : Nat → Nat) (n s : Nat) : Prop := mi z 12 = nI s ∧ mi z 10 = nI (tkE t n s) ∧ mi z 13 = nI (zk (tkK t n s)) ∧ (tkK t n s = 2 → mi z 14 = nI (tkV t n s)) ∧ (tkK t n s = 1 → wOK (ml z 15) (tkW t n s)) ∧ s ≤ n
/-- frame of the tokens -/
def fT (z : Nat) (mi mi' : pm_I) (ml ml' : pm_L) : Prop := (∀ a, a ≠ z → mi' a = mi a) ∧ (∀ j, (j < 10 ∨ j = 11 ∨ 14 < j) → mi' z j = mi z j) ∧ ∀ a, a ≠ z → ml' a = ml a
theorem fT.rf {z : Nat} {mi : pm_I} {ml : pm_L} : fT z mi mi ml ml := ⟨fun _ _ => rfl, fun _ _ => rfl, fun _ _ => rfl⟩
theorem fT.tr {z : Nat} {mi mi1 mi2 : pm_I} {ml ml1 ml2 : pm_L} (h1 : fT z mi mi1 ml ml1) (h2 : fT z mi1 mi2 ml1 ml2) : fT z mi mi2 ml ml2 := ⟨fun a g => (h2.1 a g).trans (h1.1 a g), fun j g => (h2.2.1 j g).trans (h1.2.1 j g), fun a g => (h2.2.2 a g).trans (h1.2.2 a g)⟩
theorem fT.up {z j : Nat} {mi mi' : pm_I} {ml ml' : pm_L} {v : Int32} (f : fT z mi mi' ml ml') (hj : j = 10 ∨ (12 ≤ j ∧ j ≤ 14)) : fT z mi (pm_up mi' z j v) ml ml' := ⟨fun a g => (pm_up_row _ _ g).trans (f.1 a g), fun i g => (pm_up_j _ _ (by omega)).trans (f.2.1 i g), f.2.2⟩
theorem fT.upL {z j : Nat} {mi mi' : pm_I} {ml ml' : pm_L} {v : Int64} (f : fT z mi mi' ml ml') : fT z mi mi' ml (pm_up ml' z j v) := ⟨f.1, f.2.1, fun a g => (pm_up_row _ _ g).trans (f.2.2 a g)⟩
theorem tpZ.fT {mi mi' : pm_I} {ml ml' : pm_L} {z n : Nat} {t : Nat → Nat} (P : tpZ mi z t n) (f : fT z mi mi' ml ml') : tpZ mi' z t n := by
  unfold tpZ at P ⊢
  rw [f.2.1 11 (by omega), f.1 (z + 1) (by omega)]; exact P
section TKZ
variable {l : Launch} {d z : Nat} {kd : pm_K} {mr : pm_R} {mi : pm_I} {ml : pm_L} {t : Nat → Nat} {n s p : Nat}
def seeN (t : Nat → Nat) (n p : Nat) : Int32 := if p < n then nI (t p) else -1
theorem s_see {K : Int32 → pm_I → pm_L → Prop} (tz : TX12s kd mr z) (P : tpZ mi z t n) (h0 : mi z 10 = nI p) (hp : p ≤ n) (k9 : K (seeN t n p) mi ml) : wI l M_X12_see d [.ref z] kd mr mi ml K := by
  obtain ⟨P1, P2, P3⟩ := P
  refine w_X12_see tz ?_
  rw [h0, P1, z_le (by omega) (by omega)]
  unfold seeN at k9
  refine ⟨fun h => ?_, fun h => ⟨z_in (by omega) (by omega), ?_⟩⟩
  · rw [if_neg (by omega)] at k9; exact k9
  · rw [if_pos (by omega)] at k9
    rw [z_cl (by omega), (P3 p (by omega)).1]; exact k9
theorem see_in (ht : p < n → t p < 256) : (!decide (seeN t n p < 97) && (!decide (122 < seeN t n p))) = (decide (p < n) && isLe (t p)) ∧ (!decide (seeN t n p < 48) && (!decide (57 < seeN t n p))) = (decide (p < n) && isDg (t p)) := by
  unfold seeN
  by_cases q : p < n
  · rw [if_pos q, decide_eq_true q, eLe _ (ht q), eDg _ (ht q)]; exact ⟨rfl, rfl⟩
  · rw [if_neg q, decide_eq_false q]; exact ⟨rfl, rfl⟩
theorem s_seeL {K : Bool → pm_I → pm_L → Prop} (ht : p < n → t p < 256) (k9 : K (decide (p < n) && isLe (t p)) mi ml) : wB l M_X12_in d [.int (seeN t n p), .int 97, .int 122] kd mr mi ml K := by
  refine w_X12_in ?_
  rw [(see_in ht).1]; exact k9
theorem s_seeD {K : Bool → pm_I → pm_L → Prop} (ht : p < n → t p < 256) (k9 : K (decide (p < n) && isDg (t p)) mi ml) : wB l M_X12_in d [.int (seeN t n p), .int 48, .int 57] kd mr mi ml K := by
  refine w_X12_in ?_
  rw [(see_in ht).2]; exact k9
theorem see_eq {b : Nat} (hb : b < 256) (ht : p < n → t p < 256) : (seeN t n p = nI b) = (p < n ∧ t p = b) := by
  unfold seeN
  by_cases q : p < n
  · rw [if_pos q, z_eq (by have := ht q; omega) (by omega)]; simp [q]
  · rw [if_neg q]
    have : (nI b = -nI 1) = False := z_m1 (by omega)
    apply propext
    exact ⟨fun h => (this ▸ (show nI b = -nI 1 from h.symm)).elim, fun h => absurd h.1 q⟩
def aftT (l : Launch) (d : Nat) (kd : pm_K) (mr : pm_R) (h : Nat) (mi : pm_I) (ml : pm_L) (K : pm_I → pm_L → Prop) : Prop := wI l M_X12_see d [.ref h] kd mr (pm_up mi h 12 (mi h 10)) ml (fun r59 mi60 ml61 => ((0 ≤ r59 → wB l M_X12_in d [.int r59, .int 97, .int 122] kd mr mi60 (pm_up ml61 h 15 0) (fun r63 mi64 ml65 => ((r63 = false → wB l M_X12_in d [.int r59, .int 48, .int 57] kd mr mi64 ml65 (fun r67 mi68 ml69 => ((r67 = false → K (pm_up (pm_up mi68 h 10 ((mi68 h 10) + 1)) h 13 (if r59 = 59 then (4 : Int32) else (1 : Int32))) ml69) ∧ (r67 = true → c_X12_token_163 l (d + 1) kd mr h 0 (pm_up mi68 h 14 0) ml69 K)))) ∧ (r63 = true → c_X12_token_74 l (d + 1) kd mr h 0 mi64 ml65 K)))) ∧ (¬ 0 ≤ r59 → K (pm_up mi60 h 13 0) (pm_up ml61 h 15 0))))
theorem s_aft {mi0 : pm_I} {ml0 : pm_L} {K : pm_I → pm_L → Prop} (tz : TX12s kd mr z) (P : tpZ mi0 z t n) (hs : s ≤ n) (f0 : fT z mi0 mi ml0 ml) (h0 : mi z 10 = nI s)
    (k9 : ∀ mi' ml', fT z mi0 mi' ml0 ml' → tkZ mi' ml' z t n s → K mi' ml') : aftT l (d) kd mr z mi ml K := by
  have n600 := P.2.1
  have tb : ∀ p, p < n → t p < 256 := fun p hp => (P.2.2 p hp).2
  unfold aftT
  have f1 : fT z mi0 (pm_up mi z 12 (mi z 10)) ml0 ml := f0.up (by omega)
  have e12 : pm_up mi z 12 (mi z 10) z 12 = nI s := by rw [pm_up_s]; exact h0
  have e10 : pm_up mi z 12 (mi z 10) z 10 = nI s := by rw [pm_up_j _ _ (by decide)]; exact h0
  generalize pm_up mi z 12 (mi z 10) = mi1 at f1 e12 e10
  refine s_see tz (P.fT f1) e10 hs ?_
  have e0 : (0 ≤ seeN t n s) = (s < n) := by
    unfold seeN
    by_cases q : s < n
    · rw [if_pos q]; exact propext ⟨fun _ => q, fun _ => nI_le (a := 0) (Nat.zero_le _) (by have := tb s q; omega)⟩
    · rw [if_neg q]; exact propext ⟨fun h => absurd h (by decide), fun h => absurd h q⟩
  rw [e0]
  refine ⟨fun hlt => s_seeL (tb s) ⟨fun hle => s_seeD (tb s) ⟨fun hdg => ?_, fun hdg => ?_⟩, fun hle => ?_⟩, fun hge => ?_⟩
  · -- a sign
    rw [decide_eq_true hlt, Bool.true_and] at hle hdg
    have eE : tkE t n s = s + 1 := by unfold tkE; rw [if_neg (by omega), if_neg (by rw [hle]; decide), if_neg (by rw [hdg]; decide)]
    have eK : tkK t n s = if t s = 59 then 3 else 4 := by
      unfold tkK
      rw [if_neg (by omega), if_neg (by rw [hle]; decide), if_neg (by rw [hdg]; decide)]
    refine k9 _ _ ((f1.upL.up (by omega)).up (by omega)) ⟨?_, ?_, ?_, fun hk => ?_, fun hk => ?_, hs⟩
    · rw [pm_up_j _ _ (by decide), pm_up_j _ _ (by decide)]; exact e12
    · rw [pm_up_j _ _ (by decide), pm_up_s, e10, eE]; exact nI_1 s
    · rw [pm_up_s, eK]
      have e59 : (seeN t n s = (59 : Int32)) = (s < n ∧ t s = 59) := see_eq (b := 59) (by decide) (tb s)
      simp only [e59]
      by_cases q : t s = 59
      · rw [if_pos ⟨hlt, q⟩, if_pos q]; rfl
      · rw [if_neg (fun h => q h.2), if_neg q]; rfl
    · rw [eK] at hk; split at hk <;> cases hk
    · rw [eK] at hk; split at hk <;> cases hk
  · -- digits
    rw [decide_eq_true hlt, Bool.true_and] at hle hdg
    have eE : tkE t n s = runN (fun i => isDg (t i)) n s := by unfold tkE; rw [if_neg (by omega), if_neg (by rw [hle]; decide), if_pos hdg]
    have dg : ∀ b, isDg b = true → 48 ≤ b ∧ b ≤ 57 := fun b hb => by unfold isDg at hb; simpa using hb
    have lt := tkE_lt (t := t) hlt
    have loop : ∀ (k e : Nat) (mi2 : pm_I) (ml2 : pm_L), n - e = k → s ≤ e → e ≤ n → runN (fun i => isDg (t i)) n e = tkE t n s → fT z mi0 mi2 ml0 ml2 → mi2 z 12 = nI s → mi2 z 10 = nI e → mi2 z 14 = nI (if e = s then 0 else if e = s + 1 then t s - 48 else 10 * (t s - 48) + (t (s + 1) - 48)) → c_X12_token_163 l (d + 1) kd mr z (nI (e - s)) mi2 ml2 K := by
      intro k
      induction k with
      | zero =>
        intro e mi2 ml2 hk hse hen hrun f2 q12 q10 q14
        have : e = n := by omega
        subst this
        have he : tkE t e s = e := by rw [← hrun, runN_stop fun q => by omega]
        refine w_X12_token_163 tz (s_see tz (P.fT f2) q10 (Nat.le_refl _) (s_seeD (tb e) ⟨fun _ => ?_, fun g => ?_⟩))
        · have eK : tkK t e s = if e - s ≤ 2 then 2 else 4 := by unfold tkK; rw [if_neg (by omega), if_neg (by rw [hle]; decide), if_pos hdg, he]
          refine k9 _ _ (f2.up (by omega)) ⟨?_, ?_, ?_, fun _ => ?_, fun hk => ?_, hs⟩
          · rw [pm_up_j _ _ (by decide)]; exact q12
          · rw [pm_up_j _ _ (by decide), he]; exact q10
          · rw [pm_up_s, eK]
            have e2 : (nI (e - s) ≤ (2 : Int32)) = (e - s ≤ 2) := z_le (b := 2) (by omega) (by omega)
            simp only [e2]
            by_cases q : e - s ≤ 2
            · rw [if_pos q, if_pos q]; rfl
            · rw [if_neg q, if_neg q]; rfl
          · rw [pm_up_j _ _ (by decide), q14, if_neg (by omega)]
            unfold tkV; rw [he]
          · rw [eK] at hk; split at hk <;> cases hk
        · rw [decide_eq_false (Nat.lt_irrefl e)] at g; cases g
      | succ k ih =>
        intro e mi2 ml2 hk hse hen hrun f2 q12 q10 q14
        have te := tb e (by omega)
        refine w_X12_token_163 tz (s_see tz (P.fT f2) q10 (by omega) (s_seeD (tb e) ⟨fun g => ?_, fun g => ?_⟩))
        · rw [decide_eq_true (show e < n by omega), Bool.true_and] at g
          have he : tkE t n s = e := by rw [← hrun, runN_stF (f := fun i => isDg (t i)) (p := e) g]
          have eK : tkK t n s = if e - s ≤ 2 then 2 else 4 := by unfold tkK; rw [if_neg (by omega), if_neg (by rw [hle]; decide), if_pos hdg, he]
          refine k9 _ _ (f2.up (by omega)) ⟨?_, ?_, ?_, fun _ => ?_, fun hk => ?_, hs⟩
          · rw [pm_up_j _ _ (by decide)]; exact q12
          · rw [pm_up_j _ _ (by decide), he]; exact q10
          · rw [pm_up_s, eK]
            have e2 : (nI (e - s) ≤ (2 : Int32)) = (e - s ≤ 2) := z_le (b := 2) (by omega) (by omega)
            simp only [e2]
            by_cases q : e - s ≤ 2
            · rw [if_pos q, if_pos q]; rfl
            · rw [if_neg q, if_neg q]; rfl
          · rw [pm_up_j _ _ (by decide), q14, if_neg (by omega)]
            unfold tkV; rw [he]
          · rw [eK] at hk; split at hk <;> cases hk
        · rw [decide_eq_true (show e < n by omega), Bool.true_and] at g
          have db := dg _ g
          have ds := dg _ hdg
          have e2 : ((2 : Int32) ≤ nI (e - s)) = (2 ≤ e - s) := z_le (a := 2) (by omega) (by omega)
          rw [e2]
          have go : ∀ v, v = nI (if e + 1 = s + 1 then t s - 48 else 10 * (t s - 48) + (t (s + 1) - 48)) → c_X12_token_205 l (d + 1) kd mr z (nI (e - s)) v mi2 ml2 K := by
            intro v hv
            refine w_X12_token_205 tz ?_
            rw [nI_1, show e - s + 1 = e + 1 - s by omega]
            refine ih (e + 1) _ _ (by omega) (by omega) (by omega) ?_ ((f2.up (by omega)).up (by omega)) ?_ ?_ ?_
            · rw [← hrun, ← runN_go (f := fun i => isDg (t i)) (p := e) (by omega) g]
            · rw [pm_up_j _ _ (by decide), pm_up_j _ _ (by decide)]; exact q12
            · rw [pm_up_s, q10]; exact nI_1 e
            · rw [pm_up_j _ _ (by decide), pm_up_s, if_neg (by omega)]; exact hv
          refine ⟨fun h => go _ ?_, fun h => s_see tz (P.fT f2) q10 (by omega) (go _ ?_)⟩
          · rw [q14, if_neg (by omega), if_neg (by omega), if_neg (by omega)]
          · unfold seeN
            rw [if_pos (show e < n by omega), q14]
            by_cases q : e = s
            · subst q
              rw [if_pos rfl, if_pos rfl]
              have : (10 : Int32) * nI 0 + nI (t e) = nI (t e) := by rw [show (10 : Int32) * nI 0 = nI (10 * 0) from z_mul 10 0, nI_add]; congr 1; omega
              rw [this]
              exact z_sub (b := 48) (by omega)
            · have : e = s + 1 := by omega
              subst this
              rw [if_neg (by omega), if_pos rfl, if_neg (by omega)]
              rw [show (10 : Int32) * nI (t s - 48) = nI (10 * (t s - 48)) from z_mul 10 _, nI_add]
              have : nI (10 * (t s - 48) + t (s + 1)) - (48 : Int32) = nI (10 * (t s - 48) + t (s + 1) - 48) := z_sub (b := 48) (by omega)
              rw [this]; congr 1; omega
    have := loop (n - s) s (pm_up mi1 z 14 0) (pm_up ml z 15 0) rfl (Nat.le_refl _) hs eE.symm (f1.upL.up (by omega)) (by rw [pm_up_j _ _ (by decide)]; exact e12) (by rw [pm_up_j _ _ (by decide)]; exact e10) (by rw [pm_up_s, if_pos rfl]; rfl)
    rw [Nat.sub_self] at this; exact this
  · -- letters
    rw [decide_eq_true hlt, Bool.true_and] at hle
    have eE : tkE t n s = runN (fun i => isLe (t i)) n s := by unfold tkE; rw [if_neg (by omega), if_pos hle]
    have eK : tkK t n s = 1 := by unfold tkK; rw [if_neg (by omega), if_pos hle]
    have lg : ∀ b, isLe b = true → 97 ≤ b ∧ b ≤ 122 := fun b hb => by unfold isLe at hb; simpa using hb
    have all : ∀ i, i < tkE t n s - s → 0 < t (s + i) ∧ t (s + i) < 256 := fun i hi => by
      obtain ⟨-, -, g3, -⟩ := runN_le (f := fun i => isLe (t i)) (n := n) _ s rfl hs
      have := lg _ (g3 (s + i) (by omega) (by rw [← eE]; omega))
      omega
    have fin : ∀ (e : Nat) (mi2 : pm_I) (ml2 : pm_L), tkE t n s = e → fT z mi0 mi2 ml0 ml2 → mi2 z 12 = nI s → mi2 z 10 = nI e → ml2 z 15 = Int64.ofNat (pkF (fun i => t (s + i)) (e - s)) → e ≤ n → K (pm_up mi2 z 13 2) (pm_up ml2 z 15 (if nI (e - s) ≤ 8 then ml2 z 15 else (0 : Int64))) := by
      intro e mi2 ml2 he f2 q12 q10 q15 hen
      refine k9 _ _ (f2.upL.up (by omega)) ⟨?_, ?_, ?_, fun hk => ?_, fun _ => ?_, hs⟩
      · rw [pm_up_j _ _ (by decide)]; exact q12
      · rw [pm_up_j _ _ (by decide), he]; exact q10
      · rw [pm_up_s, eK]; rfl
      · rw [eK] at hk; cases hk
      · rw [pm_up_s, q15]
        have e8 : (nI (e - s) ≤ (8 : Int32)) = (e - s ≤ 8) := z_le (b := 8) (by omega) (by omega)
        simp only [e8]
        unfold tkW
        rw [he] at all ⊢
        exact wOK_F all
    have loop : ∀ (k e : Nat) (mi2 : pm_I) (ml2 : pm_L), n - e = k → s ≤ e → e ≤ n → runN (fun i => isLe (t i)) n e = tkE t n s → fT z mi0 mi2 ml0 ml2 → mi2 z 12 = nI s → mi2 z 10 = nI e → ml2 z 15 = Int64.ofNat (pkF (fun i => t (s + i)) (e - s)) → c_X12_token_74 l (d + 1) kd mr z (nI (e - s)) mi2 ml2 K := by
      intro k
      induction k with
      | zero =>
        intro e mi2 ml2 hk hse hen hrun f2 q12 q10 q15
        have : e = n := by omega
        subst this
        refine w_X12_token_74 tz (s_see tz (P.fT f2) q10 (Nat.le_refl _) (s_seeL (tb e) ⟨fun _ => fin e mi2 ml2 (by rw [← hrun, runN_stop fun q => by omega]) f2 q12 q10 q15 hen, fun g => ?_⟩))
        rw [decide_eq_false (Nat.lt_irrefl e)] at g; cases g
      | succ k ih =>
        intro e mi2 ml2 hk hse hen hrun f2 q12 q10 q15
        have te := tb e (by omega)
        refine w_X12_token_74 tz (s_see tz (P.fT f2) q10 (by omega) (s_seeL (tb e) ⟨fun g => ?_, fun g => s_see tz (P.fT f2) q10 (by omega) ?_⟩))
        · rw [decide_eq_true (show e < n by omega), Bool.true_and] at g
          exact fin e mi2 ml2 (by rw [← hrun, runN_stF (f := fun i => isLe (t i)) (p := e) g]) f2 q12 q10 q15 hen
        · rw [decide_eq_true (show e < n by omega), Bool.true_and] at g
          rw [nI_1, show e - s + 1 = e + 1 - s by omega]
          refine ih (e + 1) _ _ (by omega) (by omega) (by omega) ?_ (f2.upL.up (by omega)) ?_ ?_ ?_
          · rw [← hrun, ← runN_go (f := fun i => isLe (t i)) (p := e) (by omega) g]
          · rw [pm_up_j _ _ (by decide)]; exact q12
          · rw [pm_up_s, q10]; exact nI_1 e
          · rw [pm_up_s, q15]
            unfold seeN
            rw [if_pos (show e < n by omega), pk_step _ _ te, show e + 1 - s = e - s + 1 by omega]
            show _ = Int64.ofNat (256 * pkF (fun i => t (s + i)) (e - s) + t (s + (e - s)))
            rw [show s + (e - s) = e by omega]
    have := loop (n - s) s mi1 (pm_up ml z 15 0) rfl (Nat.le_refl _) hs eE.symm f1.upL e12 e10 (by rw [pm_up_s, Nat.sub_self]; rfl)
    rw [Nat.sub_self] at this; exact this
  · have eE := tkE_end (t := t) (n := n) (s := s) (by omega)
    have eK : tkK t n s = 0 := tkK_0.mpr (by omega)
    refine k9 _ _ (f1.upL.up (by omega)) ⟨?_, ?_, ?_, fun hk => ?_, fun hk => ?_, hs⟩
    · rw [pm_up_j _ _ (by decide)]; exact e12
    · rw [pm_up_j _ _ (by decide), eE]; exact e10
    · rw [pm_up_s, eK]; rfl
    · rw [eK] at hk; cases hk
    · rw [eK] at hk; cases hk
theorem s_token {mi0 : pm_I} {ml0 : pm_L} {K : pm_I → pm_L → Prop} (tz : TX12s kd mr z) (P : tpZ mi0 z t n) (hp : p ≤ n) (f0 : fT z mi0 mi ml0 ml) (h0 : mi z 10 = nI p)
    (k9 : ∀ mi' ml', fT z mi0 mi' ml0 ml' → tkZ mi' ml' z t n (tkS t n p) → K mi' ml') : wV l M_X12_token (d + 1) [.ref z] kd mr mi ml K := by
  have n600 := P.2.1
  have tb : ∀ p, p < n → t p < 256 := fun p hp => (P.2.2 p hp).2
  have e10 : ∀ s, (seeN t n s = (10 : Int32)) = (s < n ∧ t s = 10) := fun s => see_eq (b := 10) (by decide) (tb s)
  have e32 : ∀ s, (seeN t n s = (32 : Int32)) = (s < n ∧ t s = 32) := fun s => see_eq (b := 32) (by decide) (tb s)
  have blk : ∀ s, s < n → (t s = 10 ∨ t s = 32) → isBl (t s) = true := fun s _ h => by unfold isBl; rcases h with h | h <;> rw [h] <;> decide
  have nbl : ∀ s, ¬ (s < n ∧ t s = 10) → ¬ (s < n ∧ t s = 32) → runN (fun i => isBl (t i)) n s = s := fun s h1 h2 => runN_stop fun q => by
    obtain ⟨q1, q2⟩ := q
    have q2 : isBl (t s) = true := q2
    unfold isBl at q2
    simp only [Bool.or_eq_true, decide_eq_true_eq] at q2
    rcases q2 with q2 | q2
    · exact h1 ⟨q1, q2⟩
    · exact h2 ⟨q1, q2⟩
  have loop : ∀ (k s : Nat) (mi1 : pm_I) (ml1 : pm_L), n - s = k → s ≤ n → runN (fun i => isBl (t i)) n s = tkS t n p → fT z mi0 mi1 ml0 ml1 → mi1 z 10 = nI s → c_X12_token_0 l (d + 1) kd mr z mi1 ml1 K := by
    intro k
    induction k with
    | zero =>
      intro s mi1 ml1 hk hsn hrun f1 g10
      refine w_X12_token_0 tz (s_see tz (P.fT f1) g10 hsn ?_)
      rw [e10]
      refine ⟨fun h => by omega, fun h1 => s_see tz (P.fT f1) g10 hsn ?_⟩
      rw [e32]
      refine ⟨fun h2 => ?_, fun h => by omega⟩
      rw [nbl s h1 h2] at hrun
      exact s_aft tz P hsn f1 g10 fun mi' ml' f g => k9 mi' ml' f (by rw [← hrun]; exact g)
    | succ k ih =>
      intro s mi1 ml1 hk hsn hrun f1 g10
      have on : s < n → isBl (t s) = true → c_X12_token_18 l (d + 1) kd mr z mi1 ml1 K := by
        intro hlt hb
        refine w_X12_token_18 tz (ih (s + 1) _ _ (by omega) (by omega) ?_ (f1.up (by omega)) ?_)
        · rw [← hrun, ← runN_go (f := fun i => isBl (t i)) (p := s) hlt hb]
        · rw [pm_up_s, g10]; exact nI_1 s
      refine w_X12_token_0 tz (s_see tz (P.fT f1) g10 hsn ?_)
      rw [e10]
      refine ⟨fun h => on h.1 (blk s h.1 (Or.inl h.2)), fun h1 => s_see tz (P.fT f1) g10 hsn ?_⟩
      rw [e32]
      refine ⟨fun h2 => ?_, fun h => on h.1 (blk s h.1 (Or.inr h.2))⟩
      rw [nbl s h1 h2] at hrun
      exact s_aft tz P hsn f1 g10 fun mi' ml' f g => k9 mi' ml' f (by rw [← hrun]; exact g)
  have on : p < n → isBl (t p) = true → c_X12_token_18 l (d + 1) kd mr z mi ml K := by
    intro hlt hb
    refine w_X12_token_18 tz (loop (n - (p + 1)) (p + 1) _ _ rfl (by omega) ?_ (f0.up (by omega)) ?_)
    · exact (runN_go (f := fun i => isBl (t i)) (p := p) hlt hb).symm
    · rw [pm_up_s, h0]; exact nI_1 p
  refine w_X12_token tz (s_see tz (P.fT f0) h0 hp ?_)
  rw [e10]
  refine ⟨fun h => on h.1 (blk p h.1 (Or.inl h.2)), fun h1 => s_see tz (P.fT f0) h0 hp ?_⟩
  rw [e32]
  refine ⟨fun h2 => ?_, fun h => on h.1 (blk p h.1 (Or.inr h.2))⟩
  have hrun : p = tkS t n p := (nbl p h1 h2).symm
  exact s_aft tz P hp f0 h0 fun mi' ml' f g => k9 mi' ml' f (by rw [← hrun]; exact g)
end TKZ
