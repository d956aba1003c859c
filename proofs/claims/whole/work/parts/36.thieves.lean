/-! thieves, through and through -/
def FLn (q : Nat → Int32) (n : Nat) : List Nat := fl (fun s => isP q s && decide (wrS q s = 0)) n
theorem FLn_yes {q : Nat → Int32} {n : Nat} (h1 : isP q n = true) (h2 : wrS q n = 0) : FLn q (n + 1) = FLn q n ++ [n] := by
  show (if _ then _ else _) = _
  rw [if_pos (show (isP q n && decide (wrS q n = 0)) = true by rw [h1, h2]; rfl)]; rfl
theorem FLn_no {q : Nat → Int32} {n : Nat} (h : ¬ (isP q n = true ∧ wrS q n = 0)) : FLn q (n + 1) = FLn q n := by
  show (if _ then _ else _) = _
  rw [if_neg (by simpa using h)]; rfl
theorem rowL_up {mi : pm_I} {a n : Nat} {L : List Nat} (h : rowL (mi a) L) : rowL (pm_up mi a L.length (nI n) a) (L ++ [n]) := by
  have hr := rowL_push (n := n) h
  intro i hi
  have := hr i hi
  by_cases q9 : i = L.length
  · subst q9
    rw [pm_up_s]
    simp only [if_true] at this
    exact this
  · simp only [if_neg q9] at this
    rw [pm_up_j _ _ q9]; exact this
theorem wrS_le (q : Nat → Int32) (s : Nat) : wrS q s ≤ gN q 2 := cnt_le _ _
/-- all of a list, and-ed -/
def andL (f : Int32 → Int32) (L : List Nat) (c : Int32) : Nat → Int32
  | 0 => c
  | n + 1 => andL f L c n &&& f (nI (L.getD n 0))
/-- by how many sets the one would say it of the other -/
def sayL (L : List Nat) (w v : Nat) : Nat := cnt (fun k => (L.getD k 0).testBit w ^^ (L.getD k 0).testBit v) L.length
def sayG (L : List Nat) (w v : Nat) : Nat := mx (sayL L w v) (L.length - sayL L w v)
/-- the first of the least -/
def fbest (P : Nat → Bool) (g : Nat → Nat) : Nat → Option Nat
  | 0 => none
  | n + 1 => if P n = true then (match fbest P g n with
    | none => some n
    | some b => if g n < g b then some n else some b) else fbest P g n
theorem fbest_lt {P : Nat → Bool} {g : Nat → Nat} {n b : Nat} (h : fbest P g n = some b) : b < n := by
  induction n generalizing b with
  | zero => cases h
  | succ n ih =>
    unfold fbest at h
    split at h
    · split at h
      · cases h; omega
      · rename_i e
        have := ih e
        split at h <;> (cases h; omega)
    · have := ih h; omega
theorem mx_X9 (a b : Nat) (ha : a < 100000) (hb : b < 100000) : (if nI a < nI b then nI b else nI a) = nI (mx a b) := by
  have q : (nI a < nI b) = (a < b) := z_lt (by omega) (by omega)
  simp only [q]
  unfold mx
  split <;> rfl
theorem mx_Z9 (a b : Nat) (ha : a < 100000) (hb : b < 100000) : (if nI a ≤ nI b then nI b else nI a) = nI (mx a b) := by
  have q : (nI a ≤ nI b) = (a ≤ b) := z_le (by omega) (by omega)
  simp only [q]
  unfold mx
  split <;> split <;> first | rfl | (congr 1; omega)
theorem z_bx : ∀ m, m < 256 → ∀ w, w < 8 → ∀ v, v < 8 → (((nI m >>> (nI w &&& nI 31)) ^^^ (nI m >>> (nI v &&& nI 31))) &&& nI 1) = nI (if (m.testBit w ^^ m.testBit v) = true then 1 else 0) := by decide +kernel
theorem sayL_le (L : List Nat) (w v : Nat) : sayL L w v ≤ L.length := cnt_le _ _
theorem sayG_le (L : List Nat) (w v : Nat) : sayG L w v ≤ L.length := by
  have := sayL_le L w v
  unfold sayG mx; split <;> omega
/-- what is asked best -/
def askL (L : List Nat) (W : Nat) (j : Nat) : Nat := amin (fun j => sayG L (j / W) (j % W)) j
section THV
variable {l : Launch} {d x z o T k a1 : Nat} {kd : pm_K} {mr : pm_R} {mi : pm_I} {ml : pm_L} {q : Nat → Int32} {m : Nat}
theorem s_findFit {K : Int32 → pm_I → pm_L → Prop} (to : TX10s kd mr o) (ka : kd[a1]? = some (1, 256)) (C : TC mi o q) (hne : a1 < o ∨ o + 4 < a1) (k9 : ∀ mi', (∀ a, a ≠ a1 → mi' a = mi a) → rowL (mi' a1) (FLn q (2 ^ gN q 0)) → K (nI (FLn q (2 ^ gN q 0)).length) mi' ml) : wI l M_X10_findFitting (d + 2) [.ref o, .ref a1] kd mr mi ml K := by
  obtain ⟨p1, p2, p3, p4⟩ := C.1.pw
  have hw0 : mi o 0 = nI (gN q 0) := C.2.1.trans C.1.2.1
  have loop : ∀ (u n : Nat) (mi1 : pm_I), n + u = 2 ^ gN q 0 → (∀ a, a ≠ a1 → mi1 a = mi a) → rowL (mi1 a1) (FLn q n) → c_X10_findFitting_4 l (d + 2) kd mr o a1 256 (nI (FLn q n).length) (nI n) mi1 ml K := by
    intro u
    induction u with
    | zero =>
      intro n mi1 hn h1 h2
      have : n = 2 ^ gN q 0 := by omega
      subst this
      refine w_X10_findFitting_4 to ka ⟨fun _ => k9 mi1 h1 h2, fun h => absurd ?_ h⟩
      rw [h1 o (by omega), hw0, p4]; exact nI_le (Nat.le_refl _) (by omega)
    | succ u ih =>
      intro n mi1 hn h1 h2
      have hs := p3 n (by omega)
      have hl : (FLn q n).length ≤ n := fl_len _ _
      have C1 : TC mi1 o q := C.same fun a g1 g2 => h1 a (by omega)
      refine w_X10_findFitting_4 to ka ⟨fun h => absurd h ?_, fun _ => s_isAsMany to C1 rfl hs ⟨fun h => w_X10_findFitting_43 to ka ?_, fun h => s_wrong to C1 rfl hs ⟨fun h3 => w_X10_findFitting_43 to ka ?_, fun h3 => ⟨fun h4 => absurd h4 (nI_ge (b := 256) (by omega) (by omega)), fun _ => ⟨z_in (by omega) (by omega), w_X10_findFitting_43 to ka ?_⟩⟩⟩⟩⟩
      · rw [h1 o (by omega), hw0, p4]; exact nI_ge (by omega) (by omega)
      · have e : FLn q (n + 1) = FLn q n := FLn_no fun h9 => by rw [h] at h9; exact absurd h9.1 (by decide)
        rw [nI_1]
        have := ih (n + 1) mi1 (by omega) h1 (by rw [e]; exact h2)
        rw [e] at this; exact this
      · have hw := wrS_le q n
        have hq := C.1.1
        have e : FLn q (n + 1) = FLn q n := FLn_no fun h9 => h3 (by rw [h9.2]; rfl)
        rw [nI_1]
        have := ih (n + 1) mi1 (by omega) h1 (by rw [e]; exact h2)
        rw [e] at this; exact this
      · have hw := wrS_le q n
        have hq := C.1.1
        have h3' : wrS q n = 0 := by
          have h3 : nI (wrS q n) = nI 0 := h3
          rw [z_eq (by omega) (by omega)] at h3; exact h3
        have e := FLn_yes h h3'
        rw [nI_1, nI_1, z_cl (by omega)]
        have := ih (n + 1) (pm_up mi1 a1 (FLn q n).length (nI n)) (by omega) (fun a ha => by rw [pm_up_row _ _ ha]; exact h1 a ha) (by
          rw [e]
          exact rowL_up h2)
        rw [e, List.length_append] at this
        exact this
  exact w_X10_findFitting to ka (loop (2 ^ gN q 0) 0 mi (Nat.zero_add _) (fun _ _ => rfl) (rowL_nil _))
theorem s_findFits {K : pm_I → pm_L → Prop} (tz : TX12s kd mr z) (H : HT mi z k q) (O : okT q) (n2 : q 2 = nI (gN q 2)) (k9 : ∀ mi', (∀ a, a ≠ z → a ≠ z + 22 → mi' a = mi a) → (∀ b, b ≠ 48 → mi' z b = mi z b) → mi' z 48 = nI (FLn q (2 ^ gN q 0)).length → rowL (mi' (z + 22)) (FLn q (2 ^ gN q 0)) → K mi' ml) : wV l M_X12_findFits (d + 3) [.ref z] kd mr mi ml K := by
  obtain ⟨p1, p2, p3, p4⟩ := O.pw
  have loop : ∀ (u n : Nat) (mi1 : pm_I), n + u = 2 ^ gN q 0 → (∀ a, a ≠ z → a ≠ z + 22 → mi1 a = mi a) → (∀ b, b ≠ 48 → mi1 z b = mi z b) → mi1 z 48 = nI (FLn q n).length → rowL (mi1 (z + 22)) (FLn q n) → c_X12_findFits_7 l (d + 3) kd mr z (nI n) mi1 ml K := by
    intro u
    induction u with
    | zero =>
      intro n mi1 hn h1 h2 h3 h4
      have : n = 2 ^ gN q 0 := by omega
      subst this
      have H1 : HT mi1 z k q := H.same (h2 _ (by omega)) (h1 _ (by omega) (by omega))
      refine w_X12_findFits_7 tz (s_trialOf (a := 0) tz H1 rfl (by omega) ?_)
      rw [O.2.1, p4]
      exact ⟨fun _ => k9 mi1 h1 h2 h3 h4, fun h => absurd (nI_le (Nat.le_refl _) (by omega)) h⟩
    | succ u ih =>
      intro n mi1 hn h1 h2 h3 h4
      have hs := p3 n (by omega)
      have hl : (FLn q n).length ≤ n := fl_len _ _
      have H1 : HT mi1 z k q := H.same (h2 _ (by omega)) (h1 _ (by omega) (by omega))
      refine w_X12_findFits_7 tz (s_trialOf (a := 0) tz H1 rfl (by omega) ?_)
      rw [O.2.1, p4]
      refine ⟨fun h => absurd h (nI_ge (by omega) (by omega)), fun _ => s_areMany tz H1 rfl hs ⟨fun h => w_X12_findFits_54 tz ?_, fun h => s_against tz H1 O n2 rfl hs ⟨fun h5 => w_X12_findFits_54 tz ?_, fun h5 => ⟨?_, w_X12_findFits_54 tz ?_⟩⟩⟩⟩
      · have e : FLn q (n + 1) = FLn q n := FLn_no fun h9 => by rw [h] at h9; exact absurd h9.1 (by decide)
        rw [nI_1]
        exact ih (n + 1) mi1 (by omega) h1 h2 (by rw [e]; exact h3) (by rw [e]; exact h4)
      · have e : FLn q (n + 1) = FLn q n := FLn_no fun h9 => h5 (by rw [h9.2]; rfl)
        rw [nI_1]
        exact ih (n + 1) mi1 (by omega) h1 h2 (by rw [e]; exact h3) (by rw [e]; exact h4)
      · rw [h3]; exact z_in (by omega) (by omega)
      · have hw := wrS_le q n
        have hq := O.1
        have h5' : wrS q n = 0 := by
          have h5 : nI (wrS q n) = nI 0 := h5
          rw [z_eq (by omega) (by omega)] at h5; exact h5
        have e := FLn_yes h h5'
        have ez : (mi1 z 48).toNatClampNeg = (FLn q n).length := by rw [h3, z_cl (by omega)]
        rw [nI_1, ez, h3, nI_1]
        refine ih (n + 1) _ (by omega) (fun a ha1 ha2 => ?_) (fun b hb => ?_) ?_ ?_
        · rw [pm_up_row _ _ ha1, pm_up_row _ _ ha2]; exact h1 a ha1 ha2
        · rw [pm_up_j _ _ hb, pm_up_row _ _ (by omega)]; exact h2 b hb
        · rw [pm_up_s, e, List.length_append]; rfl
        · rw [pm_up_row _ _ (by omega), e]
          exact rowL_up h4
  refine w_X12_findFits tz (loop (2 ^ gN q 0) 0 _ (Nat.zero_add _) (fun a ha1 ha2 => pm_up_row _ _ ha1) (fun b hb => pm_up_j _ _ hb) (pm_up_s _ _ _ _) (rowL_nil _))
theorem s_inAll {y : Int32} {L : List Nat} {K : Int32 → pm_I → pm_L → Prop} (to : TX10s kd mr o) (ka : kd[a1]? = some (1, 256)) (C : TC mi o q) (hr : rowL (mi a1) L) (hL : L.length ≤ 256) (hy : y = nI L.length) (k9 : K (andL id L (nI (2 ^ gN q 0) - 1) L.length) mi ml) : wI l M_X10_inAll d [.ref o, .ref a1, .int y] kd mr mi ml K := by
  subst hy
  obtain ⟨p1, p2, p3, p4⟩ := C.1.pw
  have hw0 : mi o 0 = nI (gN q 0) := C.2.1.trans C.1.2.1
  have loop : ∀ (u i : Nat), i + u = L.length → c_X10_inAll_12 l d kd mr o a1 256 (nI L.length) (andL id L (nI (2 ^ gN q 0) - 1) i) (nI i) mi ml K := by
    intro u
    induction u with
    | zero =>
      intro i hi
      have : i = L.length := by omega
      subst this
      exact w_X10_inAll_12 to ka ⟨fun _ => k9, fun h => absurd (nI_le (Nat.le_refl _) (by omega)) h⟩
    | succ u ih =>
      intro i hi
      refine w_X10_inAll_12 to ka ⟨fun h => absurd h (nI_ge (by omega) (by omega)), fun _ => ⟨z_in (by omega) (by omega), ?_⟩⟩
      rw [nI_1, z_cl (by omega), hr i (by omega)]
      exact ih (i + 1) (by omega)
  refine w_X10_inAll to ka ?_
  rw [hw0, p4]
  exact loop _ 0 (Nat.zero_add _)
theorem s_inNone {y : Int32} {L : List Nat} {K : Int32 → pm_I → pm_L → Prop} (to : TX10s kd mr o) (ka : kd[a1]? = some (1, 256)) (C : TC mi o q) (hr : rowL (mi a1) L) (hL : L.length ≤ 256) (hy : y = nI L.length) (k9 : K (andL (fun v => v ^^^ (-1)) L (nI (2 ^ gN q 0) - 1) L.length) mi ml) : wI l M_X10_inNone d [.ref o, .ref a1, .int y] kd mr mi ml K := by
  subst hy
  obtain ⟨p1, p2, p3, p4⟩ := C.1.pw
  have hw0 : mi o 0 = nI (gN q 0) := C.2.1.trans C.1.2.1
  have loop : ∀ (u i : Nat), i + u = L.length → c_X10_inNone_12 l d kd mr o a1 256 (nI L.length) (andL (fun v => v ^^^ (-1)) L (nI (2 ^ gN q 0) - 1) i) (nI i) mi ml K := by
    intro u
    induction u with
    | zero =>
      intro i hi
      have : i = L.length := by omega
      subst this
      exact w_X10_inNone_12 to ka ⟨fun _ => k9, fun h => absurd (nI_le (Nat.le_refl _) (by omega)) h⟩
    | succ u ih =>
      intro i hi
      refine w_X10_inNone_12 to ka ⟨fun h => absurd h (nI_ge (by omega) (by omega)), fun _ => ⟨z_in (by omega) (by omega), ?_⟩⟩
      rw [nI_1, z_cl (by omega), hr i (by omega)]
      exact ih (i + 1) (by omega)
  refine w_X10_inNone to ka ?_
  rw [hw0, p4]
  exact loop _ 0 (Nat.zero_add _)
theorem s_common {b : Bool} {L : List Nat} {K : Int32 → pm_I → pm_L → Prop} (tz : TX12s kd mr z) (H : HT mi z k q) (O : okT q) (hr : rowL (mi (z + 22)) L) (hL : L.length ≤ 256) (h48 : mi z 48 = nI L.length) (k9 : K (andL (fun v => if b = true then v else v ^^^ (-1)) L (nI (2 ^ gN q 0) - 1) L.length) mi ml) : wI l M_X12_common (d + 1) [.ref z, .int (b2i b)] kd mr mi ml K := by
  obtain ⟨p1, p2, p3, p4⟩ := O.pw
  have loop : ∀ (u i : Nat), i + u = L.length → c_X12_common_12 l (d + 1) kd mr z (b2i b) (andL (fun v => if b = true then v else v ^^^ (-1)) L (nI (2 ^ gN q 0) - 1) i) (nI i) mi ml K := by
    intro u
    induction u with
    | zero =>
      intro i hi
      have : i = L.length := by omega
      subst this
      exact w_X12_common_12 tz ⟨fun _ => k9, fun h => absurd (by rw [h48]; exact nI_le (Nat.le_refl _) (by omega)) h⟩
    | succ u ih =>
      intro i hi
      refine w_X12_common_12 tz ⟨fun h => absurd h (by rw [h48]; exact nI_ge (by omega) (by omega)), fun _ => ⟨fun h => ⟨z_in (by omega) (by omega), w_X12_common_42 tz ?_⟩, fun h => ⟨z_in (by omega) (by omega), w_X12_common_42 tz ?_⟩⟩⟩
      · have nx := ih (i + 1) (by omega)
        unfold andL at nx
        have hb : b = false := by cases b; rfl; exact absurd h (by decide)
        rw [nI_1, z_cl (by omega), hr i (by omega)]
        rw [if_neg (by rw [hb]; decide)] at nx
        exact nx
      · have nx := ih (i + 1) (by omega)
        unfold andL at nx
        have hb : b = true := by cases b; exact absurd rfl h; rfl
        rw [nI_1, z_cl (by omega), hr i (by omega)]
        rw [if_pos hb] at nx
        exact nx
  refine w_X12_common tz (s_trialOf (a := 0) tz H rfl (by omega) ?_)
  rw [O.2.1, p4]
  exact loop _ 0 (Nat.zero_add _)
theorem s_saidBy {y v w : Int32} {L : List Nat} {a b : Nat} {K : Int32 → pm_I → pm_L → Prop} (ka : kd[a1]? = some (1, 256)) (hr : rowL (mi a1) L) (hL : L.length ≤ 256) (h256 : ∀ i, i < L.length → L.getD i 0 < 256) (hy : y = nI L.length) (hv : v = nI a) (hw : w = nI b) (ha : a < 8) (hb : b < 8) (k9 : K (nI (sayL L a b)) mi ml) : wI l M_X10_saidBy d [.ref a1, .int y, .int v, .int w] kd mr mi ml K := by
  subst hy; subst hv; subst hw
  have loop : ∀ (u i : Nat), i + u = L.length → c_X10_saidBy_6 l d kd mr a1 256 (nI L.length) (nI a) (nI b) (nI (cnt (fun k => (L.getD k 0).testBit a ^^ (L.getD k 0).testBit b) i)) (nI i) mi ml K := by
    intro u
    induction u with
    | zero =>
      intro i hi
      have : i = L.length := by omega
      subst this
      exact w_X10_saidBy_6 ka ⟨fun _ => k9, fun h => absurd (nI_le (Nat.le_refl _) (by omega)) h⟩
    | succ u ih =>
      intro i hi
      refine w_X10_saidBy_6 ka ⟨fun h => absurd h (nI_ge (by omega) (by omega)), fun _ => ⟨z_in (by omega) (by omega), z_in (by omega) (by omega), ?_⟩⟩
      rw [nI_1, z_cl (by omega), hr i (by omega)]
      have e : ((nI (L.getD i 0) >>> (nI a &&& 31)) ^^^ (nI (L.getD i 0) >>> (nI b &&& 31))) &&& 1 = nI (if ((L.getD i 0).testBit a ^^ (L.getD i 0).testBit b) = true then 1 else 0) := z_bx _ (h256 i (by omega)) a ha b hb
      rw [e, nI_add]
      exact ih (i + 1) (by omega)
  exact w_X10_saidBy ka (loop _ 0 (Nat.zero_add _))
end THV
