/-! two marched together: the class's search in width -/
def sp2 (r : Nat → Int32) (i : Nat) : Nat := spC r (i / 64) * 64 + spC r (i % 64)
/-- come to behind a first step o and m further ones -/
def fwd (r : Nat → Int32) (Hc : Nat → Prop) (s : Nat) : Nat → Nat → Nat → Prop
  | 0 => fun o i => i = nxI r Hc s o
  | m + 1 => fun o i => ∃ i' w, w < 4 ∧ fwd r Hc s m o i' ∧ i = nxI r Hc i' w
theorem pig (Q : Nat → Nat) (N : Nat) : ∀ n, (∀ j, j < n → Q j < N) → (∀ j j', j < n → j' < n → Q j = Q j' → j = j') → n ≤ cnt (fun i => pb (∃ j, j < n ∧ Q j = i)) N := by
  intro n
  induction n with
  | zero => intro _ _; exact Nat.zero_le _
  | succ n ih =>
    intro h1 h2
    have a := ih (fun j hj => h1 j (by omega)) (fun j j' hj hj' => h2 j j' (by omega) (by omega))
    have b := cnt_slt (P := fun i => pb (∃ j, j < n ∧ Q j = i)) (Q := fun i => pb (∃ j, j < n + 1 ∧ Q j = i)) (n := N) (j := Q n) (fun i _ hp => by
      obtain ⟨j, g1, g2⟩ := pb_iff.mp hp
      exact pb_iff.mpr ⟨j, by omega, g2⟩) (h1 n (by omega)) (pb_iff.mpr ⟨n, by omega, rfl⟩) (fun q => by
      obtain ⟨j, g1, g2⟩ := pb_iff.mp q
      have := h2 j n (by omega) (by omega) g2
      omega)
    omega
section FW
variable {r : Nat → Int32} {Hc : Nat → Prop} {s : Nat}
theorem spC_inj (O : okC r) {a b : Nat} (ha : a < cells r) (hb : b < cells r) (h : spC r a = spC r b) : a = b := by
  rcases Nat.lt_trichotomy a b with q | q | q
  · have := spC_rise O q hb; omega
  · exact q
  · have := spC_rise O q ha; omega
theorem sp2_dm (O : okC r) {i : Nat} (hi : okI r i) : sp2 r i / 64 = spC r (i / 64) ∧ sp2 r i % 64 = spC r (i % 64) ∧ sp2 r i < 4096 := by
  have h1 := (spC_in O hi.1).2.2
  have h2 := (spC_in O hi.2).2.2
  unfold sp2
  omega
theorem sp2_inj (O : okC r) {i j : Nat} (hi : okI r i) (hj : okI r j) (h : sp2 r i = sp2 r j) : i = j := by
  obtain ⟨a1, a2, -⟩ := sp2_dm O hi
  obtain ⟨b1, b2, -⟩ := sp2_dm O hj
  rw [h] at a1 a2
  have e1 := spC_inj O hi.1 hj.1 (a1.symm.trans b1)
  have e2 := spC_inj O hi.2 hj.2 (a2.symm.trans b2)
  omega
theorem fwd_ok (O : okC r) (hs : okI r s) : ∀ m o i, fwd r Hc s m o i → okI r i := by
  intro m
  induction m with
  | zero => intro o i h; rw [show i = nxI r Hc s o from h]; exact (nxI_dm O hs).2.2
  | succ m ih =>
    rintro o i ⟨i', w, -, h2, rfl⟩
    exact (nxI_dm O (ih o i' h2)).2.2
theorem fwd_gI : ∀ m o i k, fwd r Hc s m o i → gI r Hc k i → gI r Hc (k + m) (nxI r Hc s o) := by
  intro m
  induction m with
  | zero => intro o i k h hg; rw [← show i = nxI r Hc s o from h]; exact hg
  | succ m ih =>
    rintro o i k ⟨i', w, h1, h2, rfl⟩ hg
    have := ih o i' (k + 1) h2 (Or.inr ⟨w, h1, hg⟩)
    rw [show k + 1 + m = k + (m + 1) by omega] at this
    exact this
theorem gI_fwd : ∀ k m o i, fwd r Hc s m o i → gI r Hc k i → ∃ m' i', m' ≤ m + k ∧ fwd r Hc s m' o i' ∧ i' / 64 = i' % 64 := by
  intro k
  induction k with
  | zero => intro m o i h hg; exact ⟨m, i, by omega, h, hg⟩
  | succ k ih =>
    intro m o i h hg
    rcases hg with hg | ⟨w, h1, hg⟩
    · obtain ⟨m', i', g1, g2⟩ := ih m o i h hg
      exact ⟨m', i', by omega, g2⟩
    · obtain ⟨m', i', g1, g2⟩ := ih (m + 1) o _ ⟨i, w, h1, h, rfl⟩ hg
      exact ⟨m', i', by omega, g2⟩
theorem gI_fwd0 : ∀ k, gI r Hc k s → ¬ s / 64 = s % 64 → ∃ m o i, m < k ∧ o < 4 ∧ fwd r Hc s m o i ∧ i / 64 = i % 64 := by
  intro k
  induction k with
  | zero => intro h hn; exact absurd h hn
  | succ k ih =>
    intro h hn
    rcases h with h | ⟨w, h1, h2⟩
    · obtain ⟨m, o, i, g1, g2⟩ := ih h hn
      exact ⟨m, o, i, by omega, g2⟩
    · obtain ⟨m, i, g1, g2, g3⟩ := gI_fwd k 0 w _ rfl h2
      exact ⟨m, w, i, by omega, h1, g2, g3⟩
end FW
/-- the key of a child -/
def ckB (s : Nat) (ky : Nat → Nat) (i w : Nat) : Nat := if i = s then 4 + w else ky i + 4
theorem ckB_c {s i w : Nat} {ky ky' : Nat → Nat} (h : ky i = ky' i) : ckB s ky i w = ckB s ky' i w := by unfold ckB; rw [h]
/-- the search: queue Q of n, keys, rows; hd are done, of hd's steps w -/
def BF (r : Nat → Int32) (Hc : Nat → Prop) (s : Nat) (Q : Nat → Nat) (n : Nat) (ky : Nat → Nat) (hd w : Nat) (A1 A2 A3 : Nat → Int32) : Prop :=
  (0 < n ∧ n ≤ 4096 ∧ Q 0 = s ∧ ky s = 0) ∧ (∀ j, j < n → okI r (Q j)) ∧ (∀ j j', j < n → j' < n → Q j = Q j' → j = j') ∧ (∀ j, j < n → A1 j = nI (sp2 r (Q j))) ∧
  (∀ j, j < n → A2 (sp2 r (Q j)) = nI (ky (Q j) / 4) ∧ A3 (sp2 r (Q j)) = if Q j = s then -1 else nI (ky (Q j) % 4)) ∧
  (∀ i, okI r i → (∀ j, j < n → Q j ≠ i) → A2 (sp2 r i) = -1) ∧
  (∀ j j', j ≤ j' → j' < n → ky (Q j) ≤ ky (Q j')) ∧ (∀ j, j < n → 0 < j → ∃ m o, o < 4 ∧ ky (Q j) = 4 * (m + 1) + o ∧ fwd r Hc s m o (Q j)) ∧ (∀ j, j < n → ky (Q j) ≤ 4 * j + 3) ∧
  (∀ p, p < hd → p < n → (¬ Q p / 64 = Q p % 64) ∧ ∀ w', w' < 4 → ∃ j, j < n ∧ Q j = nxI r Hc (Q p) w' ∧ ky (Q j) ≤ ckB s ky (Q p) w') ∧
  (hd < n → ∀ w', w' < w → ∃ j, j < n ∧ Q j = nxI r Hc (Q hd) w' ∧ ky (Q j) ≤ ckB s ky (Q hd) w') ∧ hd ≤ n ∧
  (hd < n → ∀ j, j < n → ky (Q j) ≤ if hd = 0 then 3 + w else ky (Q hd) + 4)
section BFS
variable {r : Nat → Int32} {Hc : Nat → Prop} {s : Nat} {Q : Nat → Nat} {n : Nat} {ky : Nat → Nat} {hd w : Nat} {A1 A2 A3 : Nat → Int32}
/-- what is come to costs no less than what is at the head -/
theorem BF.lower (O : okC r) (B : BF r Hc s Q n ky hd 0 A1 A2 A3) : ∀ m o i, o < 4 → fwd r Hc s m o i → (∃ j, hd ≤ j ∧ j < n ∧ ky (Q j) ≤ 4 * (m + 1) + o) ∨ ∃ p, p < hd ∧ p < n ∧ Q p = i ∧ ky i ≤ 4 * (m + 1) + o := by
  obtain ⟨⟨b1, b2, b3, b4⟩, -, -, -, -, -, -, -, -, b5, -, b6, -⟩ := B
  intro m
  induction m with
  | zero =>
    intro o i ho h
    have h : i = nxI r Hc s o := h
    rcases Nat.eq_zero_or_pos hd with q | q
    · left; exact ⟨0, by omega, b1, by rw [b3, b4]; omega⟩
    · obtain ⟨-, g⟩ := b5 0 q b1
      obtain ⟨j, g1, g2, g3⟩ := g o ho
      rw [b3] at g2 g3
      unfold ckB at g3
      rw [if_pos rfl] at g3
      by_cases q2 : j < hd
      · right; exact ⟨j, q2, g1, by rw [g2, h], by rw [h, ← g2]; omega⟩
      · left; exact ⟨j, by omega, g1, by omega⟩
  | succ m ih =>
    rintro o i ho ⟨i', w, hw, h2, rfl⟩
    rcases ih o i' ho h2 with ⟨j, g1, g2, g3⟩ | ⟨p, g1, g2, g3, g4⟩
    · left; exact ⟨j, g1, g2, by omega⟩
    · obtain ⟨-, g⟩ := b5 p g1 g2
      obtain ⟨j, f1, f2, f3⟩ := g w hw
      rw [g3] at f2 f3
      have f4 : ky (Q j) ≤ 4 * (m + 1 + 1) + o := by
        unfold ckB at f3
        split at f3 <;> omega
      by_cases q2 : j < hd
      · right; exact ⟨j, q2, f1, f2, by rw [← f2]; exact f4⟩
      · left; exact ⟨j, by omega, f1, f4⟩
/-- nothing is left -/
theorem BF.none (B : BF r Hc s Q n ky hd 0 A1 A2 A3) (hn : hd = n) : ∀ k, ¬ gI r Hc k s := by
  obtain ⟨⟨b1, b2, b3, b4⟩, -, -, -, -, -, -, -, -, b5, -, b6, -⟩ := B
  have key : ∀ k p, p < n → ¬ gI r Hc k (Q p) := by
    intro k
    induction k with
    | zero => intro p hp h; exact (b5 p (by omega) hp).1 h
    | succ k ih =>
      intro p hp h
      rcases h with h | ⟨w, h1, h2⟩
      · exact ih p hp h
      · obtain ⟨j, g1, g2, -⟩ := (b5 p (by omega) hp).2 w h1
        rw [← g2] at h2
        exact ih j g1 h2
  intro k h
  rw [← b3] at h
  exact key k 0 b1 h
/-- the head is a goal: it tells the answer -/
theorem BF.goal {dir : Bool} {v : Int32} (O : okC r) (hs : okI r s) (B : BF r Hc s Q n ky hd 0 A1 A2 A3) (hn : hd < n) (hg : Q hd / 64 = Q hd % 64) (hv : v = if dir = true then A3 (sp2 r (Q hd)) else A2 (sp2 r (Q hd))) : vG r Hc s dir v := by
  have low := B.lower O
  obtain ⟨⟨b1, b2, b3, b4⟩, b5, b6, -, b7, -, b8, b9, b10, b11, -, b12, -⟩ := B
  obtain ⟨c1, c2⟩ := b7 hd hn
  have lowg : ∀ m o i, o < 4 → fwd r Hc s m o i → i / 64 = i % 64 → ky (Q hd) ≤ 4 * (m + 1) + o := by
    intro m o i ho hf hgi
    rcases low m o i ho hf with ⟨j, g1, g2, g3⟩ | ⟨p, g1, g2, g3, g4⟩
    · have := b8 hd j g1 g2; omega
    · have := (b11 p g1 g2).1
      rw [g3] at this
      exact absurd hgi this
  right
  rcases Nat.eq_zero_or_pos hd with q | q
  · subst q
    rw [b3] at hg c1 c2 hv
    rw [b4] at c1
    refine ⟨0, hg, fun k _ => Nat.zero_le _, by omega, ?_⟩
    cases dir with
    | false => left; rw [if_neg (by decide)] at hv; exact ⟨rfl, hv.trans c1⟩
    | true => right; rw [if_pos rfl] at hv; rw [if_pos rfl] at c2; exact ⟨rfl, Or.inl ⟨rfl, hv.trans c2⟩⟩
  · obtain ⟨m, o, d1, d2, d3⟩ := b9 hd hn q
    have hsn : ¬ s / 64 = s % 64 := by
      have := (b11 0 q b1).1
      rw [b3] at this; exact this
    have hne : ¬ Q hd = s := fun e => by
      have := b6 hd 0 hn b1 (e.trans b3.symm); omega
    have e4 : ky (Q hd) / 4 = m + 1 := by omega
    have e5 : ky (Q hd) % 4 = o := by omega
    rw [e4] at c1
    rw [e5, if_neg hne] at c2
    have gm : gI r Hc m (nxI r Hc s o) := by
      have := fwd_gI m o (Q hd) 0 d3 hg
      rw [Nat.zero_add] at this; exact this
    refine ⟨m + 1, Or.inr ⟨o, d1, gm⟩, fun k hk => ?_, by have := b10 hd hn; omega, ?_⟩
    · obtain ⟨m', o', i', g1, g2, g3, g4⟩ := gI_fwd0 k hk hsn
      have := lowg m' o' i' g2 g3 g4
      omega
    · cases dir with
      | false => left; rw [if_neg (by decide)] at hv; exact ⟨rfl, hv.trans c1⟩
      | true =>
        right
        rw [if_pos rfl] at hv
        refine ⟨rfl, Or.inr ⟨Nat.succ_pos _, o, d1, hv.trans c2, gm, fun w' hw' h => ?_⟩⟩
        obtain ⟨m', i', g1, g2, g3⟩ := gI_fwd m 0 w' _ rfl h
        have := lowg m' w' i' (by omega) g2 g3
        omega
end BFS
/-- a world with three rows of its own -/
def w3 (mi : pm_I) (h : Nat) (A1 A2 A3 : Nat → Int32) : pm_I := pm_ur (pm_ur (pm_ur mi (h + 1) A1) (h + 2) A2) (h + 3) A3
section W3
variable {mi : pm_I} {h : Nat} {A1 A2 A3 : Nat → Int32}
theorem w3_1 : w3 mi h A1 A2 A3 (h + 1) = A1 := by unfold w3; rw [pm_ur_k _ _ (by omega), pm_ur_k _ _ (by omega), pm_ur_s]
theorem w3_2 : w3 mi h A1 A2 A3 (h + 2) = A2 := by unfold w3; rw [pm_ur_k _ _ (by omega), pm_ur_s]
theorem w3_3 : w3 mi h A1 A2 A3 (h + 3) = A3 := by unfold w3; rw [pm_ur_s]
theorem w3_o {a : Nat} (ha : a < h + 1 ∨ h + 3 < a) : w3 mi h A1 A2 A3 a = mi a := by unfold w3; rw [pm_ur_k _ _ (by omega), pm_ur_k _ _ (by omega), pm_ur_k _ _ (by omega)]
theorem ur_up {α : Type} (f : Nat → Nat → α) {k a j : Nat} (g : Nat → α) (v : α) (h : a ≠ k) : pm_up (pm_ur f k g) a j v = pm_ur (pm_up f a j v) k g := by
  funext b i
  unfold pm_up pm_ur
  by_cases h1 : b = a ∧ i = j
  · obtain ⟨rfl, rfl⟩ := h1
    simp [h]
  · rw [if_neg h1]
    by_cases h2 : b = k
    · rw [if_pos h2, if_pos h2]
    · rw [if_neg h2, if_neg h2]; exact (if_neg h1).symm
theorem w3_u1 {j : Nat} {v : Int32} : pm_up (w3 mi h A1 A2 A3) (h + 1) j v = w3 mi h (setF A1 j v) A2 A3 := by
  unfold w3
  rw [ur_up _ _ _ (by omega), ur_up _ _ _ (by omega), pm_up_ur]; rfl
theorem w3_u2 {j : Nat} {v : Int32} : pm_up (w3 mi h A1 A2 A3) (h + 2) j v = w3 mi h A1 (setF A2 j v) A3 := by
  unfold w3
  rw [ur_up _ _ _ (by omega), pm_up_ur]; rfl
theorem w3_u3 {j : Nat} {v : Int32} : pm_up (w3 mi h A1 A2 A3) (h + 3) j v = w3 mi h A1 A2 (setF A3 j v) := by
  unfold w3
  rw [pm_up_ur]; rfl
theorem w3_self : w3 mi h (mi (h + 1)) (mi (h + 2)) (mi (h + 3)) = mi := by
  unfold w3
  rw [pm_ur_self]
  have e2 : pm_ur mi (h + 2) (mi (h + 2)) = mi := pm_ur_self _ _
  rw [e2, pm_ur_self]
end W3
theorem setF_s {α : Type} (f : Nat → α) (q : Nat) (v : α) : setF f q v q = v := if_pos rfl
theorem setF_n {α : Type} (f : Nat → α) {q i : Nat} (v : α) (h : i ≠ q) : setF f q v i = f i := if_neg h
section GAX
variable {l : Launch} {d h o x z T : Nat} {kd : pm_K} {mr : pm_R} {mi : pm_I} {ml : pm_L} {k : Nat} {r : Nat → Int32} {Hc : Nat → Prop}
theorem s_layWays {op hv : Int64} {K : pm_I → pm_L → Prop} (th : TX2s kd mr h) (O : okC r) (hop : ∀ s, s < 64 → bl op s = opS r s) (hhv : cS r hv Hc) (k9 : ∀ W : Nat → Int32, (∀ c w, c < cells r → w < 4 → W (spC r c * 4 + w) = nI (spC r (mvC r Hc c w))) → K (pm_ur mi (h + 4) W) ml) : wV l M_X2_layWays (d + 3) [.ref h, .long op, .long hv] kd mr mi ml K := by
  have outer : ∀ (q s : Nat) (W : Nat → Int32), s + q = 64 → (∀ s' w, s' < s → inS r s' → w < 4 → W (s' * 4 + w) = nI (spC r (mvC r Hc (ceS r s') w))) → c_X2_layWays_3 l (d + 3) kd mr h op hv (nI s) (pm_ur mi (h + 4) W) ml K := by
    intro q
    induction q with
    | zero =>
      intro s W hs hW
      have : s = 64 := by omega
      subst this
      refine w_X2_layWays_3 th ⟨fun _ => k9 W fun c w hc hw => ?_, fun q => absurd (nI_le (Nat.le_refl 64) (by omega)) q⟩
      obtain ⟨g1, g2, g3⟩ := spC_in O hc
      have := hW (spC r c) w g3 g1 hw
      rw [g2] at this; exact this
    | succ q ih =>
      intro s W hs hW
      refine w_X2_layWays_3 th ⟨fun q => absurd q (nI_ge (b := 64) (by omega) (by omega)), fun _ => ?_⟩
      have inner : ∀ (u w : Nat) (W : Nat → Int32), w + u = 4 → (∀ s' w, s' < s → inS r s' → w < 4 → W (s' * 4 + w) = nI (spC r (mvC r Hc (ceS r s') w))) → (inS r s → ∀ w', w' < w → W (s * 4 + w') = nI (spC r (mvC r Hc (ceS r s) w'))) → c_X2_layWays_13 l (d + 3) kd mr h op hv (nI s) (nI w) (pm_ur mi (h + 4) W) ml K := by
        intro u
        induction u with
        | zero =>
          intro w W hw hW1 hW2
          have : w = 4 := by omega
          subst this
          refine w_X2_layWays_13 th ⟨fun _ => ?_, fun q => absurd (nI_le (Nat.le_refl 4) (by omega)) q⟩
          rw [nI_1]
          refine ih (s + 1) W (by omega) fun s' w hs' hi hw' => ?_
          by_cases e : s' = s
          · subst e; exact hW2 hi w hw'
          · exact hW1 s' w (by omega) hi hw'
        | succ u ihu =>
          intro w W hw hW1 hW2
          have ei : nI s * 4 + nI w = nI (s * 4 + w) := by
            rw [show nI s * (4 : Int32) = nI (s * 4) from z_mul s 4, nI_add]
          have go : ∀ v : Int32, (inS r s → (if v = -1 then nI s else v) = nI (spC r (mvC r Hc (ceS r s) w))) → c_X2_layWays_40 l (d + 3) kd mr h op hv (nI s) (nI w) v (pm_ur mi (h + 4) W) ml K := by
            intro v hv2
            refine w_X2_layWays_40 th ?_
            rw [ei, z_cl (by omega), pm_up_ur, nI_1]
            refine ⟨z_in (by omega) (by omega), ihu (w + 1) _ (by omega) (fun s' w' hs' hi hw' => ?_) (fun hi w' hw' => ?_)⟩
            · rw [if_neg (by omega)]; exact hW1 s' w' hs' hi hw'
            · by_cases e : w' = w
              · subst e; rw [if_pos rfl]; exact hv2 hi
              · rw [if_neg (by omega)]; exact hW2 hi w' (by omega)
          refine w_X2_layWays_13 th ⟨fun q => absurd q (nI_ge (b := 4) (by omega) (by omega)), fun _ => s_hasX rfl (by omega) ⟨fun hf => go (-1) fun hi => ?_, fun ht => ?_⟩⟩
          · have : mvC r Hc (ceS r s) w = ceS r s := by
              unfold mvC
              rw [if_neg]
              intro q9
              rw [(hhv s (by omega)).mpr ⟨hi, pb_iff.mp q9⟩] at hf; cases hf
            rw [this, if_pos rfl, spC_ceS hi]
          · obtain ⟨hi, hc⟩ := (hhv s (by omega)).mp ht
            have hlt := ceS_lt hi
            refine s_nextSpot (c := ceS r s) O hop (by rw [spC_ceS hi]) hlt rfl (by omega) (go _ fun _ => ?_)
            unfold mvC
            rw [if_pos (pb_iff.mpr hc)]
            cases hn : fre r (ceS r s) w with
            | none =>
              show (if (-1 : Int32) = -1 then nI s else -1) = nI (spC r (ceS r s))
              rw [if_pos rfl, spC_ceS hi]
            | some t =>
              have h2 := (spC_in O (fre_lt O hlt hn)).2.2
              show (if nI (spC r t) = -1 then nI s else nI (spC r t)) = nI (spC r t)
              rw [if_neg (z_eq1 (by omega))]
      exact inner 4 0 W rfl hW (fun _ w' h => by omega)
  have := outer 64 0 (mi (h + 4)) rfl (fun s' w h => by omega)
  rw [pm_ur_self] at this
  exact w_X2_layWays th this
theorem s_fewestMarches {s : Nat} {dir : Bool} {y v : Int32} {K : Int32 → pm_I → pm_L → Prop} (th : TX2s kd mr h) (O : okC r) (hW : ∀ c w, c < cells r → w < 4 → mi (h + 4) (spC r c * 4 + w) = nI (spC r (mvC r Hc c w))) (hs : okI r s) (hy : y = nI (spC r (s / 64))) (hv : v = nI (spC r (s % 64)))
    (k9 : ∀ v A1 A2 A3, vG r Hc s dir v → K v (w3 mi h A1 A2 A3) ml) : wI l M_X2_fewestMarches (d + 1) [.ref h, .int y, .int v, .int (b2i dir)] kd mr mi ml K := by
  subst hy; subst hv
  have hb := O.w
  obtain ⟨s1, s2, s3⟩ := sp2_dm O hs
  have est : nI (spC r (s / 64)) * 64 + nI (spC r (s % 64)) = nI (sp2 r s) := by
    rw [show nI (spC r (s / 64)) * (64 : Int32) = nI (spC r (s / 64) * 64) from z_mul _ 64, nI_add]; rfl
  have eW : ∀ A1 A2 A3, w3 mi h A1 A2 A3 (h + 4) = mi (h + 4) := fun _ _ _ => w3_o (by omega)
  -- the search: by how much is left to do
  have main : ∀ (N : Nat) (Q : Nat → Nat) (n : Nat) (ky : Nat → Nat) (hd : Nat) (A1 A2 A3 : Nat → Int32), 4096 - hd ≤ N → BF r Hc s Q n ky hd 0 A1 A2 A3 → c_X2_fewestMarches_46 l (d + 1) kd mr h (b2i dir) (nI (sp2 r s)) (nI n) (nI hd) (w3 mi h A1 A2 A3) ml K := by
    intro N
    induction N with
    | zero =>
      intro Q n ky hd A1 A2 A3 hN B
      have hn := B.1.2.1
      have hh := B.2.2.2.2.2.2.2.2.2.2.2.1
      have he : hd = n := by omega
      refine w_X2_fewestMarches_46 th ⟨fun _ => k9 _ _ _ _ (Or.inl ⟨B.none he, rfl⟩), fun q => absurd (nI_le (by omega) (by omega)) q⟩
    | succ N ih =>
      intro Q n ky hd A1 A2 A3 hN B
      have hn := B.1.2.1
      have hh := B.2.2.2.2.2.2.2.2.2.2.2.1
      by_cases he : hd = n
      · exact w_X2_fewestMarches_46 th ⟨fun _ => k9 _ _ _ _ (Or.inl ⟨B.none he, rfl⟩), fun q => absurd (nI_le (by omega) (by omega)) q⟩
      · have hlt : hd < n := by omega
        have hok := B.2.1 hd hlt
        obtain ⟨p1, p2, p3⟩ := sp2_dm O hok
        have q1 := (spC_in O hok.1).2.2
        have q2 := (spC_in O hok.2).2.2
        have eP : w3 mi h A1 A2 A3 (h + 1) (nI hd).toNatClampNeg = nI (sp2 r (Q hd)) := by rw [w3_1, z_cl (by omega)]; exact B.2.2.2.1 hd hlt
        have e1 : nI (sp2 r (Q hd)) / 64 = nI (spC r (Q hd / 64)) := by
          have := z_div (a := sp2 r (Q hd)) (b := 64) (by omega) (by omega)
          rw [p1] at this; exact this
        have e2 : nI (sp2 r (Q hd)) - nI (sp2 r (Q hd)) / 64 * 64 = nI (spC r (Q hd % 64)) := by
          have := z_rem (a := sp2 r (Q hd)) (b := 64) (by omega) (by omega)
          rw [p2] at this; exact this
        refine w_X2_fewestMarches_46 th ⟨fun q => absurd q (nI_ge (by omega) (by omega)), fun _ => ⟨fun q => absurd q (nI_ge (b := 4096) (by omega) (by omega)), fun _ => ⟨z_in (by omega) (by omega), ?_⟩⟩⟩
        rw [eP, e2, e1, z_eq (by omega) (by omega)]
        have eg : spC r (Q hd / 64) = spC r (Q hd % 64) ↔ Q hd / 64 = Q hd % 64 := ⟨fun q => spC_inj O hok.1 hok.2 q, fun q => by rw [q]⟩
        refine ⟨fun hng => ?_, fun hg => ?_⟩
        · -- its four steps
          have ways : ∀ (u w : Nat) (Q' : Nat → Nat) (n' : Nat) (ky' : Nat → Nat) (A1 A2 A3 : Nat → Int32), w + u = 4 → hd < n' → BF r Hc s Q' n' ky' hd w A1 A2 A3 → Q' hd = Q hd → c_X2_fewestMarches_118 l (d + 1) kd mr h (b2i dir) (nI (sp2 r s)) (nI n') (nI hd) (nI (sp2 r (Q hd))) (nI (spC r (Q hd / 64))) (nI (spC r (Q hd % 64))) (nI w) (w3 mi h A1 A2 A3) ml K := by
            intro u
            induction u with
            | zero =>
              intro w Q' n' ky' A1 A2 A3 hw hl B' eQ
              have : w = 4 := by omega
              subst this
              refine w_X2_fewestMarches_118 th ⟨fun _ => ?_, fun q => absurd (nI_le (Nat.le_refl 4) (by omega)) q⟩
              rw [nI_1]
              refine ih Q' n' ky' (hd + 1) A1 A2 A3 (by omega) ?_
              obtain ⟨b0, b1, b2, b3, b4, b5, b6, b7, b8, b9, b10, b11, b12⟩ := B'
              refine ⟨b0, b1, b2, b3, b4, b5, b6, b7, b8, fun p hp hpn => ?_, fun _ w' hw' => by omega, by omega, fun hl2 j hj => ?_⟩
              · by_cases q : p = hd
                · subst q
                  refine ⟨?_, fun w' hw' => b10 hl w' hw'⟩
                  rw [eQ]; exact fun q9 => hng (eg.mpr q9)
                · exact b9 p (by omega) hpn
              · rw [if_neg (by omega)]
                have h1 := b12 hl j hj
                have h2 := b6 hd (hd + 1) (by omega) hl2
                obtain ⟨m, o, -, g2, -⟩ := b7 (hd + 1) hl2 (by omega)
                split at h1 <;> omega
            | succ u ihu =>
              intro w Q' n' ky' A1 A2 A3 hw hl B' eQ
              obtain ⟨n1, n2, n3⟩ := nxI_dm (Hc := Hc) (w := w) O hok
              obtain ⟨m1, m2, m3⟩ := sp2_dm O n3
              have hw4 : w < 4 := by omega
              have c1 := mvC_lt (Hc := Hc) (w := w) O hok.1
              have c2 := mvC_lt (Hc := Hc) (w := w) O hok.2
              have ei : ∀ c, nI (spC r c) * 4 + nI w = nI (spC r c * 4 + w) := fun c => by
                rw [show nI (spC r c) * (4 : Int32) = nI (spC r c * 4) from z_mul _ 4, nI_add]
              have eN : nI (spC r (mvC r Hc (Q hd / 64) w)) * 64 + nI (spC r (mvC r Hc (Q hd % 64) w)) = nI (sp2 r (nxI r Hc (Q hd) w)) := by
                rw [show nI (spC r (mvC r Hc (Q hd / 64) w)) * (64 : Int32) = nI (spC r (mvC r Hc (Q hd / 64) w) * 64) from z_mul _ 64, nI_add]
                unfold sp2; rw [n1, n2]
              refine w_X2_fewestMarches_118 th ⟨fun q => absurd q (nI_ge (b := 4) (by omega) (by omega)), fun _ => ?_⟩
              rw [ei, ei, z_cl (by omega), z_cl (by omega), eW, hW _ _ hok.1 hw4, hW _ _ hok.2 hw4, eN, z_cl (a := sp2 r (nxI r Hc (Q hd) w)) (by omega), w3_2]
              obtain ⟨⟨b01, b02, b03, b04⟩, b1, b2, b3, b4, b5, b6, b7, b8, b9, b10, b11, b12⟩ := B'
              have B' : BF r Hc s Q' n' ky' hd w A1 A2 A3 := ⟨⟨b01, b02, b03, b04⟩, b1, b2, b3, b4, b5, b6, b7, b8, b9, b10, b11, b12⟩
              have skip : (∃ j, j < n' ∧ Q' j = nxI r Hc (Q' hd) w ∧ ky' (Q' j) ≤ ckB s ky' (Q' hd) w) → c_X2_fewestMarches_229 l (d + 1) kd mr h (b2i dir) (nI (sp2 r s)) (nI n') (nI hd) (nI (sp2 r (Q hd))) (nI (spC r (Q hd / 64))) (nI (spC r (Q hd % 64))) (nI w) (w3 mi h A1 A2 A3) ml K := by
                intro hex
                refine w_X2_fewestMarches_229 th ?_
                rw [nI_1]
                refine ihu (w + 1) Q' n' ky' A1 A2 A3 (by omega) hl ⟨⟨b01, b02, b03, b04⟩, b1, b2, b3, b4, b5, b6, b7, b8, b9, fun _ w' hw' => ?_, b11, fun _ j hj => ?_⟩ eQ
                · by_cases q : w' = w
                  · subst q; exact hex
                  · exact b10 hl w' (by omega)
                · have := b12 hl j hj
                  split at this
                  · rename_i q; rw [if_pos q]; omega
                  · rename_i q; rw [if_neg q]; exact this
              have hst : hd = 0 ↔ Q' hd = s := by
                constructor
                · intro q; rw [q]; exact b03
                · intro q; exact b2 hd 0 hl b01 (q.trans b03.symm)
              have hcap : ∀ j, j < n' → ky' (Q' j) ≤ ckB s ky' (Q' hd) w := by
                intro j hj
                have := b12 hl j hj
                unfold ckB
                by_cases q : hd = 0
                · rw [if_pos (hst.mp q)]; rw [if_pos q] at this; omega
                · rw [if_neg (fun q9 => q (hst.mpr q9))]; rw [if_neg q] at this; exact this
              refine ⟨z_in (by omega) (by omega), z_in (by omega) (by omega), z_in (by omega) (by omega), fun hse => skip ?_, fun huns => ?_⟩
              · -- it was seen
                have : ¬ ∀ j, j < n' → Q' j ≠ nxI r Hc (Q hd) w := fun q => hse (b5 _ n3 q)
                obtain ⟨j, hj⟩ := Classical.not_forall.mp this
                obtain ⟨hj1, hj2⟩ := Classical.not_imp.mp hj
                have hj2 : Q' j = nxI r Hc (Q hd) w := Classical.not_not.mp hj2
                exact ⟨j, hj1, by rw [eQ]; exact hj2, hcap j hj1⟩
              · -- it is new
                have hnew : ∀ j, j < n' → Q' j ≠ nxI r Hc (Q hd) w := by
                  intro j hj e
                  have := (b4 j hj).1
                  rw [e, huns] at this
                  exact z_eq1 (by have := b8 j hj; rw [e] at this; omega) this.symm
                have hroom : n' + 1 ≤ 4096 := by
                  have := pig (setF Q' n' (nxI r Hc (Q hd) w)) 4096 (n' + 1) (fun j hj => by
                    unfold setF
                    split
                    · exact n3.lt O
                    · exact (b1 j (by omega)).lt O) (fun j j' hj hj' e => by
                    unfold setF at e
                    by_cases q : j = n'
                    · by_cases q' : j' = n'
                      · omega
                      · rw [if_pos q, if_neg q'] at e
                        exact absurd e.symm (hnew j' (by omega))
                    · by_cases q' : j' = n'
                      · rw [if_neg q, if_pos q'] at e
                        exact absurd e (hnew j (by omega))
                      · rw [if_neg q, if_neg q'] at e
                        exact b2 j j' (by omega) (by omega) e)
                  have := cnt_le (fun i => pb (∃ j, j < n' + 1 ∧ setF Q' n' (nxI r Hc (Q hd) w) j = i)) 4096
                  omega
                have hsh : ky' s = 0 := b04
                have hns : nxI r Hc (Q hd) w ≠ s := fun e => hnew 0 b01 (b03.trans e.symm)
                -- with the new one pushed, whatever its opening's int
                have push : ∀ s0 : Int32, s0 = nI (ckB s ky' (Q' hd) w % 4) → c_X2_fewestMarches_216 l (d + 1) kd mr h (b2i dir) (nI (sp2 r s)) (nI n') (nI hd) (nI (sp2 r (Q hd))) (nI (spC r (Q hd / 64))) (nI (spC r (Q hd % 64))) (nI w) (nI (sp2 r (nxI r Hc (Q hd) w))) s0 (nI (sp2 r (nxI r Hc (Q hd) w))) (w3 mi h A1 (setF A2 (sp2 r (nxI r Hc (Q hd) w)) (nI (ckB s ky' (Q' hd) w / 4))) A3) ml K := by
                  intro s0 hs0
                  refine w_X2_fewestMarches_216 th ⟨z_in (by omega) (by omega), z_in (by omega) (by omega), w_X2_fewestMarches_229 th ?_⟩
                  rw [z_cl (by omega), z_cl (by omega), w3_u3, w3_u1, nI_1, nI_1]
                  have kq : ∀ j, j < n' → setF ky' (nxI r Hc (Q hd) w) (ckB s ky' (Q' hd) w) (Q' j) = ky' (Q' j) := fun j hj => setF_n _ _ (hnew j hj)
                  have kn : setF ky' (nxI r Hc (Q hd) w) (ckB s ky' (Q' hd) w) (nxI r Hc (Q hd) w) = ckB s ky' (Q' hd) w := setF_s _ _ _
                  have qo : ∀ j, j < n' → setF Q' n' (nxI r Hc (Q hd) w) j = Q' j := fun j hj => setF_n _ _ (by omega)
                  have qn : setF Q' n' (nxI r Hc (Q hd) w) n' = nxI r Hc (Q hd) w := setF_s _ _ _
                  have kh : setF ky' (nxI r Hc (Q hd) w) (ckB s ky' (Q' hd) w) (Q' hd) = ky' (Q' hd) := kq hd hl
                  have kb : ckB s ky' (Q' hd) w ≤ 4 * n' + 3 := by
                    have := b8 hd hl
                    unfold ckB; split <;> omega
                  have ckq : ∀ j w', j < n' → ckB s (setF ky' (nxI r Hc (Q hd) w) (ckB s ky' (Q' hd) w)) (Q' j) w' = ckB s ky' (Q' j) w' := fun j w' hj => ckB_c (kq j hj)
                  have sne : ∀ j, j < n' → sp2 r (Q' j) ≠ sp2 r (nxI r Hc (Q hd) w) := fun j hj e => hnew j hj (sp2_inj O (b1 j hj) n3 e)
                  refine ihu (w + 1) (setF Q' n' (nxI r Hc (Q hd) w)) (n' + 1) (setF ky' (nxI r Hc (Q hd) w) (ckB s ky' (Q' hd) w)) _ _ _ (by omega) (by omega) ⟨⟨by omega, hroom, ?_, ?_⟩, ?_, ?_, ?_, ?_, ?_, ?_, ?_, ?_, ?_, ?_, by omega, ?_⟩ ((qo hd hl).trans eQ)
                  · rw [qo 0 b01]; exact b03
                  · rw [setF_n _ _ (Ne.symm hns)]; exact b04
                  · intro j hj
                    by_cases q : j = n'
                    · subst q; rw [qn]; exact n3
                    · rw [qo j (by omega)]; exact b1 j (by omega)
                  · intro j j' hj hj' e
                    by_cases q : j = n'
                    · by_cases q' : j' = n'
                      · omega
                      · subst q; rw [qn, qo j' (by omega)] at e
                        exact absurd e.symm (hnew j' (by omega))
                    · by_cases q' : j' = n'
                      · subst q'; rw [qo j (by omega), qn] at e
                        exact absurd e (hnew j (by omega))
                      · rw [qo j (by omega), qo j' (by omega)] at e
                        exact b2 j j' (by omega) (by omega) e
                  · intro j hj
                    by_cases q : j = n'
                    · subst q; rw [qn, setF_s]
                    · rw [qo j (by omega), setF_n _ _ q]; exact b3 j (by omega)
                  · intro j hj
                    by_cases q : j = n'
                    · subst q
                      rw [qn, kn, setF_s, setF_s, if_neg hns]
                      exact ⟨rfl, hs0⟩
                    · have hj' : j < n' := by omega
                      rw [qo j hj', kq j hj', setF_n _ _ (sne j hj'), setF_n _ _ (sne j hj')]
                      exact b4 j hj'
                  · intro i hi hno
                    have e1 : i ≠ nxI r Hc (Q hd) w := fun e => hno n' (by omega) (qn.trans e.symm)
                    rw [setF_n _ _ (fun e => e1 (sp2_inj O hi n3 e))]
                    exact b5 i hi fun j hj e => hno j (by omega) ((qo j hj).trans e)
                  · intro j j' hjj hj'
                    by_cases q' : j' = n'
                    · subst q'
                      rw [qn, kn]
                      by_cases q : j = j'
                      · subst q; rw [qn, kn]; exact Nat.le_refl _
                      · rw [qo j (by omega), kq j (by omega)]; exact hcap j (by omega)
                    · rw [qo j (by omega), qo j' (by omega), kq j (by omega), kq j' (by omega)]
                      exact b6 j j' hjj (by omega)
                  · intro j hj hj0
                    by_cases q : j = n'
                    · subst q
                      rw [qn, kn]
                      unfold ckB
                      by_cases q9 : hd = 0
                      · rw [if_pos (hst.mp q9)]
                        refine ⟨0, w, hw4, by omega, ?_⟩
                        show nxI r Hc (Q hd) w = nxI r Hc s w
                        rw [← eQ, hst.mp q9]
                      · rw [if_neg (fun q8 => q9 (hst.mpr q8))]
                        obtain ⟨m, o, g1, g2, g3⟩ := b7 hd hl (by omega)
                        exact ⟨m + 1, o, g1, by omega, Q' hd, w, hw4, g3, by rw [eQ]⟩
                    · rw [qo j (by omega), kq j (by omega)]; exact b7 j (by omega) hj0
                  · intro j hj
                    by_cases q : j = n'
                    · subst q; rw [qn, kn]; exact kb
                    · rw [qo j (by omega), kq j (by omega)]; exact b8 j (by omega)
                  · intro p hp hpn
                    have hp' : p < n' := by omega
                    rw [qo p hp']
                    refine ⟨(b9 p hp hp').1, fun w' hw' => ?_⟩
                    obtain ⟨j, g1, g2, g3⟩ := (b9 p hp hp').2 w' hw'
                    exact ⟨j, by omega, by rw [qo j g1]; exact g2, by rw [qo j g1, kq j g1, ckq p w' hp']; exact g3⟩
                  · intro _ w' hw'
                    rw [qo hd hl]
                    by_cases q : w' = w
                    · subst q
                      exact ⟨n', by omega, by rw [qn, eQ], by rw [qn, kn, ckq hd _ hl]; exact Nat.le_refl _⟩
                    · obtain ⟨j, g1, g2, g3⟩ := b10 hl w' (by omega)
                      exact ⟨j, by omega, by rw [qo j g1]; exact g2, by rw [qo j g1, kq j g1, ckq hd w' hl]; exact g3⟩
                  · intro _ j hj
                    rw [qo hd hl, kh]
                    by_cases q : j = n'
                    · subst q
                      rw [qn, kn]
                      unfold ckB
                      by_cases q9 : hd = 0
                      · rw [if_pos (hst.mp q9), if_pos q9]; omega
                      · rw [if_neg (fun q8 => q9 (hst.mpr q8)), if_neg q9]; exact Nat.le_refl _
                    · rw [qo j (by omega), kq j (by omega)]
                      have := b12 hl j (by omega)
                      split at this
                      · rename_i q9; rw [if_pos q9]; omega
                      · rename_i q9; rw [if_neg q9]; exact this
                refine ⟨fun q => absurd q (nI_ge (b := 4096) (by omega) (by omega)), fun _ => ⟨z_in (by omega) (by omega), z_in (by omega) (by omega), ?_⟩⟩
                have a2h := (b4 hd hl).1
                have a3h := (b4 hd hl).2
                rw [eQ] at a2h a3h
                have b8h := b8 hd hl
                rw [eQ] at b8h
                rw [z_cl (by omega), a2h, nI_1, w3_u2, w3_3, a3h, z_eq (by omega) (by omega)]
                have e4 : ky' (Q hd) / 4 + 1 = ckB s ky' (Q' hd) w / 4 := by
                  unfold ckB
                  by_cases q9 : hd = 0
                  · rw [if_pos (hst.mp q9), ← eQ, hst.mp q9, b04]; omega
                  · rw [if_neg (fun q8 => q9 (hst.mpr q8)), eQ]; omega
                rw [e4]
                refine ⟨fun hns2 => ⟨z_in (by omega) (by omega), push _ ?_⟩, fun hs2 => push _ ?_⟩
                · have q9 : ¬ Q' hd = s := fun q8 => hns2 (by rw [← eQ, q8])
                  rw [if_neg (by rw [← eQ]; exact q9)]
                  unfold ckB
                  rw [if_neg q9, eQ]
                  congr 1; omega
                · have q9 : Q' hd = s := by rw [eQ]; exact sp2_inj O hok hs hs2
                  unfold ckB
                  rw [if_pos q9]
                  congr 1; omega
          exact ways 4 0 Q n ky A1 A2 A3 rfl hlt B rfl
        · have hgoal := eg.mp hg
          cases dir with
          | false =>
            refine ⟨fun _ => ⟨z_in (by omega) (by omega), ?_⟩, fun q => absurd rfl q⟩
            rw [z_cl (by omega), w3_2]
            exact k9 _ _ _ _ (B.goal O hs hlt hgoal (by rw [if_neg (by decide)]))
          | true =>
            refine ⟨fun q => absurd q (by decide), fun _ => ⟨z_in (by omega) (by omega), ?_⟩⟩
            rw [z_cl (by omega), w3_3]
            exact k9 _ _ _ _ (B.goal O hs hlt hgoal (by rw [if_pos rfl]))
  refine w_X2_fewestMarches th (s_fill (TX2s_a1 th) (by omega) ?_)
  rw [est, z_cl (by omega)]
  have ew : pm_up (pm_up (pm_up (pm_ur mi (h + 2) fun i => if i < 4096 then (-1 : Int32) else mi (h + 2) i) (h + 2) (sp2 r s) 0) (h + 3) (sp2 r s) (-1)) (h + 1) (Int32.toNatClampNeg 0) (nI (sp2 r s)) = w3 mi h (setF (mi (h + 1)) 0 (nI (sp2 r s))) (setF (fun i => if i < 4096 then (-1 : Int32) else mi (h + 2) i) (sp2 r s) 0) (setF (mi (h + 3)) (sp2 r s) (-1)) := by
    have e0 : pm_ur mi (h + 2) (fun i => if i < 4096 then (-1 : Int32) else mi (h + 2) i) = w3 mi h (mi (h + 1)) (fun i => if i < 4096 then (-1 : Int32) else mi (h + 2) i) (mi (h + 3)) := by
      unfold w3
      rw [pm_ur_self]
      funext a b
      unfold pm_ur
      by_cases q : a = h + 3
      · subst q; rw [if_neg (by omega), if_pos rfl]
      · rw [if_neg q]
    rw [e0, w3_u2, w3_u3]
    exact w3_u1
  rw [ew]
  refine ⟨z_in (by omega) (by omega), z_in (by omega) (by omega), ?_⟩
  refine main 4096 (fun _ => s) 1 (fun _ => 0) 0 _ _ _ (by omega) ⟨⟨by omega, by omega, rfl, rfl⟩, fun j hj => hs, fun j j' hj hj' _ => by omega, fun j hj => ?_, fun j hj => ?_, fun i hi hno => ?_, fun j j' _ _ => Nat.le_refl _, fun j hj h0 => by omega, fun j hj => Nat.zero_le _, fun p hp => by omega, fun _ w' hw' => by omega, by omega, fun _ j hj => Nat.zero_le _⟩
  · have : j = 0 := by omega
    subst this; exact setF_s _ _ _
  · rw [setF_s, setF_s, if_pos rfl]
    show (0 : Int32) = nI (0 / 4) ∧ (-1 : Int32) = -1
    exact ⟨by decide, rfl⟩
  · rw [setF_n _ _ (fun e => hno 0 (by omega) (sp2_inj O hi hs e).symm), if_pos (sp2_dm O hi).2.2]
end GAX
