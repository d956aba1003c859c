/-! round, to the end -/
def visB (D : Nat → Nat → Nat) (m v : Nat) : Prop := (∃ j, Bw D m j (2 ^ m - 1) m v) ∧ ∀ j k, Bw D m j (2 ^ m - 1) m k → v ≤ k
def rzB (D : Nat → Nat → Nat) (m S p v : Nat) : Prop := v ≤ 1000000 ∧ (v < 1000000 → ∃ n, Bw D m n S p v) ∧ ∀ n k, Bw D m n S p k → v ≤ k
section ROUND2
variable {l : Launch} {d h o x z T p : Nat} {kd : pm_K} {mr : pm_R} {mi : pm_I} {ml : pm_L} {k : Nat} {r : Nat → Int32}
theorem s_shortestVisit {u : Int32} {K : Int32 → pm_I → pm_L → Prop} (th : TX8s kd mr h) (to : TX0s kd mr o) (C : CC mi ml o r) (O : okC r) (hp : p < gN r 3) (ho : o + 5 < h) (hu : u = nI (spC r (cellC r 9 p)))
    (k0 : ∀ mi1, (∀ a, a ≠ h + 4 → a ≠ h + 5 → a ≠ h + 6 → mi1 a = mi a) → (∃ i j, i ≤ gN r 4 ∧ j ≤ gN r 4 ∧ ¬ cn r (sN r p i) (sN r p j)) → K (-1) mi1 ml)
    (k1 : ∀ v mi1, (∀ a, a ≠ h + 4 → a ≠ h + 5 → a ≠ h + 6 → mi1 a = mi a) → v ≤ 4096 → visB (dD r p) (gN r 4) v → K (nI v) mi1 ml) : wI l M_X8_shortestVisit (d + 4) [.ref h, .ref o, .int u] kd mr mi ml K := by
  have hm := O.2.2.2.2.2.1
  have hpw := pw_le hm
  have e5 := C.nq O
  refine w_X8_shortestVisit th to (s_measure th to C O hp ho hu (fun mi1 f hb => ⟨fun e => (by cases e), fun _ => k0 mi1 (fun a a1 a2 _ => f a a1 a2) hb⟩) fun mi1 f hb => ⟨fun _ => ?_, fun e => by cases e⟩)
  rw [e5]
  generalize hmm : gN r 4 = m at *
  have hsh : (1 : Int32) <<< (nI m &&& 31) = nI (2 ^ m) := z_shl m (by omega)
  refine ⟨fun hne => ?_, fun he => ?_⟩
  · have hm0 : m ≠ 0 := fun e => hne (by rw [e]; rfl)
    have hD : okD (dD r p) m := ⟨hm, fun i j hi hj => by
      have h1 := (hb i j hi (by omega)).1
      have := dN_cn O (sN_ok O hp (i := i) (by omega)).1 h1
      unfold dD; omega⟩
    have hA0 : ∀ i j, i ≤ m → j < m → mi1 (h + 5) (7 * i + j) = nI (dD r p i j) := fun i j hi hj => (hb i j hi (by omega)).2
    have hfull : 2 ^ m - 1 < 2 ^ m := by omega
    have fbit : ∀ a, (2 ^ m - 1).testBit a = decide (a < m) := fun a => all_bit hm
    have hpos : 2 ≤ 2 ^ m := by
      have : 2 ^ 1 ≤ 2 ^ m := Nat.pow_le_pow_right (by omega) (by omega)
      omega
    have outer : ∀ (q S : Nat) (mi2 : pm_I), S + q = 2 ^ m → 1 ≤ S → (∀ a, a ≠ h + 6 → mi2 a = mi1 a) → (∀ S' a', S' < S → S'.testBit a' = true → ∃ v, lsF (dD r p) m S' a' v ∧ mi2 (h + 6) (6 * S' + a') = nI v) → c_X8_shortestVisit_25 l (d + 4) kd mr h o (nI m) (nI S) mi2 ml K := by
      intro q
      induction q with
      | zero =>
        intro S mi2 hS h1 g1 g2
        have : S = 2 ^ m := by omega
        subst this
        have e6 : (nI (2 ^ m) - 1) * 6 = nI (6 * (2 ^ m - 1)) := by
          rw [show nI (2 ^ m) - 1 = nI (2 ^ m - 1) from z_sub (b := 1) (by omega), show nI (2 ^ m - 1) * 6 = nI ((2 ^ m - 1) * 6) from z_mul _ 6, Nat.mul_comm]
        refine w_X8_shortestVisit_25 th to ⟨fun _ => ?_, fun h => absurd (by rw [hsh]; exact nI_le (Nat.le_refl _) (by omega)) h⟩
        rw [hsh, e6, z_cl (by omega)]
        refine ⟨z_in (by omega) (by omega), ?_⟩
        have fin : ∀ (u a : Nat) (v : Nat), a + u = m → 1 ≤ a → v ≤ 4096 → (∃ n a', Fw (dD r p) m n (2 ^ m - 1) a' v) → (∀ a', a' < a → ∀ n k, Fw (dD r p) m n (2 ^ m - 1) a' k → v ≤ k) → c_X8_shortestVisit_104 l (d + 4) kd mr h o (nI m) (nI v) (nI a) mi2 ml K := by
          intro u
          induction u with
          | zero =>
            intro a v ha h1 hv h2 h3
            have : a = m := by omega
            subst this
            refine w_X8_shortestVisit_104 th to ⟨fun _ => k1 v mi2 (fun b b1 b2 b3 => (g1 b b3).trans (f b b1 b2)) hv ⟨?_, fun j k hk => ?_⟩, fun h => absurd (nI_le (Nat.le_refl _) (by omega)) h⟩
            · obtain ⟨n, a', hn⟩ := h2
              exact hn.whole
            · obtain ⟨n, a', hn⟩ := hk.whole (by omega)
              exact h3 a' (Fw.bit _ _ _ _ hn).1 n k hn
          | succ u ihu =>
            intro a v ha h1 hv h2 h3
            obtain ⟨v0, v1, v2⟩ := g2 (2 ^ m - 1) a hfull (by rw [fbit]; exact decide_eq_true (by omega))
            have v3 := v1.le hD (by omega)
            refine w_X8_shortestVisit_104 th to ⟨fun h => absurd h (nI_ge (by omega) (by omega)), fun _ => ?_⟩
            rw [hsh, e6, nI_add, z_cl (by omega), v2]
            refine ⟨z_in (by omega) (by omega), ?_⟩
            rw [nI_1]
            have c9 : (nI v0 < nI v) = (v0 < v) := z_lt (by omega) (by omega)
            by_cases q9 : v0 < v
            · rw [if_pos (c9.mpr q9)]
              obtain ⟨n, hn⟩ := v1.1
              refine ihu (a + 1) v0 (by omega) (by omega) v3 ⟨n, a, hn⟩ fun a' ha' n k hk => ?_
              by_cases e : a' = a
              · subst e; exact v1.2 n k hk
              · have := h3 a' (by omega) n k hk; omega
            · rw [if_neg (fun e => q9 (c9.mp e))]
              refine ihu (a + 1) v (by omega) (by omega) hv h2 fun a' ha' n k hk => ?_
              by_cases e : a' = a
              · subst e; have := v1.2 n k hk; omega
              · exact h3 a' (by omega) n k hk
        obtain ⟨v0, v1, v2⟩ := g2 (2 ^ m - 1) 0 hfull (by rw [fbit]; exact decide_eq_true (by omega))
        have v3 := v1.le hD (by omega)
        have v2 : mi2 (h + 6) (6 * (2 ^ m - 1)) = nI v0 := v2
        rw [v2]
        obtain ⟨n, hn⟩ := v1.1
        refine fin (m - 1) 1 v0 (by omega) (Nat.le_refl _) v3 ⟨n, 0, hn⟩ fun a' ha' n k hk => ?_
        have : a' = 0 := by omega
        subst this
        exact v1.2 n k hk
      | succ q ih =>
        intro S mi2 hS h1 g1 g2
        refine w_X8_shortestVisit_25 th to ⟨fun h => absurd h (by rw [hsh]; exact nI_ge (by omega) (by omega)), fun _ => ?_⟩
        have inner : ∀ (u a : Nat) (mi2 : pm_I), a + u = m → (∀ a, a ≠ h + 6 → mi2 a = mi1 a) → (∀ S' a', S' < S ∨ (S' = S ∧ a' < a) → S'.testBit a' = true → ∃ v, lsF (dD r p) m S' a' v ∧ mi2 (h + 6) (6 * S' + a') = nI v) → c_X8_shortestVisit_36 l (d + 4) kd mr h o (nI m) (nI S) (nI a) mi2 ml K := by
          intro u
          induction u with
          | zero =>
            intro a mi2 ha g1 g2
            refine w_X8_shortestVisit_36 th to ⟨fun _ => ?_, fun h => absurd (nI_le (by omega) (by omega)) h⟩
            rw [nI_1]
            refine ih (S + 1) mi2 (by omega) (by omega) g1 fun S' a' hS' hb' => g2 S' a' ?_ hb'
            by_cases e : S' = S
            · have := bit_lt (show S' < 2 ^ m by omega) hb'
              exact Or.inr ⟨e, by omega⟩
            · exact Or.inl (by omega)
          | succ u ihu =>
            intro a mi2 ha g1 g2
            have etb := z_tb (S := S) (a := a) (by omega) (by omega)
            refine w_X8_shortestVisit_36 th to ⟨fun h => absurd h (nI_ge (by omega) (by omega)), fun _ => ⟨fun hf => w_X8_shortestVisit_74 th to ?_, fun ht => ?_⟩⟩
            · have hf := etb.mp hf
              rw [nI_1]
              refine ihu (a + 1) mi2 (by omega) g1 fun S' a' hS' hb' => g2 S' a' ?_ hb'
              rcases hS' with q | ⟨q1, q2⟩
              · exact Or.inl q
              · by_cases e : a' = a
                · subst q1; subst e; rw [hf] at hb'; cases hb'
                · exact Or.inr ⟨q1, by omega⟩
            · have ht : S.testBit a = true := by
                cases e : S.testBit a with
                | true => rfl
                | false => exact absurd (etb.mpr e) ht
              refine s_shortestTo th hD (fun i j hi hj => by rw [g1 (h + 5) (by omega)]; exact hA0 i j hi hj) (by omega) ht (fun S' a' hS' hb' => g2 S' a' (Or.inl hS') hb') rfl rfl rfl fun v hv => ?_
              have ei : nI S * 6 + nI a = nI (6 * S + a) := by rw [show nI S * 6 = nI (S * 6) from z_mul _ 6, nI_add, Nat.mul_comm]
              rw [ei, z_cl (by omega)]
              refine ⟨z_in (by omega) (by omega), w_X8_shortestVisit_74 th to ?_⟩
              rw [nI_1]
              refine ihu (a + 1) _ (by omega) (fun b hb => by rw [pm_up_row _ _ hb]; exact g1 b hb) fun S' a' hS' hb' => ?_
              have ha' := bit_lt (show S' < 2 ^ m by omega) hb'
              by_cases e : S' = S ∧ a' = a
              · obtain ⟨rfl, rfl⟩ := e
                exact ⟨v, hv, pm_up_s _ _ _ _⟩
              · rw [pm_up_j _ _ (by omega)]
                exact g2 S' a' (by omega) hb'
        exact inner m 0 mi2 (by omega) g1 fun S' a' hS' hb' => g2 S' a' (by omega) hb'
    refine outer (2 ^ m - 1) 1 mi1 (by omega) (Nat.le_refl _) (fun _ _ => rfl) fun S' a' hS' hb' => ?_
    have : S' = 0 := by omega
    subst this
    rw [Nat.zero_testBit] at hb'; cases hb'
  · have hm0 : m = 0 := by
      have he : nI m = nI 0 := he
      rw [z_eq (by omega) (by omega)] at he; exact he
    subst hm0
    exact k1 0 mi1 (fun b b1 b2 _ => f b b1 b2) (by omega) ⟨⟨0, rfl, rfl⟩, fun _ _ _ => Nat.zero_le _⟩
theorem soon_dN {f : Nat} (O : okC r) (hf : f < cells r) {g : Nat → Int32} {a : Nat → Nat} (h : ∀ c, c < cells r → g c = nI (a c) ∧ a c ≤ 1000000 ∧ (a c < 1000000 → rN (fre r) f (a c) c) ∧ ∀ k, rN (fre r) f k c → a c ≤ k) {c : Nat} (hc : c < cells r) : g c = nI (dN r f c) ∧ dN r f c ≤ 1000000 := by
  obtain ⟨h1, h2, h3, h4⟩ := h c hc
  have hcn := fs_cn O hf (fun c hc => (h c hc).2) hc
  have e : dN r f c = a c := by
    by_cases q : cn r f c
    · exact dN_eq (h3 (hcn.mpr q)) h4
    · rw [dN_far q]
      have : ¬ a c < 1000000 := fun e => q (hcn.mp e)
      omega
  rw [e]; exact ⟨h1, h2⟩
theorem s_roundZ {u : Int32} {K : Int32 → pm_I → pm_L → Prop} (tz : TX12s kd mr z) (H : Hd mi z k r) (O : okC r) (hp : p < gN r 3) (hu : u = nI p)
    (k9 : ∀ v mi1, (∀ a, a ≠ z + 23 → a ≠ z + 29 → a ≠ z + 30 → mi1 a = mi a) → rzB (dD r p) (gN r 4) (2 ^ gN r 4 - 1) (gN r 4) v → K (if v < 1000000 then nI v else -1) mi1 ml) : c_X12_round_25 l (d + 4) kd mr z u 0 mi ml K := by
  subst hu
  have hw := O.w
  have hm := O.2.2.2.2.2.1
  have h3 := O.2.2.2.2.1
  have hpw := pw_le hm
  have hDle : ∀ i j, dD r p i j ≤ 1000000 := fun i j => by
    unfold dD
    by_cases q : ∃ n, rN (fre r) (sN r p i) n (sN r p j)
    · by_cases hi : sN r p i < cells r
      · have := (dN_cn O hi q).1; omega
      · obtain ⟨n, hn⟩ := q
        obtain ⟨n', n1, n2⟩ := rN.least hn
        rw [dN_eq n1 n2]
        have : sN r p i < cells r := by
          unfold sN
          split
          · rename_i hh; exact (cellC_lt O (Or.inr ⟨rfl, hh⟩)).1
          · exact (cellC_lt O (Or.inl ⟨rfl, hp⟩)).1
        exact absurd this hi
    · rw [dN_no fun m hm => q ⟨m, hm⟩]; exact Nat.le_refl _
  have e29 : mi z 29 = nI (gN r 4) := H.2.2.2.2.2.1
  have Hs : ∀ mi1 : pm_I, (∀ a, a ≠ z + 23 → a ≠ z + 29 → a ≠ z + 30 → mi1 a = mi a) → Hd mi1 z k r := fun mi1 g => H.sm fun a ha => g a (by omega) (by omega) (by omega)
  have es : ∀ i, i < gN r 4 → sN r p i = cellC r 27 i := fun i hi => by unfold sN; rw [if_pos hi]
  -- second: the table
  have second : ∀ (mi1 : pm_I), (∀ a, a ≠ z + 23 → a ≠ z + 29 → mi1 a = mi a) → (∀ i j, i ≤ gN r 4 → j < gN r 4 → mi1 (z + 29) (7 * i + j) = nI (dD r p i j)) → c_X12_round_113 l (d + 4) kd mr z 0 mi1 ml K := by
    intro mi1 f1 hA
    have E29 : ∀ mi2 : pm_I, (∀ a, a ≠ z + 30 → mi2 a = mi1 a) → mi2 z 29 = nI (gN r 4) := fun mi2 g => by rw [g z (by omega), f1 z (by omega) (by omega)]; exact e29
    generalize hmm : gN r 4 = m at *
    have hsh : (1 : Int32) <<< (nI m &&& 31) = nI (2 ^ m) := z_shl m (by omega)
    have outer : ∀ (q S : Nat) (mi2 : pm_I), S + q = 2 ^ m → (∀ a, a ≠ z + 30 → mi2 a = mi1 a) → (∀ S' p', S' < S → p' ≤ m → ∃ v, rzB (dD r p) m S' p' v ∧ mi2 (z + 30) (7 * S' + p') = nI v) → c_X12_round_113 l (d + 4) kd mr z (nI S) mi2 ml K := by
      intro q
      induction q with
      | zero =>
        intro S mi2 hS g1 g2
        have : S = 2 ^ m := by omega
        subst this
        obtain ⟨v0, v1, v2⟩ := g2 (2 ^ m - 1) m (by omega) (Nat.le_refl _)
        have hv := v1.1
        have e7 : (7 : Int32) * (nI (2 ^ m) - 1) + nI m = nI (7 * (2 ^ m - 1) + m) := by
          rw [show nI (2 ^ m) - 1 = nI (2 ^ m - 1) from z_sub (b := 1) (by omega), show (7 : Int32) * nI (2 ^ m - 1) = nI (7 * (2 ^ m - 1)) from z_mul 7 _, nI_add]
        have k := k9 v0 mi2 (fun a a1 a2 a3 => (g1 a a3).trans (f1 a a1 a2)) v1
        refine w_X12_round_113 tz ⟨fun _ => ?_, fun h => absurd (by rw [E29 mi2 g1, hsh]; exact nI_le (Nat.le_refl _) (by omega)) h⟩
        rw [E29 mi2 g1, hsh, e7, z_cl (by omega), v2]
        have c9 : (nI v0 < (1000000 : Int32)) = (v0 < 1000000) := z_lt (b := 1000000) (by omega) (by omega)
        refine ⟨z_in (by omega) (by omega), fun hlt => ?_, fun hge => ?_⟩
        · rw [if_pos (c9.mp hlt)] at k; exact k
        · rw [if_neg (fun e => hge (c9.mpr e))] at k; exact k
      | succ q ih =>
        intro S mi2 hS g1 g2
        refine w_X12_round_113 tz ⟨fun h => absurd h (by rw [E29 mi2 g1, hsh]; exact nI_ge (by omega) (by omega)), fun _ => ?_⟩
        have mid : ∀ (u p' : Nat) (mi2 : pm_I), p' + u = m + 1 → (∀ a, a ≠ z + 30 → mi2 a = mi1 a) → (∀ S' q', S' < S ∨ (S' = S ∧ q' < p') → q' ≤ m → ∃ v, rzB (dD r p) m S' q' v ∧ mi2 (z + 30) (7 * S' + q') = nI v) → c_X12_round_126 l (d + 4) kd mr z (nI S) (nI p') mi2 ml K := by
          intro u
          induction u with
          | zero =>
            intro p' mi2 hp' g1 g2
            refine w_X12_round_126 tz ⟨fun _ => ?_, fun h => absurd (by rw [E29 mi2 g1]; exact nI_lt (by omega) (by omega)) h⟩
            rw [nI_1]
            exact ih (S + 1) mi2 (by omega) g1 fun S' q' b1 b2 => g2 S' q' (by omega) b2
          | succ u ihu =>
            intro p' mi2 hp' g1 g2
            have inner : ∀ (w o b : Nat), o + w = m → b ≤ 1000000 → (b < 1000000 → ∃ n, Bw (dD r p) m n S p' b) → (S = 0 → b = 0) → (∀ o', o' < o → S.testBit o' = true → ∀ n k, Bw (dD r p) m n (S ^^^ 2 ^ o') o' k → b ≤ dD r p p' o' + k) → c_X12_round_151 l (d + 4) kd mr z (nI S) (nI p') (nI b) (nI o) mi2 ml K := by
              intro w
              induction w with
              | zero =>
                intro o b ho b1 b2 b3 b4
                have : o = m := by omega
                subst this
                have e7 : (7 : Int32) * nI S + nI p' = nI (7 * S + p') := by rw [show (7 : Int32) * nI S = nI (7 * S) from z_mul 7 _, nI_add]
                refine w_X12_round_151 tz ⟨fun _ => ?_, fun h => absurd (by rw [E29 mi2 g1]; exact nI_le (Nat.le_refl _) (by omega)) h⟩
                rw [e7, z_cl (by omega), nI_1]
                refine ⟨z_in (by omega) (by omega), ihu (p' + 1) _ (by omega) (fun a ha => by rw [pm_up_row _ _ ha]; exact g1 a ha) fun S' q' c1 c2 => ?_⟩
                by_cases e : S' = S ∧ q' = p'
                · obtain ⟨rfl, rfl⟩ := e
                  refine ⟨b, ⟨b1, b2, fun n k hk => ?_⟩, pm_up_s _ _ _ _⟩
                  cases n with
                  | zero => rw [b3 hk.1]; exact Nat.zero_le _
                  | succ n =>
                    obtain ⟨o', k', c3, c4, c5, rfl⟩ := hk
                    exact b4 o' c3 c4 n k' c5
                · rw [pm_up_j _ _ (by omega)]
                  exact g2 S' q' (by omega) c2
              | succ w ihw =>
                intro o b ho b1 b2 b3 b4
                have eth := z_th (S := S) (a := o) (by omega) (by omega)
                refine w_X12_round_151 tz ⟨fun h => absurd h (by rw [E29 mi2 g1]; exact nI_ge (by omega) (by omega)), fun _ => w_X12_has ?_⟩
                rw [eth]
                refine ⟨fun hf => w_X12_round_212 tz ?_, fun ht => ?_⟩
                · rw [nI_1]
                  refine ihw (o + 1) b (by omega) b1 b2 b3 fun o' ho' hb' => b4 o' ?_ hb'
                  have : o' ≠ o := fun e => by rw [e, hf] at hb'; cases hb'
                  omega
                · have hlt := x_lt S (by omega) o (by omega) ht
                  obtain ⟨v0, v1, v2⟩ := g2 (S ^^^ 2 ^ o) o (Or.inl hlt) (by omega)
                  have hv := v1.1
                  have hd := hDle p' o
                  have e1 : (7 : Int32) * nI p' + nI o = nI (7 * p' + o) := by rw [show (7 : Int32) * nI p' = nI (7 * p') from z_mul 7 _, nI_add]
                  have e2 : (7 : Int32) * nI (S ^^^ 2 ^ o) + nI o = nI (7 * (S ^^^ 2 ^ o) + o) := by rw [show (7 : Int32) * nI (S ^^^ 2 ^ o) = nI (7 * (S ^^^ 2 ^ o)) from z_mul 7 _, nI_add]
                  rw [z_rm S (by omega) o (by omega), if_pos ht, e1, e2, z_cl (by omega), z_cl (by omega), v2, g1 (z + 29) (by omega), hA p' o (by omega) (by omega), nI_add]
                  refine ⟨z_in (by omega) (by omega), z_in (by omega) (by omega), w_X12_lesser (w_X12_round_212 tz ?_)⟩
                  rw [nI_1]
                  have hS0 : S ≠ 0 := fun e => by rw [e, Nat.zero_testBit] at ht; cases ht
                  have c9 : (nI (dD r p p' o + v0) ≤ nI b) = (dD r p p' o + v0 ≤ b) := z_le (by omega) (by omega)
                  by_cases q9 : dD r p p' o + v0 ≤ b
                  · rw [if_pos (c9.mpr q9)]
                    refine ihw (o + 1) _ (by omega) (by omega) (fun hlt2 => ?_) (fun e => absurd e hS0) fun o' ho' hb' n k hk => ?_
                    · obtain ⟨n, hn⟩ := v1.2.1 (by omega)
                      exact ⟨n + 1, o, v0, by omega, ht, hn, rfl⟩
                    · by_cases e : o' = o
                      · subst e
                        have := v1.2.2 n k hk; omega
                      · have := b4 o' (by omega) hb' n k hk; omega
                  · rw [if_neg (fun e => q9 (c9.mp e))]
                    refine ihw (o + 1) b (by omega) b1 b2 b3 fun o' ho' hb' n k hk => ?_
                    by_cases e : o' = o
                    · subst e
                      have := v1.2.2 n k hk; omega
                    · exact b4 o' (by omega) hb' n k hk
            refine w_X12_round_126 tz ⟨fun h => absurd h (by rw [E29 mi2 g1]; exact nI_nlt (by omega) (by omega)), fun _ => ?_⟩
            have ez : (nI S = 0) = (S = 0) := z_eq (b := 0) (by omega) (by omega)
            by_cases hS0 : S = 0
            · rw [if_pos (ez.mpr hS0)]
              exact inner m 0 0 (by omega) (by omega) (fun _ => ⟨0, hS0, rfl⟩) (fun _ => rfl) fun o' ho' => by omega
            · rw [if_neg (fun e => hS0 (ez.mp e))]
              exact inner m 0 1000000 (by omega) (Nat.le_refl _) (fun e => absurd e (Nat.lt_irrefl _)) (fun e => absurd e hS0) fun o' ho' => by omega
        exact mid (m + 1) 0 mi2 (by omega) g1 fun S' q' b1 b2 => g2 S' q' (by omega) b2
    exact outer (2 ^ m) 0 mi1 (by omega) (fun _ _ => rfl) fun S' p' hS' => by omega
  have first : ∀ (q i : Nat) (mi1 : pm_I), i + q = gN r 4 + 1 → (∀ a, a ≠ z + 23 → a ≠ z + 29 → mi1 a = mi a) → (∀ i' j, i' < i → j < gN r 4 → mi1 (z + 29) (7 * i' + j) = nI (dD r p i' j)) → c_X12_round_25 l (d + 4) kd mr z (nI p) (nI i) mi1 ml K := by
    intro q
    induction q with
    | zero =>
      intro i mi1 hi g1 g2
      have E29 : mi1 z 29 = nI (gN r 4) := by rw [g1 z (by omega) (by omega)]; exact e29
      exact w_X12_round_25 tz ⟨fun _ => second mi1 g1 fun i' j b1 b2 => g2 i' j (by omega) b2, fun h => absurd (by rw [E29]; exact nI_lt (by omega) (by omega)) h⟩
    | succ q ih =>
      intro i mi1 hi g1 g2
      have E29 : mi1 z 29 = nI (gN r 4) := by rw [g1 z (by omega) (by omega)]; exact e29
      have H1 := Hs mi1 fun a a1 a2 _ => g1 a a1 a2
      have soon : c_X12_round_59 l (d + 4) kd mr z (nI p) (nI i) (nI (sN r p i)) mi1 ml K := by
        obtain ⟨si, -⟩ := sN_ok O hp (show i ≤ gN r 4 by omega)
        refine w_X12_round_59 tz (s_findSoon tz H1 O rfl si fun g a hg => ?_)
        have inner : ∀ (u j : Nat) (mi2 : pm_I), j + u = gN r 4 → (∀ b, b ≠ z + 23 → b ≠ z + 29 → mi2 b = mi b) → mi2 (z + 23) = g → (∀ i' j', i' < i ∨ (i' = i ∧ j' < j) → j' < gN r 4 → mi2 (z + 29) (7 * i' + j') = nI (dD r p i' j')) → c_X12_round_65 l (d + 4) kd mr z (nI p) (nI i) (nI j) mi2 ml K := by
          intro u
          induction u with
          | zero =>
            intro j mi2 hj f1 f2 f3
            have E29 : mi2 z 29 = nI (gN r 4) := by rw [f1 z (by omega) (by omega)]; exact e29
            refine w_X12_round_65 tz ⟨fun _ => ?_, fun h => absurd (by rw [E29]; exact nI_le (by omega) (by omega)) h⟩
            rw [nI_1]
            exact ih (i + 1) mi2 (by omega) f1 fun i' j' b1 b2 => f3 i' j' (by omega) b2
          | succ u ihu =>
            intro j mi2 hj f1 f2 f3
            have E29 : mi2 z 29 = nI (gN r 4) := by rw [f1 z (by omega) (by omega)]; exact e29
            have H2 := Hs mi2 fun a a1 a2 _ => f1 a a1 a2
            have sj := (cellC_lt O (Or.inr ⟨rfl, (show j < gN r 4 by omega)⟩)).1
            refine w_X12_round_65 tz ⟨fun h => absurd h (by rw [E29]; exact nI_ge (by omega) (by omega)), fun _ => s_cellOf (a := 27) tz H2 O rfl rfl (by omega) (by omega) ?_⟩
            have e1 : (7 : Int32) * nI i + nI j = nI (7 * i + j) := by rw [show (7 : Int32) * nI i = nI (7 * i) from z_mul 7 _, nI_add]
            rw [e1, z_cl (by omega), z_cl (by omega), f2, (soon_dN O si hg sj).1, nI_1]
            refine ⟨z_in (by omega) (by omega), z_in (by omega) (by omega), ihu (j + 1) _ (by omega) (fun b b1 b2 => by rw [pm_up_row _ _ b2]; exact f1 b b1 b2) (by rw [pm_up_row _ _ (by omega)]; exact f2) fun i' j' b1 b2 => ?_⟩
            by_cases e : i' = i ∧ j' = j
            · obtain ⟨rfl, rfl⟩ := e
              rw [pm_up_s]
              unfold dD
              rw [es j' b2]
            · rw [pm_up_j _ _ (by omega)]
              exact f3 i' j' (by omega) b2
        exact inner (gN r 4) 0 _ (by omega) (fun b b1 b2 => by rw [pm_ur_k _ _ b1]; exact g1 b b1 b2) (pm_ur_s _ _ _) fun i' j' b1 b2 => by rw [pm_ur_k _ _ (by omega)]; exact g2 i' j' (by omega) b2
      refine w_X12_round_25 tz ⟨fun h => absurd h (by rw [E29]; exact nI_nlt (by omega) (by omega)), fun _ => ?_⟩
      rw [E29, z_le (by omega) (by omega)]
      refine ⟨fun hle => s_cellOf (a := 9) tz H1 O rfl rfl (by omega) (by omega) ?_, fun hlt => s_cellOf (a := 27) tz H1 O rfl rfl (by omega) (by omega) ?_⟩
      · have : sN r p i = cellC r 9 p := by unfold sN; rw [if_neg (by omega)]
        rw [this] at soon; exact soon
      · rw [es i (by omega)] at soon; exact soon
  exact first (gN r 4 + 1) 0 mi (by omega) (fun _ _ _ => rfl) fun i' j hi' => by omega
theorem c_round {a b : Int32} (tx : TX11s kd mr x) (tz : TX12s kd mr z) (I : IV x z mi ml) : wI l M_X11_round (d + 6) [.ref x, .int a, .int b] kd mr mi ml fun r mi1 ml1 => wI l M_X12_round (d + 6) [.ref z, .int a, .int b] kd mr mi1 ml1 fun r2 mi2 ml2 => r = r2 ∧ IV x z mi2 ml2 := by
  have f0 : ∀ (mi : pm_I) (ml : pm_L), frZ z mi (pm_up mi z 0 0) ml ml := fun _ _ => frZ.upI (Or.inl rfl)
  have hz := I.1
  refine w_X11_round tx (q_city tx I (fun m Im h => ⟨fun _ => ?_, fun b hb => (by cases hb)⟩) (fun m k r hr Im hk ha to O C => ⟨fun h => (by cases h), fun b4 hb4 => ?_⟩))
  · exact w_X12_round tz (p_handN tz Im h (pm_up_row _ _ (by omega)) (pm_up_row _ _ (by omega)) ⟨fun _ => ⟨rfl, I.smZ (f0 _ _)⟩, fun g => (by cases g)⟩)
  · cases hb4
    have hm := Im.1
    have h3 := O.2.2.2.2.1
    have h4 := O.2.2.2.2.2.1
    have hpw := pw_le h4
    have ref : ∀ (v : Int32) (mi1 : pm_I) (ml1 : pm_L), frX x mi mi1 ml ml1 → ((isK b (gN r 3) = false ∧ v = -1) ∨ ∃ p, b = nI p ∧ p < gN r 3 ∧ (((∃ i j, i ≤ gN r 4 ∧ j ≤ gN r 4 ∧ ¬ cn r (sN r p i) (sN r p j)) ∧ v = -1) ∨ ∃ n, v = nI n ∧ n ≤ 4096 ∧ visB (dD r p) (gN r 4) n)) →
        wI l M_X12_round (d + 6) [.ref z, .int a, .int b] kd mr mi1 ml1 fun r2 mi2 ml2 => v = r2 ∧ IV x z mi2 ml2 := by
      intro v mi1 ml1 fx hv
      refine w_X12_round tz (q_hand tz Im hr hk ha (by rw [pm_up_row _ _ (by omega)]; exact (fx _ (by omega)).1) (by rw [pm_up_row _ _ (by omega)]; exact (fx _ (by omega)).1) fun mi' f g1 g2 H => ⟨fun g => (by cases g), fun _ => s_isPlayer tz H O ?_⟩)
      have I2 : IV x z mi' ml1 := (I.smX fx).smZ ((f0 _ _).tr f)
      rcases hv with ⟨h1, rfl⟩ | ⟨p, rfl, hp, hv⟩
      · rw [h1]; exact ⟨fun g => (by cases g), fun _ => ⟨rfl, I2⟩⟩
      · rw [isK_nI (by omega), decide_eq_true hp]
        refine ⟨fun _ => s_roundZ tz H O hp rfl fun v' mi2 f2 hz2 => ⟨?_, I2.smZ fun a ha => ⟨f2 a (by omega) (by omega) (by omega), rfl⟩⟩, fun g => by cases g⟩
        rcases hv with ⟨⟨i, j, hi, hj, hno⟩, rfl⟩ | ⟨n, rfl, hn, hvis⟩
        · have hge : ¬ v' < 1000000 := fun hlt => by
            obtain ⟨n, hb⟩ := hz2.2.1 hlt
            have all : ∀ o, o ≤ gN r 4 → cn r (sN r p (gN r 4)) (sN r p o) := by
              intro o ho
              by_cases e : o = gN r 4
              · rw [e]; exact cn.rf r _
              · exact Bw.cn (R := fun i j => cn r (sN r p i) (sN r p j)) (fun i j _ _ hlt => Classical.byContradiction fun q => by
                  have : dD r p i j = 1000000 := dN_far q
                  omega) (fun a b c q1 q2 => q1.tr q2) n _ _ v' (Nat.le_refl _) hb hlt o (by rw [all_bit h4]; exact decide_eq_true (by omega))
            obtain ⟨m1, m2⟩ := sN_ok O hp (Nat.le_refl (gN r 4))
            exact hno (((all i hi).sym O m1 m2).tr (all j hj))
          rw [if_neg hge]
        · obtain ⟨⟨j, hj⟩, hlow⟩ := hvis
          have c1 := hz2.2.2 j n hj
          obtain ⟨j', hj'⟩ := hz2.2.1 (by omega)
          have c2 := hlow j' v' hj'
          have : v' = n := by omega
          subst this
          rw [if_pos (by omega)]
    refine ⟨to, s_hasPlayer to C O ⟨fun hb => ?_, fun hb => ref _ _ _ frX.rf (Or.inl ⟨hb, rfl⟩)⟩⟩
    obtain ⟨p, hp, hp2, rfl⟩ := isK_iff.mp hb
    refine ⟨z_in (by omega) (by omega), ?_⟩
    obtain ⟨c1, c2⟩ := cellC_lt O (Or.inl ⟨rfl, hp⟩)
    have e2 : mi (x + 1 + 7 + 19 * k + 2) (nI p).toNatClampNeg = nI (spC r (cellC r 9 p)) := by rw [z_cl (by omega), (C.pl hp).2, c2]
    rw [e2]
    exact s_shortestVisit (TX11s_a7 tx) to C O hp (by omega) rfl (fun mi1 f hbad => ref _ _ _ (fun a ha => ⟨f a (by omega) (by omega) (by omega), rfl⟩) (Or.inr ⟨p, rfl, hp, Or.inl ⟨hbad, rfl⟩⟩)) (fun v mi1 f hv hvis => ref _ _ _ (fun a ha => ⟨f a (by omega) (by omega) (by omega), rfl⟩) (Or.inr ⟨p, rfl, hp, Or.inr ⟨v, rfl, hv, hvis⟩⟩))
end ROUND2
