/-! how sound goes: the reference's findCost -/
theorem pm_up_ur {α : Type} (f : Nat → Nat → α) (k : Nat) (g : Nat → α) (j : Nat) (v : α) : pm_up (pm_ur f k g) k j v = pm_ur f k (fun i => if i = j then v else g i) := by
  funext a b
  unfold pm_up pm_ur
  by_cases h : a = k
  · by_cases h2 : b = j
    · simp [h, h2]
    · simp [h, h2]
  · simp [h]
theorem pm_ur_ur {α : Type} (f : Nat → Nat → α) (k : Nat) (g g2 : Nat → α) : pm_ur (pm_ur f k g) k g2 = pm_ur f k g2 := by
  funext a b
  unfold pm_ur
  by_cases h : a = k <;> simp [h]
theorem pm_ur_self {α : Type} (f : Nat → Nat → α) (k : Nat) : pm_ur f k (f k) = f := by
  funext a b
  unfold pm_ur
  by_cases h : a = k <;> simp [h]
def stW (r : Nat → Int32) (t w : Nat) : Nat := 1 + (if wlC r t = true then 2 else 0) + (if gN r 2 < 4 ∧ (gN r 2 + 2) % 4 = w then 1 else 0)
theorem stW_ge (r : Nat → Int32) (t w : Nat) : 1 ≤ stW r t w ∧ stW r t w ≤ 4 := by
  unfold stW
  constructor
  · omega
  · split <;> split <;> omega
def pstep (r : Nat → Int32) (q : Option (Nat × Nat)) (w : Nat) : Option (Nat × Nat) := match q with
  | none => none
  | some q => match nxt r q.1 w with
    | none => none
    | some t => some (t, q.2 + stW r t w)
/-- c is come to from f at a cost of at most k -/
def reach (r : Nat → Int32) (f k c : Nat) : Prop := ∃ ws : List Nat, (∀ w ∈ ws, w < 4) ∧ ∃ v, ws.foldl (pstep r) (some (f, 0)) = some (c, v) ∧ v ≤ k
theorem reach.self (r : Nat → Int32) (f k : Nat) : reach r f k f := ⟨[], fun _ h => absurd h List.not_mem_nil, 0, rfl, Nat.zero_le _⟩
theorem reach.mono {r : Nat → Int32} {f k k' c : Nat} (h : reach r f k c) (hk : k ≤ k') : reach r f k' c := by
  obtain ⟨ws, h1, v, h2, h3⟩ := h
  exact ⟨ws, h1, v, h2, by omega⟩
theorem reach.step {r : Nat → Int32} {f k c w t : Nat} (h : reach r f k c) (hw : w < 4) (ht : nxt r c w = some t) : reach r f (k + stW r t w) t := by
  obtain ⟨ws, h1, v, h2, h3⟩ := h
  refine ⟨ws ++ [w], fun x hx => ?_, v + stW r t w, ?_, by omega⟩
  · rcases List.mem_append.mp hx with q | q
    · exact h1 x q
    · rw [List.mem_singleton.mp q]; exact hw
  · rw [List.foldl_append, h2]
    simp [pstep, ht]
theorem pstep_none (r : Nat → Int32) (ws : List Nat) : ws.foldl (pstep r) none = none := by
  induction ws with
  | nil => rfl
  | cons w ws ih => exact ih
/-- what holds at the start and is kept by every step, holds where one comes to -/
theorem reach.ind {r : Nat → Int32} {f : Nat} (P : Nat → Nat → Prop) (h0 : P f 0) (hs : ∀ c v w t, P c v → w < 4 → nxt r c w = some t → P t (v + stW r t w)) {k c : Nat} (h : reach r f k c) : ∃ v, v ≤ k ∧ P c v := by
  obtain ⟨ws, h1, v, h2, h3⟩ := h
  refine ⟨v, h3, ?_⟩
  have key : ∀ (ws : List Nat) (c0 v0 : Nat), P c0 v0 → (∀ w ∈ ws, w < 4) → ws.foldl (pstep r) (some (c0, v0)) = some (c, v) → P c v := by
    intro ws
    induction ws with
    | nil => intro c0 v0 hp _ e; cases e; exact hp
    | cons w ws ih =>
      intro c0 v0 hp hw e
      rw [List.foldl_cons] at e
      cases hn : nxt r c0 w with
      | none =>
        have : pstep r (some (c0, v0)) w = none := by simp [pstep, hn]
        rw [this, pstep_none] at e
        cases e
      | some t =>
        have : pstep r (some (c0, v0)) w = some (t, v0 + stW r t w) := by simp [pstep, hn]
        rw [this] at e
        exact ih t _ (hs c0 v0 w t hp (hw w List.mem_cons_self) hn) (fun x hx => hw x (List.mem_cons_of_mem _ hx)) e
  exact key ws f 0 h0 h1 h2
theorem reach.lt {r : Nat → Int32} (O : okC r) {f k c : Nat} (hf : f < cells r) (h : reach r f k c) : c < cells r := by
  obtain ⟨v, -, h1⟩ := reach.ind (fun c _ => c < cells r) hf (fun c v w t hc hw ht => nxt_lt O hc ht) h
  exact h1
section COST
variable {l : Launch} {d h : Nat} {kd : pm_K} {mr : pm_R} {mi : pm_I} {ml : pm_L} {k : Nat} {r : Nat → Int32}
theorem s_stepCost {t w : Nat} {x y : Int32} {K : Int32 → pm_I → pm_L → Prop} (th : TX12s kd mr h) (H : Hd mi h k r) (O : okC r) (hx : x = nI t) (hy : y = nI w) (ht : t < cells r) (hw : w < 4) (k9 : K (nI (stW r t w)) mi ml) : wI l M_X12_stepCost (d + 2) [.ref h, .int x, .int y] kd mr mi ml K := by
  subst hy
  have e2 := O.lit (j := 2) (by omega)
  have b2 := O.2.2.2.1
  have e1 : ((1 : Int32) + if wlC r t = true then 2 else 0) = nI (1 + if wlC r t = true then 2 else 0) := by split <;> rfl
  refine w_X12_stepCost th (s_isWall th H O hx ht (s_of (a := 2) th H rfl (by omega) ⟨fun z => ?_, fun z => s_of (a := 2) th H rfl (by omega) ?_⟩))
  · rw [e2] at z
    have z : nI 4 ≤ nI (gN r 2) := z
    rw [z_le (by omega) (by omega)] at z
    rw [e1]
    have : nI (stW r t w) = nI (1 + if wlC r t = true then 2 else 0) + 0 := by
      unfold stW; rw [if_neg (c := gN r 2 < 4 ∧ _) (by omega)]
      show _ = nI _ + nI 0
      rw [nI_add]
    rw [this] at k9; exact k9
  · rw [e2] at z ⊢
    have z : ¬ nI 4 ≤ nI (gN r 2) := z
    rw [z_le (by omega) (by omega)] at z
    have e3 : nI (gN r 2) + 2 - (nI (gN r 2) + 2) / 4 * 4 = nI ((gN r 2 + 2) % 4) := by
      have : nI (gN r 2) + 2 = nI (gN r 2 + 2) := nI_add _ 2
      rw [this]; exact z_rem (b := 4) (by omega) (by omega)
    rw [e1, e3]
    have : nI (stW r t w) = nI (1 + if wlC r t = true then 2 else 0) + b2i (decide (nI ((gN r 2 + 2) % 4) = nI w)) := by
      unfold stW
      have q : (nI ((gN r 2 + 2) % 4) = nI w) = ((gN r 2 + 2) % 4 = w) := z_eq (by omega) (by omega)
      simp only [q]
      by_cases q2 : (gN r 2 + 2) % 4 = w
      · rw [if_pos (c := gN r 2 < 4 ∧ _) ⟨by omega, q2⟩, decide_eq_true q2]
        show _ = nI _ + nI 1
        rw [nI_add]
      · rw [if_neg (c := gN r 2 < 4 ∧ _) (fun q3 => q2 q3.2), decide_eq_false q2]
        show _ = nI _ + nI 0
        rw [nI_add]
    rw [this] at k9; exact k9
/-- the costs so far: none is too low -/
def cJ (r : Nat → Int32) (f : Nat) (g : Nat → Int32) (a : Nat → Nat) : Prop := a f = 0 ∧ ∀ c, c < cells r → g c = nI (a c) ∧ a c ≤ 1000000 ∧ (a c < 1000000 → reach r f (a c) c)
def cRel (r : Nat → Int32) (a : Nat → Nat) (c w : Nat) : Prop := ∀ t, nxt r c w = some t → a t ≤ a c + stW r t w
def cSum (a : Nat → Nat) : Nat → Nat
  | 0 => 0
  | n + 1 => cSum a n + a n
theorem cSum_up (a : Nat → Nat) {j v : Nat} : ∀ n, j < n → v < a j → cSum (fun i => if i = j then v else a i) n < cSum a n := by
  intro n
  induction n with
  | zero => intro h; omega
  | succ n ih =>
    intro hj hv
    have same : ∀ m, m ≤ j → cSum (fun i => if i = j then v else a i) m = cSum a m := by
      intro m
      induction m with
      | zero => intro _; rfl
      | succ m ihm => intro hm; simp only [cSum]; rw [ihm (by omega), if_neg (by omega)]
    simp only [cSum]
    by_cases h : j = n
    · subst h
      rw [same _ (Nat.le_refl _), if_pos rfl]
      omega
    · rw [if_neg (fun z => h z.symm)]
      have := ih (by omega) hv
      omega
variable {f : Nat} {K : pm_I → pm_L → Prop}
/-- one sweep's state: nothing yet was found, or something was and the costs are less -/
def cSw (r : Nat → Int32) (f : Nat) (a0 a : Nat → Nat) (g0 g : Nat → Int32) (x2 : Int32) (c w : Nat) : Prop := cJ r f g a ∧ ((x2 = 0 ∧ a = a0 ∧ g = g0 ∧ (∀ c', c' < c → ∀ w', w' < 4 → cRel r a c' w') ∧ (∀ w', w' < w → cRel r a c w')) ∨ (x2 = 1 ∧ cSum a (cells r) < cSum a0 (cells r)))
theorem s_findCost {x : Int32} (th : TX12s kd mr h) (H : Hd mi h k r) (O : okC r) (hx : x = nI f) (hf : f < cells r)
    (k9 : ∀ (g : Nat → Int32) (a : Nat → Nat), (∀ c, c < cells r → g c = nI (a c) ∧ a c ≤ 1000000 ∧ (a c < 1000000 → reach r f (a c) c) ∧ ∀ k, reach r f k c → a c ≤ k) → K (pm_ur mi (h + 12) g) ml) : wV l M_X12_findCost (d + 3) [.ref h, .int x] kd mr mi ml K := by
  subst hx
  obtain ⟨w1, w2, w3, w4, w5, w6⟩ := O.w
  have Hg : ∀ g, Hd (pm_ur mi (h + 12) g) h k r := fun g => H.ur (by omega) (by omega)
  have e27 : ∀ g, pm_ur mi (h + 12) g h 27 = nI (cells r) := fun g => (Hg g).2.2.2.1
  have eg : ∀ g, pm_ur mi (h + 12) g (h + 12) = g := fun g => pm_ur_s _ _ _
  -- the outer loop
  have outer : ∀ (n : Nat) (g : Nat → Int32) (a : Nat → Nat), cSum a (cells r) < n → cJ r f g a → c_X12_findCost_36 l (d + 3) kd mr h 1 (pm_ur mi (h + 12) g) ml K := by
    intro n
    induction n with
    | zero => intro g a hn; omega
    | succ n ih =>
      intro g0 a0 hn hJ0
      refine w_X12_findCost_36 th ⟨fun z => absurd z (by decide), fun _ => ?_⟩
      -- behind a sweep
      have fin : ∀ (x2 : Int32) (g : Nat → Int32) (a : Nat → Nat), cSw r f a0 a g0 g x2 (cells r) 0 → c_X12_findCost_36 l (d + 3) kd mr h x2 (pm_ur mi (h + 12) g) ml K := by
        intro x2 g a hs
        rcases hs with ⟨hJ, ⟨rfl, rfl, rfl, hr, -⟩ | ⟨rfl, hlt⟩⟩
        · refine w_X12_findCost_36 th ⟨fun _ => k9 g a fun c hc => ⟨(hJ.2 c hc).1, (hJ.2 c hc).2.1, (hJ.2 c hc).2.2, fun k hk => ?_⟩, fun z => absurd rfl z⟩
          obtain ⟨v, hv, h1, -⟩ := reach.ind (fun c v => a c ≤ v ∧ c < cells r) ⟨by rw [hJ.1]; exact Nat.le_refl 0, hf⟩ (fun c v w t hc hw ht => ⟨by have := hr c hc.2 w hw t ht; omega, nxt_lt O hc.2 ht⟩) hk
          omega
        · exact ih g a (by omega) hJ
      -- over the cells, over the ways
      have cellsL : ∀ (m c : Nat) (x2 : Int32) (g : Nat → Int32) (a : Nat → Nat), c + m = cells r → cSw r f a0 a g0 g x2 c 0 → c_X12_findCost_44 l (d + 3) kd mr h x2 (nI c) (pm_ur mi (h + 12) g) ml K := by
        intro m
        induction m with
        | zero =>
          intro c x2 g a hc hs
          have : c = cells r := by omega
          subst this
          refine w_X12_findCost_44 th ⟨fun _ => fin x2 g a hs, fun z => absurd (by rw [e27]; exact nI_le (Nat.le_refl _) (by omega)) z⟩
        | succ m ihm =>
          intro c x2 g a hc hs
          refine w_X12_findCost_44 th ⟨fun z => absurd z (by rw [e27]; exact nI_ge (by omega) (by omega)), fun _ => ?_⟩
          have ways : ∀ (q w : Nat) (x2 : Int32) (g : Nat → Int32) (a : Nat → Nat), w + q = 4 → cSw r f a0 a g0 g x2 c w → c_X12_findCost_55 l (d + 3) kd mr h x2 (nI c) (nI w) (pm_ur mi (h + 12) g) ml K := by
            intro q
            induction q with
            | zero =>
              intro w x2 g a hw hs
              have : w = 4 := by omega
              subst this
              refine w_X12_findCost_55 th ⟨fun _ => ?_, fun z => absurd (nI_le (Nat.le_refl 4) (by omega)) z⟩
              rw [nI_1]
              refine ihm (c + 1) x2 g a (by omega) ⟨hs.1, ?_⟩
              rcases hs.2 with ⟨h1, h2, h3, h4, h5⟩ | hs2
              · refine Or.inl ⟨h1, h2, h3, fun c' hc' w' hw' => ?_, fun w' hw' => by omega⟩
                rcases Nat.lt_or_ge c' c with z | z
                · exact h4 c' z w' hw'
                · have : c' = c := by omega
                  subst this; exact h5 w' hw'
              · exact Or.inr hs2
            | succ q ihq =>
              intro w x2 g a hw hs
              have hc2 : c < cells r := by omega
              refine w_X12_findCost_55 th ⟨fun z => absurd z (nI_ge (b := 4) (by omega) (by omega)), fun _ => s_next th (Hg g) O rfl rfl hc2 (by omega) ?_⟩
              have skip : (∀ t, nxt r c w = some t → a t ≤ a c + stW r t w) → cSw r f a0 a g0 g x2 c (w + 1) := by
                intro hrel
                refine ⟨hs.1, ?_⟩
                rcases hs.2 with ⟨h1, h2, h3, h4, h5⟩ | hs2
                · refine Or.inl ⟨h1, h2, h3, h4, fun w' hw' => ?_⟩
                  rcases Nat.lt_or_ge w' w with z | z
                  · exact h5 w' z
                  · have : w' = w := by omega
                    subst this; exact hrel
                · exact Or.inr hs2
              have on : ∀ (x2 : Int32) (g : Nat → Int32) (a : Nat → Nat), cSw r f a0 a g0 g x2 c (w + 1) → c_X12_findCost_128 l (d + 3) kd mr h x2 (nI c) (nI w) (pm_ur mi (h + 12) g) ml K := by
                intro x2 g a hs
                refine w_X12_findCost_128 th ?_
                rw [nI_1]
                exact ihq (w + 1) x2 g a (by omega) hs
              cases hn : nxt r c w with
              | none =>
                refine ⟨fun z => absurd rfl z, fun _ => w_X12_findCost_97 th ⟨fun _ => on x2 g a (skip fun t ht => by rw [hn] at ht; cases ht), fun z => absurd rfl z⟩⟩
              | some t =>
                have ht := nxt_lt O hc2 hn
                have hne : ¬ nI t = -1 := by
                  have := z_m1 (show t < 2147483648 by omega)
                  exact fun z => (this ▸ (z : nI t = -nI 1)).elim
                have hst := stW_ge r t w
                obtain ⟨gc, ac, rc⟩ := hs.1.2 c hc2
                obtain ⟨gt, at', rt⟩ := hs.1.2 t ht
                refine ⟨fun _ => ⟨z_in (by omega) (by omega), s_stepCost th (Hg g) O rfl rfl ht (by omega) ?_⟩, fun z => absurd z hne⟩
                rw [eg, z_cl (by omega), gc, nI_add]
                refine w_X12_findCost_97 th ⟨fun z => absurd z hne, fun _ => ⟨z_in (by omega) (by omega), ?_⟩⟩
                show (pm_ur mi (h + 12) g (h + 12) (nI t).toNatClampNeg ≤ _ → _) ∧ (¬ pm_ur mi (h + 12) g (h + 12) (nI t).toNatClampNeg ≤ _ → _)
                rw [eg, z_cl (by omega), gt]
                refine ⟨fun z => on x2 g a (skip fun t' ht' => ?_), fun z => ⟨z_in (by omega) (by omega), ?_⟩⟩
                · rw [hn] at ht'; cases ht'
                  exact (nI_leI (by omega) (by omega)).mp z
                · have z2 : a c + stW r t w < a t := by
                    rcases Nat.lt_or_ge (a c + stW r t w) (a t) with q | q
                    · exact q
                    · exact absurd (nI_le q (by omega)) z
                  have ei : (oI (some t)).toNatClampNeg = t := z_cl (by omega)
                  rw [ei, pm_up_ur]
                  have hsum := cSum_up a (j := t) (v := a c + stW r t w) (cells r) ht z2
                  refine on 1 _ (fun i => if i = t then a c + stW r t w else a i) ⟨⟨?_, fun c' hc' => ?_⟩, Or.inr ⟨rfl, ?_⟩⟩
                  · have h0 := hs.1.1
                    by_cases q : f = t
                    · subst q; omega
                    · simp only [if_neg q]; exact h0
                  · by_cases q : c' = t
                    · subst q
                      simp only [if_true]
                      exact ⟨trivial, by omega, fun _ => (rc (by omega)).step (by omega) hn⟩
                    · simp only [if_neg q]
                      exact hs.1.2 c' hc'
                  · rcases hs.2 with ⟨-, h2, -⟩ | ⟨-, h2⟩
                    · rw [← h2]; exact hsum
                    · omega
          exact ways 4 0 x2 g a rfl ⟨hs.1, by
            rcases hs.2 with ⟨h1, h2, h3, h4, -⟩ | hs2
            · exact Or.inl ⟨h1, h2, h3, h4, fun w' hw' => by omega⟩
            · exact Or.inr hs2⟩
      refine cellsL (cells r) 0 0 g0 a0 (by omega) ⟨hJ0, Or.inl ⟨rfl, rfl, rfl, fun c' hc' => by omega, fun w' hw' => by omega⟩⟩
  -- the first loop
  have first : ∀ (m c : Nat) (g : Nat → Int32), c + m = cells r → (∀ c', c' < c → g c' = nI (if c' = f then 0 else 1000000)) → c_X12_findCost_2 l (d + 3) kd mr h (nI f) (nI c) (pm_ur mi (h + 12) g) ml K := by
    intro m
    induction m with
    | zero =>
      intro c g hc hg
      have : c = cells r := by omega
      subst this
      refine w_X12_findCost_2 th ⟨fun _ => outer (cSum (fun i => if i = f then 0 else 1000000) (cells r) + 1) g (fun i => if i = f then 0 else 1000000) (by omega) ⟨if_pos rfl, fun c hc => ⟨hg c hc, ?_, fun hlt => ?_⟩⟩, fun z => absurd (by rw [e27]; exact nI_le (Nat.le_refl _) (by omega)) z⟩
      · dsimp only; split <;> omega
      · by_cases q : c = f
        · subst q; exact reach.self r c _
        · simp only [if_neg q] at hlt; omega
    | succ m ihm =>
      intro c g hc hg
      refine w_X12_findCost_2 th ⟨fun z => absurd z (by rw [e27]; exact nI_ge (by omega) (by omega)), fun _ => ⟨z_in (by omega) (by omega), ?_⟩⟩
      rw [z_cl (by omega), pm_up_ur, nI_1]
      refine ihm (c + 1) _ (by omega) (fun c' hc' => ?_)
      have e : (if nI c = nI f then (0 : Int32) else 1000000) = nI (if c = f then 0 else 1000000) := by
        have q : (nI c = nI f) = (c = f) := z_eq (by omega) (by omega)
        simp only [q]
        split <;> rfl
      rw [e]
      by_cases q : c' = c
      · subst q; rw [if_pos rfl]
      · rw [if_neg q]; exact hg c' (by omega)
  have := first (cells r) 0 (mi (h + 12)) (by omega) (fun c' hc' => by omega)
  rw [pm_ur_self] at this
  exact w_X12_findCost th this
end COST
