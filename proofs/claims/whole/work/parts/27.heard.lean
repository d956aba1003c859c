/-! where one is heard, what it costs: class and reference -/
theorem reach.trans {r : Nat → Int32} {f k c k' t : Nat} (h1 : reach r f k c) (h2 : reach r c k' t) : reach r f (k + k') t := by
  obtain ⟨v, hv, h3⟩ := reach.ind (fun c v => reach r f (k + v) c) h1 (fun c v w t hc hw ht => by have := hc.step hw ht; rwa [Nat.add_assoc] at this) h2
  exact h3.mono (by omega)
theorem stW_le4 (r : Nat → Int32) (t w : Nat) : stW r t w ≤ 4 := (stW_ge r t w).2
section REACH
variable {r : Nat → Int32}
theorem reach_right {x y : Nat} : ∀ n, x + n < gN r 0 → y < gN r 1 → reach r (clC r x y) (4 * n) (clC r (x + n) y) := by
  intro n
  induction n with
  | zero => intro _ _; exact reach.self _ _ _
  | succ n ih =>
    intro h1 h2
    have hn : nxt r (clC r (x + n) y) 1 = some (clC r (x + (n + 1)) y) := by
      rw [nxt_xy (by omega) h2 1 (by omega), if_neg (by decide), if_pos rfl, if_neg (by omega)]; rfl
    exact ((ih (by omega) h2).step (by omega) hn).mono (by have := stW_le4 r (clC r (x + (n + 1)) y) 1; omega)
theorem reach_left {x y : Nat} : ∀ n, n ≤ x → x < gN r 0 → y < gN r 1 → reach r (clC r x y) (4 * n) (clC r (x - n) y) := by
  intro n
  induction n with
  | zero => intro _ _ _; exact reach.self _ _ _
  | succ n ih =>
    intro h0 h1 h2
    have hn : nxt r (clC r (x - n) y) 3 = some (clC r (x - (n + 1)) y) := by
      rw [nxt_xy (by omega) h2 3 (by omega), if_neg (by decide), if_neg (by decide), if_neg (by decide), if_neg (by omega)]; rfl
    exact ((ih (by omega) h1 h2).step (by omega) hn).mono (by have := stW_le4 r (clC r (x - (n + 1)) y) 3; omega)
theorem reach_down {x y : Nat} : ∀ n, x < gN r 0 → y + n < gN r 1 → reach r (clC r x y) (4 * n) (clC r x (y + n)) := by
  intro n
  induction n with
  | zero => intro _ _; exact reach.self _ _ _
  | succ n ih =>
    intro h1 h2
    have hn : nxt r (clC r x (y + n)) 2 = some (clC r x (y + (n + 1))) := by
      rw [nxt_xy h1 (by omega) 2 (by omega), if_neg (by decide), if_neg (by decide), if_pos rfl, if_neg (by omega)]; rfl
    exact ((ih h1 (by omega)).step (by omega) hn).mono (by have := stW_le4 r (clC r x (y + (n + 1))) 2; omega)
theorem reach_up {x y : Nat} : ∀ n, n ≤ y → x < gN r 0 → y < gN r 1 → reach r (clC r x y) (4 * n) (clC r x (y - n)) := by
  intro n
  induction n with
  | zero => intro _ _ _; exact reach.self _ _ _
  | succ n ih =>
    intro h0 h1 h2
    have hn : nxt r (clC r x (y - n)) 0 = some (clC r x (y - (n + 1))) := by
      rw [nxt_xy h1 (by omega) 0 (by omega), if_pos rfl, if_neg (by omega)]; rfl
    exact ((ih (by omega) h1 h2).step (by omega) hn).mono (by have := stW_le4 r (clC r x (y - (n + 1))) 0; omega)
theorem reach_all (O : okC r) {f t : Nat} (hf : f < cells r) (ht : t < cells r) : reach r f 56 t := by
  have hb := O.w
  obtain ⟨f1, f2⟩ := cell_xy O hf
  obtain ⟨t1, t2⟩ := cell_xy O ht
  rw [← clC_of (r := r) f, ← clC_of (r := r) t]
  generalize f % gN r 0 = x0 at *
  generalize f / gN r 0 = y0 at *
  generalize t % gN r 0 = x1 at *
  generalize t / gN r 0 = y1 at *
  have h1 : reach r (clC r x0 y0) 28 (clC r x1 y0) := by
    rcases Nat.le_total x0 x1 with q | q
    · have := reach_right (r := r) (x := x0) (y := y0) (x1 - x0) (by omega) f2
      rw [show x0 + (x1 - x0) = x1 by omega] at this
      exact this.mono (by omega)
    · have := reach_left (r := r) (x := x0) (y := y0) (x0 - x1) (by omega) f1 f2
      rw [show x0 - (x0 - x1) = x1 by omega] at this
      exact this.mono (by omega)
  have h2 : reach r (clC r x1 y0) 28 (clC r x1 y1) := by
    rcases Nat.le_total y0 y1 with q | q
    · have := reach_down (r := r) (x := x1) (y := y0) (y1 - y0) t1 (by omega)
      rw [show y0 + (y1 - y0) = y1 by omega] at this
      exact this.mono (by omega)
    · have := reach_up (r := r) (x := x1) (y := y0) (y0 - y1) (by omega) t1 f2
      rw [show y0 - (y0 - y1) = y1 by omega] at this
      exact this.mono (by omega)
  exact h1.trans h2
/-- n is the least cost from f to t -/
def isD (r : Nat → Int32) (f t n : Nat) : Prop := reach r f n t ∧ ∀ m, reach r f m t → n ≤ m
theorem isD.uniq {f t n m : Nat} (h1 : isD r f t n) (h2 : isD r f t m) : n = m := Nat.le_antisymm (h1.2 _ h2.1) (h2.2 _ h1.1)
theorem isD.le56 (O : okC r) {f t n : Nat} (h : isD r f t n) (hf : f < cells r) (ht : t < cells r) : n ≤ 56 := h.2 _ (reach_all O hf ht)
end REACH
section HEARD
variable {l : Launch} {d h o : Nat} {kd : pm_K} {mr : pm_R} {mi : pm_I} {ml : pm_L} {r : Nat → Int32} {f : Nat}
theorem CC.ur (C : CC mi ml o r) {a : Nat} {g : Nat → Int64} (h : o ≠ a) : CC mi (pm_ur ml a g) o r := C.same (fun _ _ _ => rfl) (pm_ur_k ml g h)
theorem s_onlyK {K : Int64 → pm_I → pm_L → Prop} (O : okC r) (hf : f < cells r) (k9 : ∀ y, inK r f y 0 → K y mi ml) : wL l M_X11_only d [.int (nI (spC r f))] kd mr mi ml K := by
  obtain ⟨g1, g2, g3⟩ := spC_in O hf
  refine s_only rfl g3 (fun y hy => k9 y fun s hs => ?_)
  rw [hy s hs, decide_eq_true_eq]
  constructor
  · rintro rfl
    exact ⟨g1, by rw [g2]; exact reach.self r f 0⟩
  · rintro ⟨h1, h2⟩
    have : ceS r s = f := by
      rcases h2.inv with e | ⟨c', w, k', -, -, -, h3⟩
      · exact e
      · have := (stW_ge r (ceS r s) w).1; omega
    rw [← this, spC_ceS h1]
theorem s_heardX {n : Nat} {x y : Int32} {K : Int64 → pm_I → pm_L → Prop} (th : TX7s kd mr h) (to : TX0s kd mr o) (C : CC mi ml o r) (O : okC r) (ho : o ≠ h + 1) (hf : f < cells r) (hx : x = nI (spC r f)) (hy : y = nI n) (hn : n ≤ 56) (k9 : ∀ z g, inK r f z n → K z mi (pm_ur ml (h + 1) g)) : wL l M_X7_heard (d + 3) [.ref h, .ref o, .int x, .int y] kd mr mi ml K := by
  subst hx; subst hy
  refine w_X7_heard th to (s_openX to C O fun z hz => s_onlyK O hf fun y0 hy0 => ?_)
  have loop : ∀ (m k : Nat) (g : Nat → Int64), k + m = n → (∀ j, j ≤ k → inK r f (g j) j) → c_X7_heard_19 l (d + 3) kd mr h o (nI n) z (nI (k + 1)) mi (pm_ur ml (h + 1) g) K := by
    intro m
    induction m with
    | zero =>
      intro k g hk hg
      have : k = n := by omega
      subst this
      refine w_X7_heard_19 th to ⟨fun _ => w_X7_heard_47 th to ?_, fun z9 => absurd (nI_lt (Nat.lt_succ_self k) (by omega)) z9⟩
      have e : (if (56 : Int32) < nI k then (56 : Int32) else nI k) = nI k := if_neg (nI_nlt (a := 56) (by omega) (by omega))
      rw [e, z_cl (by omega), pm_ur_s]
      exact ⟨z_in (by omega) (by omega), k9 _ _ (hg k (Nat.le_refl _))⟩
    | succ m ih =>
      intro k g hk hg
      refine w_X7_heard_19 th to ⟨fun z9 => absurd z9 (nI_nlt (by omega) (by omega)), fun _ => ⟨fun z9 => absurd z9 (nI_nlt (a := 56) (by omega) (by omega)), fun _ => ?_⟩⟩
      refine s_spread (f := f) (k := k) th to (C.ur ho) O hz rfl (by omega) hf (fun j hj => by rw [pm_ur_s]; exact hg j hj) (fun v hv => ?_)
      rw [pm_up_ur, nI_1]
      refine ih (k + 1) _ (by omega) (fun j hj => ?_)
      by_cases q : j = k + 1
      · subst q; rw [if_pos rfl]; exact hv
      · rw [if_neg q]; exact hg j (by omega)
  have := loop n 0 (fun i => if i = 0 then y0 else ml (h + 1) i) (by omega) (fun j hj => by
    have : j = 0 := by omega
    subst this; rw [if_pos rfl]; exact hy0)
  have e : pm_up ml (h + 1) (Int32.toNatClampNeg 0) y0 = pm_ur ml (h + 1) (fun i => if i = 0 then y0 else ml (h + 1) i) := by
    have := pm_up_ur ml (h + 1) (ml (h + 1)) 0 y0
    rw [pm_ur_self] at this
    exact this
  rw [e]
  exact this
theorem s_costX {t : Nat} {x y : Int32} {K : Int32 → pm_I → pm_L → Prop} (th : TX7s kd mr h) (to : TX0s kd mr o) (C : CC mi ml o r) (O : okC r) (ho : o ≠ h + 1) (hf : f < cells r) (ht : t < cells r) (hx : x = nI (spC r f)) (hy : y = nI (spC r t)) (k9 : ∀ n g, isD r f t n → K (nI n) mi (pm_ur ml (h + 1) g)) : wI l M_X7_cost (d + 3) [.ref h, .ref o, .int x, .int y] kd mr mi ml K := by
  subst hx; subst hy
  obtain ⟨t1, t2, t3⟩ := spC_in O ht
  refine w_X7_cost th to (s_openX to C O fun z hz => s_onlyK O hf fun y0 hy0 => ?_)
  -- at cost k, whose row stands
  have at40 : ∀ (k : Nat) (g : Nat → Int64), k ≤ 56 → inK r f (g k) k → (∀ j, j < k → ¬ reach r f j t) → (¬ reach r f k t → c_X7_cost_19 l (d + 3) kd mr h o (nI (spC r t)) z (nI (k + 1)) mi (pm_ur ml (h + 1) g) K) → c_X7_cost_40 l (d + 3) kd mr h o (nI (spC r t)) z (nI k) mi (pm_ur ml (h + 1) g) K := by
    intro k g hk hg hno hon
    refine w_X7_cost_40 th to ⟨z_in (by omega) (by omega), s_hasX rfl t3 ?_⟩
    rw [z_cl (by omega), pm_ur_s]
    have hiff := hg _ t3
    rw [t2] at hiff
    refine ⟨fun e => ?_, fun e => k9 k g ⟨(hiff.mp e).2, fun m hm => Nat.le_of_not_lt fun q => hno m q hm⟩⟩
    rw [nI_1]
    exact hon fun q => by rw [hiff.mpr ⟨t1, q⟩] at e; cases e
  have loop : ∀ (m k : Nat) (g : Nat → Int64), k + m = 56 → (∀ j, j ≤ k → inK r f (g j) j) → (∀ j, j ≤ k → ¬ reach r f j t) → c_X7_cost_19 l (d + 3) kd mr h o (nI (spC r t)) z (nI (k + 1)) mi (pm_ur ml (h + 1) g) K := by
    intro m
    induction m with
    | zero =>
      intro k g hk hg hno
      exact absurd (reach_all O hf ht) (hno 56 (by omega))
    | succ m ih =>
      intro k g hk hg hno
      refine w_X7_cost_19 th to ⟨fun z9 => absurd z9 (nI_nlt (a := 56) (by omega) (by omega)), fun _ => ⟨fun z9 => absurd z9 (nI_nle (by omega) (by omega)), fun _ => ?_⟩⟩
      refine s_spread (f := f) (k := k) th to (C.ur ho) O hz rfl (by omega) hf (fun j hj => by rw [pm_ur_s]; exact hg j hj) (fun v hv => ?_)
      rw [pm_up_ur]
      have hg2 : ∀ j, j ≤ k + 1 → inK r f (if j = k + 1 then v else g j) j := fun j hj => by
        by_cases q : j = k + 1
        · subst q; rw [if_pos rfl]; exact hv
        · rw [if_neg q]; exact hg j (by omega)
      refine at40 (k + 1) _ (by omega) (hg2 _ (Nat.le_refl _)) (fun j hj => hno j (by omega)) (fun hn => ih (k + 1) _ (by omega) hg2 (fun j hj => ?_))
      by_cases q : j = k + 1
      · subst q; exact hn
      · exact hno j (by omega)
  have e : pm_up ml (h + 1) (Int32.toNatClampNeg 0) y0 = pm_ur ml (h + 1) (fun i => if i = 0 then y0 else ml (h + 1) i) := by
    have := pm_up_ur ml (h + 1) (ml (h + 1)) 0 y0
    rw [pm_ur_self] at this
    exact this
  rw [e]
  have hg0 : ∀ j, j ≤ 0 → inK r f ((fun i => if i = 0 then y0 else ml (h + 1) i) j) j := fun j hj => by
    have : j = 0 := by omega
    subst this; exact hy0
  refine w_X7_cost_19 th to ⟨fun z9 => absurd z9 (by decide), fun _ => ⟨fun _ => ?_, fun z9 => absurd (by decide) z9⟩⟩
  exact at40 0 _ (by omega) (hg0 0 (Nat.le_refl _)) (fun j hj => by omega) (fun hn => loop 56 0 _ (by omega) hg0 (fun j hj => by
    have : j = 0 := by omega
    subst this; exact hn))
end HEARD
