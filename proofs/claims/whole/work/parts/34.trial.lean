/-! trial -/
def trialF (q : Nat → Int32) (w : Int32) : Int32 := if isK w 3 = true then q w.toNatClampNeg else if isK w 70 = true ∧ 10 ≤ w.toNatClampNeg ∧ (w.toNatClampNeg - 10) % 20 < gN q 2 then q (3 + 3 * ((w.toNatClampNeg - 10) % 20) + (w.toNatClampNeg - 10) / 20) else -2
theorem z_back {w : Int32} {i k : Nat} (hi : i < 3) (hk : k < 20) : w - 10 - 20 * nI i = nI k ↔ w = nI (10 + 20 * i + k) := by
  have e : nI (10 + 20 * i + k) = nI k + (20 * nI i + 10) := by
    rw [show (20 : Int32) * nI i = nI (20 * i) from z_mul 20 i, show nI (20 * i) + 10 = nI (20 * i + 10) from nI_add _ 10, nI_add]
    congr 1; omega
  rw [e]
  constructor
  · intro h
    rw [← h, Int32.sub_sub, Int32.add_comm 10]
    exact (Int32.sub_add_cancel _ _).symm
  · intro h
    rw [h, Int32.sub_sub, Int32.add_comm 10]
    exact Int32.add_sub_cancel _ _
section TRIAL
variable {l : Launch} {d x z o T : Nat} {kd : pm_K} {mr : pm_R} {mi : pm_I} {ml : pm_L} {q : Nat → Int32} {m : Nat}
/-- the class's trial at o, of row q -/
def TC (mi : pm_I) (o : Nat) (q : Nat → Int32) : Prop := okT q ∧ mi o 0 = q 0 ∧ mi o 1 = q 1 ∧ RR mi (o + 1) 2 q
theorem RR.n {mi : pm_I} {o c0 : Nat} {q : Nat → Int32} (h : RR mi o c0 q) : mi o 3 = nI (gN q c0) ∧ q c0 = nI (gN q c0) ∧ gN q c0 ≤ 40 := by
  obtain ⟨n, hn, e1, e2, e3⟩ := h
  have eg : gN q c0 = n := by unfold gN; rw [e2, z_cl (by omega)]
  rw [eg]; exact ⟨e1, e2, hn⟩
theorem trialF_hit {i k : Nat} (hi : i < 3) (hk : k < gN q 2) (hn : gN q 2 ≤ 12) : trialF q (nI (10 + 20 * i + k)) = q (3 + 3 * k + i) := by
  unfold trialF
  rw [isK_nI (by omega), if_neg (by simp; omega), isK_nI (by omega), z_cl (by omega), if_pos ⟨by simp; omega, by omega, by omega⟩]
  congr 1; omega
theorem trialF_no {w : Int32} (h1 : isK w 3 = false) (h2 : ∀ i k, i < 3 → k < gN q 2 → w ≠ nI (10 + 20 * i + k)) : trialF q w = -2 := by
  unfold trialF
  rw [if_neg (by rw [h1]; decide), if_neg]
  rintro ⟨g1, g2, g3⟩
  obtain ⟨W, hW, hW2, rfl⟩ := isK_iff.mp g1
  rw [z_cl hW2] at g2 g3
  exact h2 ((W - 10) / 20) ((W - 10) % 20) (by omega) g3 (by congr 1; omega)
theorem s_tell10 {w : Int32} {K : Int32 → pm_I → pm_L → Prop} (to : TX10s kd mr o) (C : TC mi o q) (k9 : K (trialF q w) mi ml) : wI l M_X10_tell (d + 1) [.ref o, .int w] kd mr mi ml K := by
  obtain ⟨O, e0, e1, R⟩ := C
  obtain ⟨n1, n2, n3⟩ := R.n
  have hn := O.1
  have lit : ∀ j : Nat, j < 3 → w = nI j → trialF q w = q j := fun j hj h => by
    subst h; unfold trialF; rw [isK_nI (by omega), if_pos (by simp; omega), z_cl (by omega)]
  refine w_X10_tell to ⟨fun h => ?_, fun h => ?_, fun h => ?_, fun h => ?_⟩
  · have h3 : isK w 3 = false := (z_i3 w).1 h
    refine ⟨fun h2 => ?_, fun h2 => ⟨fun h4 => ?_, fun h4 => ?_⟩⟩
    · have h2 : w < nI 10 := h2
      rw [trialF_no h3 (fun i k hi hk e => by subst e; rw [z_lt (by omega) (by omega)] at h2; omega)] at k9; exact k9
    · have h2 : ¬ w < nI 10 := h2
      have h4 : w < nI 70 := h4
      rcases z_cases w with h5 | ⟨W, hW, rfl⟩
      · exact absurd (z_ltm h5 (by omega)) h2
      · rw [z_lt hW (by omega)] at h2 h4
        have e10 : nI W - 10 = nI (W - 10) := z_sub (b := 10) (by omega)
        have e20 : nI (W - 10) / 20 = nI ((W - 10) / 20) := z_div (b := 20) (by omega) (by omega)
        have e21 : nI (W - 10) - nI (W - 10) / 20 * 20 = nI ((W - 10) % 20) := z_rem (b := 20) (by omega) (by omega)
        rw [e10, e21, e20]
        refine s_tellX (TX10s_a2 to) R ?_
        have : rowsF q 2 (nI ((W - 10) % 20)) (nI ((W - 10) / 20)) = trialF q (nI W) := by
          unfold rowsF
          rw [if_neg (z_eq1 (by omega)), isK_nI (by omega), isK_nI (by omega), z_cl (by omega), z_cl (by omega)]
          by_cases hk : (W - 10) % 20 < gN q 2
          · rw [if_pos ⟨by simp [hk], by simp; omega⟩]
            have := trialF_hit (q := q) (i := (W - 10) / 20) (k := (W - 10) % 20) (by omega) hk hn
            rw [show 10 + 20 * ((W - 10) / 20) + (W - 10) % 20 = W by omega] at this
            exact this.symm
          · rw [if_neg (by simp; omega)]
            refine (trialF_no h3 fun i k hi hk2 e => hk ?_).symm
            rw [z_eq (by omega) (by omega)] at e
            omega
        rw [this]; exact k9
    · have h4 : ¬ w < nI 70 := h4
      rw [trialF_no h3 (fun i k hi hk e => by subst e; rw [z_lt (by omega) (by omega)] at h4; omega)] at k9; exact k9
  · rw [lit 0 (by omega) ((z_ti (n := 0) (by omega)).mp h)] at k9; rw [e0]; exact k9
  · rw [lit 1 (by omega) ((z_ti (n := 1) (by omega)).mp h)] at k9; rw [e1]; exact k9
  · rw [lit 2 (by omega) ((z_ti (n := 2) (by omega)).mp h), n2] at k9; rw [n1]; exact k9
theorem s_trialAt {t : Nat} {y : Int32} {K : Option Nat → pm_I → pm_L → Prop} (tt9 : TX9s kd mr T) (I : tT mi T z t m) (k0 : isK y m = false → K none mi ml) (k1 : ∀ k, k < m → y = nI k → TX10s kd mr (T + 17 + 19 * k) → TC mi (T + 17 + 19 * k) (fun j => mi (z + 8) (78 * t + 39 * k + j)) → K (some (T + 17 + 19 * k)) mi ml) : wR l M_X9_trialAt (d + 1) [.ref T, .int y] kd mr mi ml K := by
  obtain ⟨hm, e1, -, e3⟩ := I
  refine w_X9_trialAt tt9 (s_hasOne (s := 2) tt9 rfl (by omega) e1 hm ⟨k0, fun h => ?_⟩)
  obtain ⟨k, hk, hk2, rfl⟩ := isK_iff.mp h
  have hobj : mr (T + 5) k = some (T + 17 + 19 * k) ∧ TX10s kd mr (T + 17 + 19 * k) := by
    rcases (show k = 0 ∨ k = 1 by omega) with rfl | rfl
    · exact ⟨TX9s_e5_0 tt9, TX9s_o5_0 tt9⟩
    · exact ⟨TX9s_e5_1 tt9, TX9s_o5_1 tt9⟩
  exact ⟨z_in (by omega) (by omega), _, by rw [z_cl hk2]; exact hobj.1, hobj.2, k1 k hk rfl hobj.2 (e3 k hk)⟩
/-- the trial in hand, in the reference -/
def HT (mi : pm_I) (z k : Nat) (q : Nat → Int32) : Prop := k < 2 ∧ mi z 46 = nI k ∧ ∀ j, j < 39 → mi (z + 8) (39 * k + j) = q j
theorem s_trialOf {a k : Nat} {c : Int32} {K : Int32 → pm_I → pm_L → Prop} (tz : TX12s kd mr z) (H : HT mi z k q) (hc : c = nI a) (ha : a < 39) (k9 : K (q a) mi ml) : wI l M_X12_trialOf d [.ref z, .int c] kd mr mi ml K := by
  subst hc
  obtain ⟨hk, e1, e6⟩ := H
  have e : 39 * mi z 46 + nI a = nI (39 * k + a) := by rw [e1, ← nI_add, ← z_mul]; rfl
  refine w_X12_trialOf tz ?_
  rw [e, z_cl (by omega), e6 a ha]
  exact ⟨z_in (by omega) (by omega), k9⟩
theorem s_hasTrial {y : Int32} {K : Bool → pm_I → pm_L → Prop} (tz : TX12s kd mr z) (h5 : mi (z + 5) 2 = nI m) (hm : m ≤ 2) (k0 : isK y m = false → K false (pm_up mi z 46 y) ml) (k1 : ∀ k, k < m → y = nI k → HT (pm_up mi z 46 y) z k (fun j => mi (z + 8) (39 * k + j)) → K true (pm_up mi z 46 y) ml) : wB l M_X12_hasTrial (d + 2) [.ref z, .int y] kd mr mi ml K := by
  refine w_X12_hasTrial tz (s_is (s := 2) tz rfl (by omega) (by rw [pm_up_row _ _ (by omega)]; exact h5) (by omega) ?_)
  cases e : isK y m with
  | false => exact k0 e
  | true =>
    obtain ⟨k, hk, hk2, rfl⟩ := isK_iff.mp e
    exact k1 k hk rfl ⟨by omega, pm_up_s _ _ _ _, fun j _ => by rw [pm_up_row _ _ (by omega)]⟩
theorem c_trial {a b : Int32} (tx : TX11s kd mr x) (tz : TX12s kd mr z) (I : IV x z mi ml) : wI l M_X11_trial (d + 4) [.ref x, .int a, .int b] kd mr mi ml fun r mi1 ml1 => wI l M_X12_trial (d + 4) [.ref z, .int a, .int b] kd mr mi1 ml1 fun r2 mi2 ml2 => r = r2 ∧ IV x z mi2 ml2 := by
  obtain ⟨m, Im⟩ := I.2.1.2.2.2.1
  have hm := Im.1
  have f1 : frZ z mi (pm_up (pm_up mi z 0 0) z 46 a) ml ml := (frZ.upI (Or.inl rfl)).tr (frZ.upI (Or.inl rfl))
  have h5 : pm_up mi z 0 (0 : Int32) (z + 5) 2 = nI m := by rw [pm_up_row _ _ (by omega)]; exact Im.2.2.1
  refine w_X11_trial tx (s_trialAt (TX11s_a0 tx) Im (fun h => ⟨fun _ => ?_, fun b hb => (by cases hb)⟩) (fun k hk ha to C => ⟨fun h => (by cases h), fun b4 hb4 => ?_⟩))
  · refine w_X12_trial tz (s_hasTrial tz h5 hm (fun _ => ⟨fun h => (by cases h), fun _ => ⟨rfl, I.smZ f1⟩⟩) (fun k hk ha _ => ?_))
    rw [ha, isK_nI (by omega)] at h; simp at h; omega
  · cases hb4
    refine ⟨to, s_tell10 to C ?_⟩
    refine w_X12_trial tz (s_hasTrial tz h5 hm (fun h => ?_) (fun k2 hk2 ha2 H => ⟨fun _ => ?_, fun h => by cases h⟩))
    · rw [ha, isK_nI (by omega)] at h; simp at h; omega
    · have : k2 = k := by rw [ha] at ha2; rw [z_eq (by omega) (by omega)] at ha2; omega
      subst this
      have eq : (fun j => pm_up mi z 0 (0 : Int32) (z + 8) (39 * k2 + j)) = fun j => mi (z + 8) (78 * 0 + 39 * k2 + j) := by
        funext j; rw [pm_up_row _ _ (by omega), show 78 * 0 + 39 * k2 = 39 * k2 by omega]
      rw [eq] at H
      generalize (fun j => mi (z + 8) (78 * 0 + 39 * k2 + j)) = q at H C
      obtain ⟨O, -, -, R⟩ := C
      obtain ⟨-, n2, n3⟩ := R.n
      have hn := O.1
      have loop : ∀ (u i : Nat), i + u = 3 → (∀ i', i' < i → ∀ k, k < gN q 2 → b ≠ nI (10 + 20 * i' + k)) → c_X12_trial_18 l (d + 3 + 1) kd mr z b (nI i) (pm_up (pm_up mi z 0 0) z 46 a) ml fun r2 mi2 ml2 => trialF q b = r2 ∧ IV x z mi2 ml2 := by
        intro u
        induction u with
        | zero =>
          intro i hi h
          have : i = 3 := by omega
          subst this
          refine w_X12_trial_18 tz ⟨fun _ => s_in2 (m := 2) rfl (by omega) ⟨fun h3 => ⟨?_, I.smZ f1⟩, fun h3 => ?_⟩, fun h9 => absurd (nI_le (Nat.le_refl 3) (by omega)) h9⟩
          · exact trialF_no h3 fun i k hi hk e => h i hi k hk e
          · obtain ⟨j, hj, hj2, rfl⟩ := isK_iff.mp h3
            refine s_trialOf tz H rfl (by omega) ⟨?_, I.smZ f1⟩
            unfold trialF; rw [h3, if_pos rfl, z_cl hj2]
        | succ u ih =>
          intro i hi h
          refine w_X12_trial_18 tz ⟨fun h9 => absurd h9 (nI_ge (b := 3) (by omega) (by omega)), fun _ => s_trialOf (a := 2) tz H rfl (by omega) ?_⟩
          rw [n2]
          refine s_in (by omega) ⟨fun h3 => ?_, fun h3 => ?_⟩
          · rw [nI_1]
            refine ih (i + 1) (by omega) fun i' hi' k hk e => ?_
            rcases Nat.lt_or_ge i' i with h6 | h6
            · exact h i' h6 k hk e
            · have : i' = i := by omega
              subst this
              rw [(z_back (by omega) (by omega)).mpr e, isK_nI (by omega)] at h3
              simp at h3; omega
          · obtain ⟨k, hk, hk2, e⟩ := isK_iff.mp h3
            have eb := (z_back (by omega) (by omega)).mp e
            rw [e]
            refine s_trialOf (a := 3 + 3 * k + i) tz H ?_ (by omega) ⟨?_, I.smZ f1⟩
            · rw [show (3 : Int32) * nI k = nI (3 * k) from z_mul 3 k, show (3 : Int32) + nI (3 * k) = nI (3 + 3 * k) from nI_add 3 _, nI_add]
            · rw [eb]; exact trialF_hit (by omega) hk hn
      exact loop 3 0 rfl (fun i' h => by omega)
end TRIAL
