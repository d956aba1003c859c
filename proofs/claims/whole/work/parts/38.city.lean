/-! city -/
theorem z_divneg {w : Int32} (h : w < 0) : (w / 10).toInt < 1 := by
  have h1 : w.toInt < 0 := by
    rw [Int32.lt_iff_toInt_lt] at h
    exact h
  rw [Int32.toInt_div]
  have e : (10 : Int32).toInt = 10 := by decide
  rw [e]
  have h2 := Int32.le_toInt w
  have h2 : -2147483648 ≤ w.toInt := h2
  have h5 : (-w.toInt).tdiv 10 = (-w.toInt) / 10 := Int.tdiv_eq_ediv_of_nonneg (by omega)
  rw [Int.neg_tdiv] at h5
  have h3 : w.toInt.tdiv 10 ≤ 0 := by omega
  have h4 : -2147483648 ≤ w.toInt.tdiv 10 := by omega
  rw [Int.bmod_eq_of_le (by omega) (by omega)]
  omega
def cityF (r : Nat → Int32) (w : Int32) : Int32 :=
  if w < 0 then -1 else
  if w.toNatClampNeg < 5 then r w.toNatClampNeg
  else if 100 ≤ w.toNatClampNeg then (if w.toNatClampNeg - 100 < cells r then b2i (wlC r (w.toNatClampNeg - 100)) else -1)
  else if w.toNatClampNeg / 10 = 1 then (if w.toNatClampNeg % 10 < 4 then r (5 + w.toNatClampNeg % 10) else -1)
  else if w.toNatClampNeg / 10 = 2 then (if w.toNatClampNeg % 10 < gN r 3 then r (9 + w.toNatClampNeg % 10) else -1)
  else if w.toNatClampNeg / 10 = 3 then (if w.toNatClampNeg % 10 < gN r 3 then nI (cellC r 9 (w.toNatClampNeg % 10)) else -1)
  else if w.toNatClampNeg / 10 = 4 then (if w.toNatClampNeg % 10 < gN r 4 then r (27 + w.toNatClampNeg % 10) else -1)
  else if w.toNatClampNeg / 10 = 5 then (if w.toNatClampNeg % 10 < gN r 4 then nI (cellC r 27 (w.toNatClampNeg % 10)) else -1)
  else -1
theorem cityF_nI (r : Nat → Int32) {n : Nat} (hn : n < 2147483648) : cityF r (nI n) = (
  if n < 5 then r n
  else if 100 ≤ n then (if n - 100 < cells r then b2i (wlC r (n - 100)) else -1)
  else if n / 10 = 1 then (if n % 10 < 4 then r (5 + n % 10) else -1)
  else if n / 10 = 2 then (if n % 10 < gN r 3 then r (9 + n % 10) else -1)
  else if n / 10 = 3 then (if n % 10 < gN r 3 then nI (cellC r 9 (n % 10)) else -1)
  else if n / 10 = 4 then (if n % 10 < gN r 4 then r (27 + n % 10) else -1)
  else if n / 10 = 5 then (if n % 10 < gN r 4 then nI (cellC r 27 (n % 10)) else -1)
  else -1) := by
  unfold cityF
  rw [if_neg (nI_pos hn), z_cl hn]
theorem wl_spot {r : Nat → Int32} (O : okC r) {c : Nat} (hc : c < cells r) : (gN r (45 + spC r c / 8)).testBit (spC r c % 8) = wlC r c := by
  have hb := O.w
  obtain ⟨h1, h2⟩ := cell_xy O hc
  have e3 : spC r c / 8 = c / gN r 0 := by unfold spC; omega
  have e4 : spC r c % 8 = c % gN r 0 := by unfold spC; omega
  rw [e3, e4]; rfl
section CITY
variable {l : Launch} {d x z o T k : Nat} {kd : pm_K} {mr : pm_R} {mi : pm_I} {ml : pm_L} {r : Nat → Int32} {m : Nat}
theorem s_tellOne {g j : Nat} {y v : Int32} {K : Int32 → pm_I → pm_L → Prop} (to : TX0s kd mr o) (C : CC mi ml o r) (O : okC r) (hy : y = nI g) (hv : v = nI j) (hg : g < 1000) (hj : j < 10)
    (k9 : K (if g = 1 then (if j < 4 then r (5 + j) else -1) else if g = 2 then (if j < gN r 3 then r (9 + j) else -1) else if g = 3 then (if j < gN r 3 then nI (cellC r 9 j) else -1) else if g = 4 then (if j < gN r 4 then r (27 + j) else -1) else if g = 5 then (if j < gN r 4 then nI (cellC r 27 j) else -1) else -1) mi ml) : wI l M_X0_tellOne (d + 1) [.ref o, .int y, .int v] kd mr mi ml K := by
  subst hy; subst hv
  have hb := O.w
  have h3 := O.2.2.2.2.1
  have h4 := O.2.2.2.2.2.1
  refine w_X0_tellOne to ?_
  rw [z_toInt (by omega)]
  refine ⟨fun h => ?_, fun h => ?_, fun h => ?_, fun h => ?_, fun h => ?_, fun h => ?_⟩
  · rw [if_neg (by omega), if_neg (by omega), if_neg (by omega), if_neg (by omega), if_neg (by omega)] at k9; exact k9
  · rw [if_pos (by omega)] at k9
    refine ⟨fun h2 => ?_, fun h2 => ⟨?_, ?_⟩⟩
    · have h2 : nI 4 ≤ nI j := h2
      rw [z_le (by omega) (by omega)] at h2
      rw [if_neg (by omega)] at k9; exact k9
    · have h2 : ¬ nI 4 ≤ nI j := h2
      rw [z_le (by omega) (by omega)] at h2
      exact z_in (by omega) (by omega)
    · have h2 : ¬ nI 4 ≤ nI j := h2
      rw [z_le (by omega) (by omega)] at h2
      rw [if_pos (by omega)] at k9
      rw [z_cl (by omega), C.val (by omega)]; exact k9
  · rw [if_neg (by omega), if_pos (by omega)] at k9
    refine s_hasPlayer to C O ⟨fun h2 => ?_, fun h2 => ?_⟩
    · rw [isK_nI (by omega), decide_eq_false_iff_not] at h2
      rw [if_neg h2] at k9; exact k9
    · rw [isK_nI (by omega), decide_eq_true_eq] at h2
      rw [if_pos h2] at k9
      refine ⟨z_in (by omega) (by omega), ?_⟩
      rw [z_cl (by omega), (C.pl h2).1]; exact k9
  · rw [if_neg (by omega), if_neg (by omega), if_pos (by omega)] at k9
    refine s_hasPlayer to C O ⟨fun h2 => ?_, fun h2 => ?_⟩
    · rw [isK_nI (by omega), decide_eq_false_iff_not] at h2
      rw [if_neg h2] at k9; exact k9
    · rw [isK_nI (by omega), decide_eq_true_eq] at h2
      rw [if_pos h2] at k9
      obtain ⟨c1, c2⟩ := cellC_lt O (Or.inl ⟨rfl, h2⟩)
      refine ⟨z_in (by omega) (by omega), s_cellOfX (c := cellC r 9 j) to C O ?_ c1 k9⟩
      rw [z_cl (by omega), (C.pl h2).2, c2]
  · rw [if_neg (by omega), if_neg (by omega), if_neg (by omega), if_pos (by omega)] at k9
    refine s_hasPerson to C O ⟨fun h2 => ?_, fun h2 => ?_⟩
    · rw [isK_nI (by omega), decide_eq_false_iff_not] at h2
      rw [if_neg h2] at k9; exact k9
    · rw [isK_nI (by omega), decide_eq_true_eq] at h2
      rw [if_pos h2] at k9
      refine ⟨z_in (by omega) (by omega), ?_⟩
      rw [z_cl (by omega), (C.pe h2).1]; exact k9
  · rw [if_neg (by omega), if_neg (by omega), if_neg (by omega), if_neg (by omega), if_pos (by omega)] at k9
    refine s_hasPerson to C O ⟨fun h2 => ?_, fun h2 => ?_⟩
    · rw [isK_nI (by omega), decide_eq_false_iff_not] at h2
      rw [if_neg h2] at k9; exact k9
    · rw [isK_nI (by omega), decide_eq_true_eq] at h2
      rw [if_pos h2] at k9
      obtain ⟨c1, c2⟩ := cellC_lt O (Or.inr ⟨rfl, h2⟩)
      refine ⟨z_in (by omega) (by omega), s_cellOfX (c := cellC r 27 j) to C O ?_ c1 k9⟩
      rw [z_cl (by omega), (C.pe h2).2, c2]
theorem s_tellC {w : Int32} {K : Int32 → pm_I → pm_L → Prop} (to : TX0s kd mr o) (C : CC mi ml o r) (O : okC r) (k9 : K (cityF r w) mi ml) : wI l M_X0_tell (d + 2) [.ref o, .int w] kd mr mi ml K := by
  have hb := O.w
  rcases z_cases w with h | ⟨n, hn, rfl⟩
  · have e : cityF r w = -1 := by unfold cityF; rw [if_pos h]
    rw [e] at k9
    have ht : w.toInt < 0 := by rw [Int32.lt_iff_toInt_lt] at h; exact h
    refine w_X0_tell to ⟨fun _ => ⟨fun _ => ⟨fun h2 => ?_, fun _ => k9⟩, fun h2 => by omega, fun h2 => by omega, fun h2 => by omega, fun h2 => by omega, fun h2 => by omega⟩, fun h2 => absurd (z_ltm h (a := 100) (by omega)) h2⟩
    have h2 : nI 10 ≤ w := h2
    exact absurd (z_ltm h (a := 10) (by omega)) (Int32.not_lt.mpr h2)
  · rw [cityF_nI r hn] at k9
    refine w_X0_tell to ⟨fun h => ?_, fun h => ?_⟩
    · have h : nI n < nI 100 := h
      rw [z_lt hn (by omega)] at h
      rw [z_toInt hn]
      refine ⟨fun h2 => ⟨fun h3 => ?_, fun h3 => ?_⟩, fun h2 => ?_, fun h2 => ?_, fun h2 => ?_, fun h2 => ?_, fun h2 => ?_⟩
      · have h3 : nI 10 ≤ nI n := h3
        rw [z_le (by omega) hn] at h3
        rw [if_neg (by omega), if_neg (by omega)] at k9
        have e1 : nI n / 10 = nI (n / 10) := z_div (b := 10) (by omega) (by omega)
        have e2 : nI n - nI n / 10 * 10 = nI (n % 10) := z_rem (b := 10) (by omega) (by omega)
        rw [e2, e1]
        exact s_tellOne to C O rfl rfl (by omega) (by omega) k9
      · have h3 : ¬ nI 10 ≤ nI n := h3
        rw [z_le (by omega) hn] at h3
        rw [if_neg (by omega), if_neg (by omega), if_neg (by omega), if_neg (by omega), if_neg (by omega), if_neg (by omega), if_neg (by omega)] at k9
        exact k9
      · have : n = 0 := by omega
        subst this; rw [C.1]; exact k9
      · have : n = 1 := by omega
        subst this; rw [C.2.1]; exact k9
      · have : n = 2 := by omega
        subst this; rw [C.2.2.1]; exact k9
      · have : n = 3 := by omega
        subst this; rw [C.2.2.2.1]; exact k9
      · have : n = 4 := by omega
        subst this; rw [C.2.2.2.2.1]; exact k9
    · have h : ¬ nI n < nI 100 := h
      rw [z_lt hn (by omega)] at h
      rw [if_neg (by omega), if_pos (by omega)] at k9
      have e : nI n - 100 = nI (n - 100) := z_sub (b := 100) (by omega)
      rw [e]
      refine s_spotOf to C O (fun h2 => ⟨fun h3 => absurd rfl h3, fun _ => ?_⟩) (fun c hc he => ⟨fun _ => ?_, fun h3 => ?_⟩)
      · rw [isK_nI (by omega), decide_eq_false_iff_not] at h2
        rw [if_neg h2] at k9; exact k9
      · rw [z_eq (by omega) (by omega)] at he
        subst he
        obtain ⟨-, -, h64⟩ := spC_in O hc
        refine s_hasX rfl h64 ?_
        rw [C.wall h64, wl_spot O hc]
        rw [if_pos hc] at k9
        have : decide (wlC r (n - 100) = true) = wlC r (n - 100) := by cases wlC r (n - 100) <;> rfl
        rw [this]; exact k9
      · obtain ⟨-, -, h64⟩ := spC_in O hc
        exact absurd h3 (z_eq1 (by omega))
theorem s_inR {x : Int32} {a b : Nat} {u v : Int32} {K : Bool → pm_I → pm_L → Prop} (hu : u = nI a) (hv : v = nI b) (ha : a < 2147483648) (hb : b < 2147483648) (k0 : x < 0 → K false mi ml) (k1 : ∀ n, n < 2147483648 → x = nI n → K (decide (a ≤ n ∧ n ≤ b)) mi ml) : wB l M_X12_in d [.int x, .int u, .int v] kd mr mi ml K := by
  subst hu; subst hv
  refine w_X12_in ?_
  rcases z_cases x with h | ⟨n, hn, rfl⟩
  · have : (!decide (x < nI a) && !decide (nI b < x)) = false := by simp [z_ltm h ha]
    rw [this]; exact k0 h
  · have e : (!decide (nI n < nI a) && !decide (nI b < nI n)) = decide (a ≤ n ∧ n ≤ b) := by
      have q1 : (nI n < nI a) = (n < a) := z_lt hn ha
      have q2 : (nI b < nI n) = (b < n) := z_lt hb hn
      simp only [q1, q2]
      by_cases h1 : n < a
      · have : ¬ a ≤ n := by omega
        simp [*]
      · by_cases h2 : b < n
        · have : ¬ n ≤ b := by omega
          simp [*]
        · have : a ≤ n ∧ n ≤ b := by omega
          simp [*]
    rw [e]; exact k1 n hn rfl
theorem t_cityZ {w : Int32} {K : Int32 → pm_I → pm_L → Prop} (tz : TX12s kd mr z) (H : Hd mi z k r) (O : okC r) (k9 : K (cityF r w) mi ml) :
    (((w / 10).toInt < 1 ∨ 5 < (w / 10).toInt → wB l M_X12_in (d + 3) [.int w, .int 100, .int (99 + (mi z 27))] kd mr mi ml (fun r6 mi7 ml8 => ((r6 = false → wB l M_X12_in (d + 3) [.int w, .int 0, .int 4] kd mr mi7 ml8 (fun r10 mi11 ml12 => ((r10 = false → K (-1) mi11 ml12) ∧ (r10 = true → wI l M_X12_of (d + 3) [.ref z, .int w] kd mr mi11 ml12 (fun r14 mi15 ml16 => K r14 mi15 ml16))))) ∧ (r6 = true → wB l M_X12_isWall (d + 3) [.ref z, .int (w - 100)] kd mr mi7 ml8 (fun r17 mi18 ml19 => K (b2i (decide (r17 = true))) mi18 ml19))))) ∧ ((w / 10).toInt = 1 → wB l M_X12_in (d + 3) [.int w, .int 10, .int 13] kd mr mi ml (fun r23 mi24 ml25 => ((r23 = false → K (-1) mi24 ml25) ∧ (r23 = true → wI l M_X12_of (d + 3) [.ref z, .int (5 + (w - w / 10 * 10))] kd mr mi24 ml25 (fun r27 mi28 ml29 => K r27 mi28 ml29))))) ∧ ((w / 10).toInt = 2 → wB l M_X12_isPlayer (d + 3) [.ref z, .int (w - w / 10 * 10)] kd mr mi ml (fun r30 mi31 ml32 => ((r30 = false → K (-1) mi31 ml32) ∧ (r30 = true → wI l M_X12_of (d + 3) [.ref z, .int (9 + (w - w / 10 * 10))] kd mr mi31 ml32 (fun r34 mi35 ml36 => K r34 mi35 ml36))))) ∧ ((w / 10).toInt = 3 → wB l M_X12_isPlayer (d + 3) [.ref z, .int (w - w / 10 * 10)] kd mr mi ml (fun r37 mi38 ml39 => ((r37 = false → K (-1) mi38 ml39) ∧ (r37 = true → wI l M_X12_cellOf (d + 3) [.ref z, .int 9, .int (w - w / 10 * 10)] kd mr mi38 ml39 (fun r41 mi42 ml43 => K r41 mi42 ml43))))) ∧ ((w / 10).toInt = 4 → wB l M_X12_isPerson (d + 3) [.ref z, .int (w - w / 10 * 10)] kd mr mi ml (fun r44 mi45 ml46 => ((r44 = false → K (-1) mi45 ml46) ∧ (r44 = true → wI l M_X12_of (d + 3) [.ref z, .int (27 + (w - w / 10 * 10))] kd mr mi45 ml46 (fun r48 mi49 ml50 => K r48 mi49 ml50))))) ∧ ((w / 10).toInt = 5 → wB l M_X12_isPerson (d + 3) [.ref z, .int (w - w / 10 * 10)] kd mr mi ml (fun r51 mi52 ml53 => ((r51 = false → K (-1) mi52 ml53) ∧ (r51 = true → wI l M_X12_cellOf (d + 3) [.ref z, .int 27, .int (w - w / 10 * 10)] kd mr mi52 ml53 (fun r55 mi56 ml57 => K r55 mi56 ml57)))))) := by
  have hb := O.w
  have h3 := O.2.2.2.2.1
  have h4 := O.2.2.2.2.2.1
  have e27 : mi z 27 = nI (cells r) := H.2.2.2.1
  have e99 : (99 : Int32) + mi z 27 = nI (99 + cells r) := by rw [e27]; exact nI_add 99 _
  rcases z_cases w with h | ⟨n, hn, rfl⟩
  · have e : cityF r w = -1 := by unfold cityF; rw [if_pos h]
    rw [e] at k9
    have h1 := z_divneg h
    refine ⟨fun _ => s_inR (a := 100) rfl e99 (by omega) (by omega) (fun _ => ⟨fun _ => s_inR (a := 0) (b := 4) rfl rfl (by omega) (by omega) (fun _ => ⟨fun _ => k9, fun g => (by cases g)⟩) (fun n hn e9 => absurd h (e9 ▸ nI_pos hn)), fun g => (by cases g)⟩) (fun n hn e9 => absurd h (e9 ▸ nI_pos hn)), fun g => by omega, fun g => by omega, fun g => by omega, fun g => by omega, fun g => by omega⟩
  · rw [cityF_nI r hn] at k9
    have e1 : nI n / 10 = nI (n / 10) := z_div (b := 10) (by omega) (by omega)
    have e2 : nI n - nI n / 10 * 10 = nI (n % 10) := z_rem (b := 10) (by omega) (by omega)
    have ea : ∀ a : Nat, nI a + nI (n % 10) = nI (a + n % 10) := fun a => nI_add a _
    rw [e2, e1, z_toInt (by omega)]
    refine ⟨fun g => s_inR (a := 100) rfl e99 (by omega) (by omega) (fun q => absurd q (nI_pos hn)) (fun n' hn' e9 => ?_), fun g => ?_, fun g => ?_, fun g => ?_, fun g => ?_, fun g => ?_⟩
    · rw [z_eq hn hn'] at e9
      subst e9
      refine ⟨fun q => s_inR (a := 0) (b := 4) rfl rfl (by omega) (by omega) (fun q => absurd q (nI_pos hn)) (fun n' hn' e9 => ?_), fun q => ?_⟩
      · rw [z_eq hn hn'] at e9
        subst e9
        rw [decide_eq_false_iff_not] at q
        refine ⟨fun q2 => ?_, fun q2 => ?_⟩
        · rw [decide_eq_false_iff_not] at q2
          rw [if_neg (by omega)] at k9
          by_cases q3 : 100 ≤ n
          · rw [if_pos q3, if_neg (by omega)] at k9; exact k9
          · rw [if_neg q3, if_neg (by omega), if_neg (by omega), if_neg (by omega), if_neg (by omega), if_neg (by omega)] at k9; exact k9
        · rw [decide_eq_true_eq] at q2
          rw [if_pos (by omega)] at k9
          exact s_of (a := n) tz H rfl (by omega) k9
      · rw [decide_eq_true_eq] at q
        rw [if_neg (by omega), if_pos (by omega), if_pos (by omega)] at k9
        have e : nI n - 100 = nI (n - 100) := z_sub (b := 100) (by omega)
        refine s_isWall tz H O e (by omega) ?_
        have : decide (wlC r (n - 100) = true) = wlC r (n - 100) := by cases wlC r (n - 100) <;> rfl
        rw [this]; exact k9
    · rw [if_neg (by omega), if_neg (by omega), if_pos (by omega)] at k9
      refine s_inR (a := 10) (b := 13) rfl rfl (by omega) (by omega) (fun q => absurd q (nI_pos hn)) (fun n' hn' e9 => ?_)
      rw [z_eq hn hn'] at e9
      subst e9
      refine ⟨fun q => ?_, fun q => ?_⟩
      · rw [decide_eq_false_iff_not] at q
        rw [if_neg (by omega)] at k9; exact k9
      · rw [decide_eq_true_eq] at q
        rw [if_pos (by omega)] at k9
        exact s_of (a := 5 + n % 10) tz H (ea 5) (by omega) k9
    · rw [if_neg (by omega), if_neg (by omega), if_neg (by omega), if_pos (by omega)] at k9
      refine s_isPlayer tz H O ⟨fun q => ?_, fun q => ?_⟩
      · rw [isK_nI (by omega), decide_eq_false_iff_not] at q
        rw [if_neg (by omega)] at k9; exact k9
      · rw [isK_nI (by omega), decide_eq_true_eq] at q
        rw [if_pos (by omega)] at k9
        exact s_of (a := 9 + n % 10) tz H (ea 9) (by omega) k9
    · rw [if_neg (by omega), if_neg (by omega), if_neg (by omega), if_neg (by omega), if_pos (by omega)] at k9
      refine s_isPlayer tz H O ⟨fun q => ?_, fun q => ?_⟩
      · rw [isK_nI (by omega), decide_eq_false_iff_not] at q
        rw [if_neg (by omega)] at k9; exact k9
      · rw [isK_nI (by omega), decide_eq_true_eq] at q
        rw [if_pos (by omega)] at k9
        exact s_cellOf (a := 9) tz H O rfl rfl (by omega) (by omega) k9
    · rw [if_neg (by omega), if_neg (by omega), if_neg (by omega), if_neg (by omega), if_neg (by omega), if_pos (by omega)] at k9
      refine s_isPerson tz H O ⟨fun q => ?_, fun q => ?_⟩
      · rw [isK_nI (by omega), decide_eq_false_iff_not] at q
        rw [if_neg (by omega)] at k9; exact k9
      · rw [isK_nI (by omega), decide_eq_true_eq] at q
        rw [if_pos (by omega)] at k9
        exact s_of (a := 27 + n % 10) tz H (ea 27) (by omega) k9
    · rw [if_neg (by omega), if_neg (by omega), if_neg (by omega), if_neg (by omega), if_neg (by omega), if_neg (by omega), if_pos (by omega)] at k9
      refine s_isPerson tz H O ⟨fun q => ?_, fun q => ?_⟩
      · rw [isK_nI (by omega), decide_eq_false_iff_not] at q
        rw [if_neg (by omega)] at k9; exact k9
      · rw [isK_nI (by omega), decide_eq_true_eq] at q
        rw [if_pos (by omega)] at k9
        exact s_cellOf (a := 27) tz H O rfl rfl (by omega) (by omega) k9
/-- a call that asks of a city: both sides' head -/
theorem p_city {a : Int32} {t : Nat} {KX : Option Nat → pm_I → pm_L → Prop} (tx : TX11s kd mr x) (I : IV x z mi ml)
    (k0 : (∃ m, tC mi ml (x + 1) z 0 m ∧ isK a m = false) → KX none mi ml)
    (k1 : ∀ m k, tC mi ml (x + 1) z 0 m → k < m → a = nI k → TX0s kd mr (x + 1 + 7 + 19 * k) → okC (fun j => mi (z + 6) (106 * 0 + 53 * k + j)) → CC mi ml (x + 1 + 7 + 19 * k) (fun j => mi (z + 6) (106 * 0 + 53 * k + j)) → KX (some (x + 1 + 7 + 19 * k)) mi ml) : wR l M_X9_cityAt (d + 1) [.ref (x + 1), .int a] kd mr mi ml KX := by
  obtain ⟨m, Im⟩ := I.2.1.2.1
  exact s_cityAt (TX11s_a0 tx) Im (fun h => k0 ⟨m, Im, h⟩) (fun k hk ha to => k1 m k Im hk ha to (Im.2.2.2 k hk).1 (Im.2.2.2 k hk).2)
/-- the reference's head, when the class has found a city -/
theorem p_handY {a : Int32} {m k : Nat} {mi1 : pm_I} {ml1 : pm_L} {K : Bool → pm_I → pm_L → Prop} (tz : TX12s kd mr z) (Im : tC mi ml T z 0 m) (hk : k < m) (ha : a = nI k) (h5 : mi1 (z + 5) = mi (z + 5)) (h6 : mi1 (z + 6) = mi (z + 6))
    (k1 : ∀ mi', frZ z mi1 mi' ml1 ml1 → (∀ b, b ≠ z → mi' b = mi1 b) → (∀ b, b < 25 ∨ 29 < b → mi' z b = mi1 z b) → Hd mi' z k (fun j => mi (z + 6) (106 * 0 + 53 * k + j)) → K true mi' ml1) : wB l M_X12_hand (d + 3) [.ref z, .int a] kd mr mi1 ml1 K := by
  have hm := Im.1
  refine s_hand tz (m := m) (by rw [h5]; exact Im.2.2.1) Im.1 (fun k hk => ?_) (fun h => ?_) (fun k' hk' ha' mi' g1 g2 g3 => ?_)
  · have := (Im.2.2.2 k hk).1
    rw [← row0] at this
    rw [h6]; exact this
  · rw [ha, isK_nI (by omega)] at h; simp at h; omega
  · have : k' = k := by rw [ha] at ha'; rw [z_eq (by omega) (by omega)] at ha'; omega
    subst this
    refine k1 mi' (fun b hb => ⟨g1 b (by omega), rfl⟩) g1 g2 ?_
    rw [h6, row0] at g3; exact g3
/-- and when it has not -/
theorem p_handN {a : Int32} {m : Nat} {mi1 : pm_I} {ml1 : pm_L} {K : Bool → pm_I → pm_L → Prop} (tz : TX12s kd mr z) (Im : tC mi ml T z 0 m) (h : isK a m = false) (h5 : mi1 (z + 5) = mi (z + 5)) (h6 : mi1 (z + 6) = mi (z + 6))
    (k0 : K false mi1 ml1) : wB l M_X12_hand (d + 3) [.ref z, .int a] kd mr mi1 ml1 K := by
  refine s_hand tz (m := m) (by rw [h5]; exact Im.2.2.1) Im.1 (fun k hk => ?_) (fun _ => k0) (fun k' hk' ha' mi' g1 g2 g3 => ?_)
  · have := (Im.2.2.2 k hk).1
    rw [← row0] at this
    rw [h6]; exact this
  · have hm := Im.1
    rw [ha', isK_nI (by omega)] at h; simp at h; omega
theorem c_city {a w : Int32} (tx : TX11s kd mr x) (tz : TX12s kd mr z) (I : IV x z mi ml) : wI l M_X11_city (d + 4) [.ref x, .int a, .int w] kd mr mi ml fun r mi1 ml1 => wI l M_X12_city (d + 4) [.ref z, .int a, .int w] kd mr mi1 ml1 fun r2 mi2 ml2 => r = r2 ∧ IV x z mi2 ml2 := by
  have e5 : pm_up mi z 0 (0 : Int32) (z + 5) = mi (z + 5) := pm_up_row _ _ (by omega)
  have e6 : pm_up mi z 0 (0 : Int32) (z + 6) = mi (z + 6) := pm_up_row _ _ (by omega)
  have f0 : frZ z mi (pm_up mi z 0 0) ml ml := frZ.upI (Or.inl rfl)
  refine w_X11_city tx (p_city (t := 0) tx I (fun ⟨m, Im, h⟩ => ⟨fun _ => ?_, fun b hb => (by cases hb)⟩) (fun m k Im hk ha to O C => ⟨fun h => (by cases h), fun b4 hb4 => ?_⟩))
  · exact w_X12_city tz (p_handN tz Im h e5 e6 ⟨fun g => (by cases g), fun _ => ⟨rfl, I.smZ f0⟩⟩)
  · cases hb4
    refine ⟨to, s_tellC to C O ?_⟩
    refine w_X12_city tz (p_handY tz Im hk ha e5 e6 fun mi' f g1 g2 H => ⟨fun _ => ?_, fun g => (by cases g)⟩)
    exact t_cityZ (K := fun r2 mi2 ml2 => cityF (fun j => mi (z + 6) (106 * 0 + 53 * k + j)) w = r2 ∧ IV x z mi2 ml2) tz H O ⟨rfl, I.smZ (f0.tr f)⟩
end CITY
