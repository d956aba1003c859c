/-! the constructor of Programme: its tables -/
def wyF (i : Nat) : Nat := (pgA.take i).foldl (fun m a => max m (a + 1)) 1
def dgF (w c : Nat) : Nat := pgC.getD w 0 / 5 ^ c % 5
def nwF (w c c' : Nat) : Nat := if c' = c then min 4 (dgF w c' + 1) else dgF w c' - 1
def cdF (w c : Nat) : Nat := 5 * (5 * (5 * (5 * 0 + nwF w c 3) + nwF w c 2) + nwF w c 1) + nwF w c 0
def ixC (code : Nat) : Nat := pgC.findIdx fun x => x == code
theorem pg_1 : ∀ i, i < 228 → pgA.getD i 0 ≤ wyF i ∧ wyF (i + 1) = (if pgA.getD i 0 = wyF i then wyF i + 1 else wyF i) ∧ wyF i ≤ 57 ∧ (pgA.getD i 0 = wyF i → wyF i < 57) := by decide +kernel
theorem pg_2 : ∀ w, w < 57 → w < wyF (4 * w) := by decide +kernel
theorem pg_3 : ∀ w, w < 57 → ∀ c, c < 4 → cdF w c = pgC.getD (pgA.getD (4 * w + c) 0) 0 := by decide +kernel
theorem pg_4 : wyF 228 = 57 ∧ wyF 0 = 1 := by decide +kernel
theorem pg_5 : ∀ a, a < 57 → ixC (pgC.getD a 0) = a ∧ pgC.getD a 0 < 625 := by decide +kernel
theorem pg_6 : ∀ code, code < 625 → ixC code < 57 → pgC.getD (ixC code) 0 = code := by decide +kernel
theorem pg_7 : ∀ d, d < 5 → (if (0 : Int32) < nI d - 1 then nI d - 1 else (0 : Int32)) = nI (d - 1) ∧ (if nI d + 1 < (4 : Int32) then nI d + 1 else (4 : Int32)) = nI (min 4 (d + 1)) := by decide +kernel
theorem pg_8 : ixC 0 = 0 ∧ pgC.getD 0 0 = 0 := by decide +kernel
def wRf (q : Nat) : Nat → Int32 := fun j => if j < 4 * q then nI (dgF (j / 4) (j % 4)) else 0
def aRf (i : Nat) : Nat → Int32 := fun j => if j < i then nI (pgA.getD j 0) else 0
def nRf (q : Nat) : Nat → Int32 := fun j => if j < 625 then (if ixC j < q then nI (ixC j) else -1) else 0
def pgW (mi : pm_I) (h n q i : Nat) (mi1 : pm_I) : Prop := (∀ a, a ≠ h → a ≠ n → a ≠ n + 1 → a ≠ n + 3 → mi1 a = mi a) ∧ (∀ j, j ≠ 3 → mi1 h j = mi h j) ∧ mi1 h 3 = nI q ∧ mi1 n = wRf q ∧ mi1 (n + 1) = aRf i ∧ mi1 (n + 3) = nRf q
def rX4 (mr : pm_R) (h n : Nat) : pm_R := pm_up (pm_up (pm_up mr h 0 (some n)) h 1 (some (n + 1))) h 2 (some (n + 2))
def iX4 (mi : pm_I) (h n : Nat) : pm_I := pm_ur (pm_ur (pm_ur (pm_up mi h 3 (nI 57)) n (wRf 57)) (n + 1) (aRf 228)) (n + 3) (nRf 57)
def kX4 : pm_K := [(1, 228)] ++ ([(1, 228)] ++ ([(1, 3705)] ++ ([(1, 625)])))
theorem rX4_ge {h n a : Nat} {mr : pm_R} (hlt : h < n) (ha : n + 4 ≤ a) : rX4 mr h n a = mr a := by
  unfold rX4; rw [pm_up_row _ _ (by omega), pm_up_row _ _ (by omega), pm_up_row _ _ (by omega)]
theorem rX4_lt {h n a : Nat} {mr : pm_R} (hlt : h < n) (ha : a < h) : rX4 mr h n a = mr a := by
  unfold rX4; rw [pm_up_row _ _ (by omega), pm_up_row _ _ (by omega), pm_up_row _ _ (by omega)]
theorem iX4_ge {h n a : Nat} {mi : pm_I} (hlt : h < n) (ha : n + 4 ≤ a) : iX4 mi h n a = mi a := by
  unfold iX4; rw [pm_ur_k _ _ (by omega), pm_ur_k _ _ (by omega), pm_ur_k _ _ (by omega), pm_up_row _ _ (by omega)]
theorem iX4_lt {h n a : Nat} {mi : pm_I} (hlt : h < n) (ha : a < h) : iX4 mi h n a = mi a := by
  unfold iX4; rw [pm_ur_k _ _ (by omega), pm_ur_k _ _ (by omega), pm_ur_k _ _ (by omega), pm_up_row _ _ (by omega)]
theorem z_X4 {h n : Nat} {mi : pm_I} {ml : pm_L} {mr : pm_R} (z : Zz n mi ml mr) (hlt : h < n) : Zz (n + 4) (iX4 mi h n) ml (rX4 mr h n) := by
  have z := z.mono (Nat.le_add_right n 4)
  intro k hk
  obtain ⟨e1, e2, e3⟩ := z k hk
  refine ⟨?_, e2, ?_⟩
  · rw [iX4_ge (by omega) (by omega)]; exact e1
  · rw [rX4_ge (by omega) (by omega)]; exact e3
section KCALL
variable {l : Launch} {M M' : pm_M} {d d' mc ms pc i n : Nat} {L : List (Option Value)} {S : List Value} {cs ss : Nat} {kd : pm_K} {mi : pm_I} {ml : pm_L} {mr : pm_R} {Q : pm_Q}
theorem k_callSV (As rest : List Value) (hd : decode M.2.1 pc = .ok (.invokestatic i, 3)) (hml : pm_ml M.1.cls i M' n) (hst : Cond.static M'.1 ∈ pm_tbl) (hS9 : S = As.reverse ++ rest) (hn9 : As.length = n) (hw : pm_wd As ≤ M'.2.2.1) (hrest : pm_wd rest ≤ 8) (hdd : d' < d) (hc : cs ≤ mc ∧ ss ≤ ms) (kc : wV l M' d' As kd mr mi ml (fun mi' ml' => wp l M d mc ms (pc + 3) L rest cs ss kd mi' ml' mr Q)) : wp l M d mc ms pc L S cs ss kd mi ml mr Q :=
  wp_callS hd hml hst hS9 hn9 hw hrest hdd (mc' := 0) (ms' := 0) hc kc (fun r kd' mi' ml' mr' ⟨e1, e2, e3, e4⟩ _ => by subst e1; subst e2; subst e3; exact e4)
theorem k_callVV (As rest : List Value) (hd : decode M.2.1 pc = .ok (.invokevirtual i, 3)) (hml : pm_ml M.1.cls i M' n) (hV : pm_mlV M') {b ci : Nat} (hkb : kd[b]? = some (0, ci)) (hcl : pm_cls M' ci) (hS9 : S = As.reverse ++ .ref b :: rest) (hn9 : As.length = n) (hw : pm_wd (.ref b :: As) ≤ M'.2.2.1) (hrest : pm_wd rest ≤ 8) (hdd : d' < d) (hc : cs ≤ mc ∧ ss ≤ ms) (kc : wV l M' d' (.ref b :: As) kd mr mi ml (fun mi' ml' => wp l M d mc ms (pc + 3) L rest cs ss kd mi' ml' mr Q)) : wp l M d mc ms pc L S cs ss kd mi ml mr Q :=
  wp_callV hd hml hV hkb hcl hS9 hn9 hw hrest hdd (mc' := 0) (ms' := 0) hc kc (fun r kd' mi' ml' mr' ⟨e1, e2, e3, e4⟩ _ => by subst e1; subst e2; subst e3; exact e4)
theorem k_callVI (As rest : List Value) (hd : decode M.2.1 pc = .ok (.invokevirtual i, 3)) (hml : pm_ml M.1.cls i M' n) (hV : pm_mlV M') {b ci : Nat} (hkb : kd[b]? = some (0, ci)) (hcl : pm_cls M' ci) (hS9 : S = As.reverse ++ .ref b :: rest) (hn9 : As.length = n) (hw : pm_wd (.ref b :: As) ≤ M'.2.2.1) (hrest : pm_wd rest ≤ 8) (hdd : d' < d) (hc : cs ≤ mc ∧ ss ≤ ms) (kc : wI l M' d' (.ref b :: As) kd mr mi ml (fun x mi' ml' => wp l M d mc ms (pc + 3) L (.int x :: rest) cs ss kd mi' ml' mr Q)) : wp l M d mc ms pc L S cs ss kd mi ml mr Q :=
  wp_callV hd hml hV hkb hcl hS9 hn9 hw hrest hdd (mc' := 0) (ms' := 0) hc kc (fun r kd' mi' ml' mr' ⟨x, e1, e2, e3, e4⟩ _ => by subst e1; subst e2; subst e3; exact e4)
end KCALL
section INIT4
variable {l : Launch} {d h n q i w c : Nat} {kd : pm_K} {mr : pm_R} {mi mi1 : pm_I} {ml : pm_L}
theorem dgF_5 (w c : Nat) : dgF w c < 5 := Nat.mod_lt _ (by decide)
theorem s_codeAfter {K : Int32 → pm_I → pm_L → Prop} (th : TX4s kd mr h) (R : ∀ j, j < 228 → j / 4 = w → mi1 (h + 1) j = nI (dgF (j / 4) (j % 4))) (hw : w < 57) (hc : c < 4) (k9 : K (nI (cdF w c)) mi1 ml) : wI l M_X4_codeAfter (d + 1) [.ref h, .int (nI w), .int (nI c)] kd mr mi1 ml K := by
  have step : ∀ (acc c' : Nat), c' < 4 → c_X4_codeAfter_5 l (d + 1) kd mr h (nI w) (nI c) (nI (5 * acc + nwF w c c')) (nI c' + (-1)) mi1 ml K → c_X4_codeAfter_5 l (d + 1) kd mr h (nI w) (nI c) (nI acc) (nI c') mi1 ml K := by
    intro acc c' hc' hk
    have e1 : nI w * 4 + nI c' = nI (4 * w + c') := by
      rw [show nI w * 4 = nI (w * 4) from z_mul w 4, nI_add, Nat.mul_comm]
    have ev : mi1 (h + 1) (4 * w + c') = nI (dgF w c') := by
      rw [R _ (by omega) (by omega), show (4 * w + c') / 4 = w by omega, show (4 * w + c') % 4 = c' by omega]
    have e5 : ∀ m, (5 : Int32) * nI acc + nI m = nI (5 * acc + m) := fun m => by rw [show (5 : Int32) * nI acc = nI (5 * acc) from z_mul 5 acc, nI_add]
    have ec : (nI c' = nI c) = (c' = c) := z_eq (by omega) (by omega)
    obtain ⟨g1, g2⟩ := pg_7 _ (dgF_5 w c')
    refine w_X4_codeAfter_5 th ⟨fun y => absurd y (nI_pos (by omega)), fun _ => ?_⟩
    rw [e1, z_cl (by omega), ev, ec, g1, g2]
    refine ⟨z_in (by omega) (by omega), fun hne => w_X4_codeAfter_48 th ?_, fun he => w_X4_codeAfter_48 th ?_⟩
    · rw [e5]
      have : nwF w c c' = dgF w c' - 1 := if_neg hne
      rw [this] at hk; exact hk
    · rw [e5]
      have : nwF w c c' = min 4 (dgF w c' + 1) := if_pos he
      rw [this] at hk; exact hk
  refine w_X4_codeAfter th (step 0 3 (by omega) ?_)
  rw [show nI 3 + (-1 : Int32) = nI 2 from rfl]
  refine step _ 2 (by omega) ?_
  rw [show nI 2 + (-1 : Int32) = nI 1 from rfl]
  refine step _ 1 (by omega) ?_
  rw [show nI 1 + (-1 : Int32) = nI 0 from rfl]
  refine step _ 0 (by omega) ?_
  rw [show nI 0 + (-1 : Int32) = -1 from rfl]
  exact w_X4_codeAfter_5 th ⟨fun _ => k9, fun y => absurd (by decide) y⟩
theorem s_addWay {K : pm_I → pm_L → Prop} (th : TX4s kd mr h) (hq : q < 57) (h3 : mi1 h 3 = nI q) (hr : mi1 (h + 1) = wRf q)
    (k9 : ∀ mi2, (∀ a, a ≠ h → a ≠ h + 1 → mi2 a = mi1 a) → (∀ j, j ≠ 3 → mi2 h j = mi1 h j) → mi2 h 3 = nI (q + 1) → mi2 (h + 1) = wRf (q + 1) → K mi2 ml) : wV l M_X4_addWay d [.ref h, .int (nI (pgC.getD q 0))] kd mr mi1 ml K := by
  have c625 := (pg_5 q hq).2
  have step : ∀ (c' : Nat) (mi2 : pm_I), c' < 4 → mi2 h 3 = nI q → c_X4_addWay_4 l d kd mr h (nI (pgC.getD q 0 / 5 ^ (c' + 1))) (nI (c' + 1)) (pm_up mi2 (h + 1) (4 * q + c') (nI (dgF q c'))) ml K → c_X4_addWay_4 l d kd mr h (nI (pgC.getD q 0 / 5 ^ c')) (nI c') mi2 ml K := by
    intro c' mi2 hc' h3 hk
    have b : pgC.getD q 0 / 5 ^ c' ≤ pgC.getD q 0 := Nat.div_le_self _ _
    refine w_X4_addWay_4 th ⟨fun y => absurd y (nI_ge (b := 4) (by omega) (by omega)), fun _ => ?_⟩
    have e1 : nI q * 4 + nI c' = nI (4 * q + c') := by
      rw [show nI q * 4 = nI (q * 4) from z_mul q 4, nI_add, Nat.mul_comm]
    have e2 : nI (pgC.getD q 0 / 5 ^ c') / 5 = nI (pgC.getD q 0 / 5 ^ (c' + 1)) := by
      rw [show nI (pgC.getD q 0 / 5 ^ c') / (5 : Int32) = nI (pgC.getD q 0 / 5 ^ c' / 5) from z_div (b := 5) (by omega) (by omega), Nat.div_div_eq_div_mul, ← Nat.pow_succ]
    have e3 : nI (pgC.getD q 0 / 5 ^ c') - nI (pgC.getD q 0 / 5 ^ c') / 5 * 5 = nI (dgF q c') := z_rem (b := 5) (by omega) (by omega)
    rw [h3, e1, e3, e2, z_cl (by omega), nI_1]
    exact ⟨z_in (by omega) (by omega), hk⟩
  have s0 := step 0 mi1 (by omega) h3
  rw [show pgC.getD q 0 / 5 ^ 0 = pgC.getD q 0 from Nat.div_one _] at s0
  refine w_X4_addWay th (s0 (step 1 _ (by omega) ?_ (step 2 _ (by omega) ?_ (step 3 _ (by omega) ?_ ?_))))
  · rw [pm_up_row _ _ (by omega)]; exact h3
  · rw [pm_up_row _ _ (by omega), pm_up_row _ _ (by omega)]; exact h3
  · rw [pm_up_row _ _ (by omega), pm_up_row _ _ (by omega), pm_up_row _ _ (by omega)]; exact h3
  · refine w_X4_addWay_4 th ⟨fun _ => ?_, fun y => absurd (by decide) y⟩
    have e3 : pm_up (pm_up (pm_up (pm_up mi1 (h + 1) (4 * q + 0) (nI (dgF q 0))) (h + 1) (4 * q + 1) (nI (dgF q 1))) (h + 1) (4 * q + 2) (nI (dgF q 2))) (h + 1) (4 * q + 3) (nI (dgF q 3)) h 3 = nI q := by
      rw [pm_up_row _ _ (by omega), pm_up_row _ _ (by omega), pm_up_row _ _ (by omega), pm_up_row _ _ (by omega)]; exact h3
    rw [e3, nI_1]
    refine k9 _ (fun a h1 h2 => ?_) (fun j hj => ?_) (pm_up_s _ _ _ _) ?_
    · rw [pm_up_row _ _ h1, pm_up_row _ _ h2, pm_up_row _ _ h2, pm_up_row _ _ h2, pm_up_row _ _ h2]
    · rw [pm_up_j _ _ hj, pm_up_row _ _ (by omega), pm_up_row _ _ (by omega), pm_up_row _ _ (by omega), pm_up_row _ _ (by omega)]
    · rw [pm_up_row _ _ (by omega)]
      funext j
      by_cases j3 : j = 4 * q + 3
      · subst j3
        rw [pm_up_s]
        unfold wRf
        rw [if_pos (by omega), show (4 * q + 3) / 4 = q by omega, show (4 * q + 3) % 4 = 3 by omega]
      · rw [pm_up_j _ _ j3]
        by_cases j2 : j = 4 * q + 2
        · subst j2
          rw [pm_up_s]
          unfold wRf
          rw [if_pos (by omega), show (4 * q + 2) / 4 = q by omega, show (4 * q + 2) % 4 = 2 by omega]
        · rw [pm_up_j _ _ j2]
          by_cases j1 : j = 4 * q + 1
          · subst j1
            rw [pm_up_s]
            unfold wRf
            rw [if_pos (by omega), show (4 * q + 1) / 4 = q by omega, show (4 * q + 1) % 4 = 1 by omega]
          · rw [pm_up_j _ _ j1]
            by_cases j0 : j = 4 * q
            · subst j0
              rw [show 4 * q + 0 = 4 * q from rfl, pm_up_s]
              unfold wRf
              rw [if_pos (by omega), show 4 * q / 4 = q by omega, show 4 * q % 4 = 0 by omega]
            · rw [show 4 * q + 0 = 4 * q from rfl, pm_up_j _ _ j0, hr]
              unfold wRf
              by_cases jl : j < 4 * q
              · rw [if_pos jl, if_pos (by omega)]
              · rw [if_neg jl, if_neg (by omega)]
set_option maxHeartbeats 4000000 in
theorem n_X4 (hh0 : kd[h]? = some (0, 4)) (hn0 : kd.length = n) (hlt : h < n) (z0 : Zz n mi ml mr) (he : n = h + 1) : wpc l M_X4_init (d + 3) 4 4786 [.ref h] kd mi ml mr (qN (kd ++ kX4) (iX4 mi h n) ml (rX4 mr h n)) := by
  show wp l M_X4_init (d + 3) 4 4786 0 [some (.ref h), none, none, none, none] [] 0 0 kd mi ml mr _
  refine wp_aload_n (pc := 0) dX4_init_0 rfl ?_
  refine wp_objInit (pc := 1) dX4_init_1 ⟨tb_2 140 rfl rfl, tb_1 29 rfl rfl, tb_1 30 rfl rfl⟩ (Nat.succ_pos _) (Nat.le_of_ble_eq_true rfl) ?_
  refine wp_aload_n (pc := 4) dX4_init_4 rfl ?_
  refine wp_sipush (v := 228) (pc := 5) dX4_init_5 (by decide) ?_
  refine wp_newa (i := 0) (pc := 8) (t := 1) (N := 228) (mi' := mi) (ml' := ml) dX4_init_8 (by simp) (tb_1 108 rfl rfl) (by decide) rfl (by decide) (Nat.le_of_ble_eq_true rfl) (Nat.le_of_ble_eq_true rfl) (fun _ _ => rfl) (fun _ _ => rfl) (z0 _ (Nat.le_of_eq hn0.symm)).1 (z0 _ (Nat.le_of_eq hn0.symm)).2.1 ?_
  rw [hn0]
  obtain ⟨kd1, hk1⟩ : ∃ k, k = kd ++ [(1, 228)] := ⟨_, rfl⟩
  rw [← hk1]
  have hn1 : kd1.length = n + 1 := by rw [hk1, List.length_append, hn0]; rfl
  have hh0_1 := k_at hk1 hh0
  have hc0 : kd1[n]? = some (1, 228) := by rw [hk1]; exact k_new hn0
  have z1 : Zz (n + 1) mi ml mr := z0.mono (by omega)
  refine wp_cs (cs' := 1) (ss' := 228) rfl rfl ?_
  refine wp_putR (pc := 10) dX4_init_10 fl_X4_11 rfl ⟨rfl, (RX4, TX4, 4), rfl, rfl, tb_2 158 rfl rfl⟩ hh0_1 ?_
  obtain ⟨mr1, hm1⟩ : ∃ m, m = pm_up mr h 0 (some n) := ⟨_, rfl⟩
  rw [← hm1]
  have z2 : Zz (n + 1) mi ml mr1 := by rw [hm1]; exact z1.upR (by omega)
  refine wp_aload_n (pc := 13) dX4_init_13 rfl ?_
  refine wp_sipush (v := 228) (pc := 14) dX4_init_14 (by decide) ?_
  refine wp_newa (i := 0) (pc := 17) (t := 1) (N := 228) (mi' := mi) (ml' := ml) dX4_init_17 (by simp) (tb_1 108 rfl rfl) (by decide) rfl (by decide) (Nat.le_of_ble_eq_true rfl) (Nat.le_of_ble_eq_true rfl) (fun _ _ => rfl) (fun _ _ => rfl) (z2 _ (Nat.le_of_eq hn1.symm)).1 (z2 _ (Nat.le_of_eq hn1.symm)).2.1 ?_
  rw [hn1]
  obtain ⟨kd2, hk2⟩ : ∃ k, k = kd1 ++ [(1, 228)] := ⟨_, rfl⟩
  rw [← hk2]
  have hn2 : kd2.length = n + 2 := by rw [hk2, List.length_append, hn1]; rfl
  have hh0_2 := k_at hk2 hh0_1
  have hc0_2 := k_at hk2 hc0
  have hc1 : kd2[n + 1]? = some (1, 228) := by rw [hk2]; exact k_new hn1
  have z3 : Zz (n + 2) mi ml mr1 := z2.mono (by omega)
  refine wp_cs (cs' := 2) (ss' := 456) rfl rfl ?_
  refine wp_putR (pc := 19) dX4_init_19 fl_X4_15 rfl ⟨rfl, (RX4, TX4, 4), rfl, rfl, tb_2 159 rfl rfl⟩ hh0_2 ?_
  obtain ⟨mr2, hm2⟩ : ∃ m, m = pm_up mr1 h 1 (some (n + 1)) := ⟨_, rfl⟩
  rw [← hm2]
  have z4 : Zz (n + 2) mi ml mr2 := by rw [hm2]; exact z3.upR (by omega)
  refine wp_aload_n (pc := 22) dX4_init_22 rfl ?_
  refine wp_sipush (v := 3705) (pc := 23) dX4_init_23 (by decide) ?_
  refine wp_newa (i := 0) (pc := 26) (t := 1) (N := 3705) (mi' := mi) (ml' := ml) dX4_init_26 (by simp) (tb_1 108 rfl rfl) (by decide) rfl (by decide) (Nat.le_of_ble_eq_true rfl) (Nat.le_of_ble_eq_true rfl) (fun _ _ => rfl) (fun _ _ => rfl) (z4 _ (Nat.le_of_eq hn2.symm)).1 (z4 _ (Nat.le_of_eq hn2.symm)).2.1 ?_
  rw [hn2]
  obtain ⟨kd3, hk3⟩ : ∃ k, k = kd2 ++ [(1, 3705)] := ⟨_, rfl⟩
  rw [← hk3]
  have hn3 : kd3.length = n + 3 := by rw [hk3, List.length_append, hn2]; rfl
  have hh0_3 := k_at hk3 hh0_2
  have hc0_3 := k_at hk3 hc0_2
  have hc1_3 := k_at hk3 hc1
  have hc2 : kd3[n + 2]? = some (1, 3705) := by rw [hk3]; exact k_new hn2
  have z5 : Zz (n + 3) mi ml mr2 := z4.mono (by omega)
  refine wp_cs (cs' := 3) (ss' := 4161) rfl rfl ?_
  refine wp_putR (pc := 28) dX4_init_28 fl_X4_18 rfl ⟨rfl, (RX4, TX4, 4), rfl, rfl, tb_2 160 rfl rfl⟩ hh0_3 ?_
  obtain ⟨mr3, hm3⟩ : ∃ m, m = pm_up mr2 h 2 (some (n + 2)) := ⟨_, rfl⟩
  rw [← hm3]
  have z6 : Zz (n + 3) mi ml mr3 := by rw [hm3]; exact z5.upR (by omega)
  refine wp_sipush (v := 625) (pc := 31) dX4_init_31 (by decide) ?_
  refine wp_newa (i := 0) (pc := 34) (t := 1) (N := 625) (mi' := mi) (ml' := ml) dX4_init_34 (by simp) (tb_1 108 rfl rfl) (by decide) rfl (by decide) (Nat.le_of_ble_eq_true rfl) (Nat.le_of_ble_eq_true rfl) (fun _ _ => rfl) (fun _ _ => rfl) (z6 _ (Nat.le_of_eq hn3.symm)).1 (z6 _ (Nat.le_of_eq hn3.symm)).2.1 ?_
  rw [hn3]
  obtain ⟨kd4, hk4⟩ : ∃ k, k = kd3 ++ [(1, 625)] := ⟨_, rfl⟩
  rw [← hk4]
  have hh0_4 := k_at hk4 hh0_3
  have hc0_4 := k_at hk4 hc0_3
  have hc1_4 := k_at hk4 hc1_3
  have hc2_4 := k_at hk4 hc2
  have hc3 : kd4[n + 3]? = some (1, 625) := by rw [hk4]; exact k_new hn3
  refine wp_cs (cs' := 4) (ss' := 4786) rfl rfl ?_
  have th : TX4s kd4 mr3 h := by
    subst he
    refine ⟨hh0_4, ?_, hc0_4, ?_, hc1_4, ?_, hc2_4⟩
    · rw [hm3, hm2, hm1, pm_up_j _ _ (by decide), pm_up_j _ _ (by decide), pm_up_s]
    · rw [hm3, hm2, pm_up_j _ _ (by decide), pm_up_s]
    · rw [hm3, pm_up_s]
  have eK : kd ++ kX4 = kd4 := by rw [hk4, hk3, hk2, hk1]; simp only [List.append_assoc]; rfl
  have eR : rX4 mr h n = mr3 := by rw [hm3, hm2, hm1]; rfl
  rw [eK, eR]
  -- rows are 0
  have m0 : mi n = fun _ => 0 := (z0 n (Nat.le_refl n)).1
  have m1 : mi (n + 1) = fun _ => 0 := (z0 (n + 1) (by omega)).1
  have m3 : mi (n + 3) = fun _ => 0 := (z0 (n + 3) (by omega)).1
  clear z1 z2 z3 z4 z5 z6 hm1 hm2 hm3 hk1 hk2 hk3 hk4 eK eR
  -- the way out
  have out : ∀ (mi2 : pm_I) (L : List (Option Value)), pgW mi h n 57 228 mi2 → wp l M_X4_init (d + 3) 4 4786 143 L [] 4 4786 kd4 mi2 ml mr3 (qN kd4 (iX4 mi h n) ml mr3) := by
    intro mi2 L W
    obtain ⟨w1, w2, w3, w4, w5, w6⟩ := W
    refine wp_vret (pc := 143) dX4_init_143 rfl ⟨rfl, rfl, ?_, rfl, rfl⟩
    funext a j
    unfold iX4
    by_cases a3 : a = n + 3
    · subst a3; rw [pm_ur_s, w6]
    · rw [pm_ur_k _ _ a3]
      by_cases a1 : a = n + 1
      · subst a1; rw [pm_ur_s, w5]
      · rw [pm_ur_k _ _ a1]
        by_cases a0 : a = n
        · subst a0; rw [pm_ur_s, w4]
        · rw [pm_ur_k _ _ a0]
          by_cases ah : a = h
          · subst ah
            by_cases j3 : j = 3
            · subst j3; rw [pm_up_s, w3]
            · rw [pm_up_j _ _ j3, w2 j j3]
          · rw [pm_up_row _ _ ah, w1 a ah a0 a1 a3]
  -- the inner loop
  have inner : ∀ (kk c w : Nat) (mi2 : pm_I) , c + kk = 4 → w < 57 → pgW mi h n (wyF (4 * w + c)) (4 * w + c) mi2 → (∀ mi3, pgW mi h n (wyF (4 * w + 4)) (4 * w + 4) mi3 → wp l M_X4_init (d + 3) 4 4786 53 [some (.ref h), some (.ref (n + 3)), some (.int (nI (w + 1))), none, none] [] 4 4786 kd4 mi3 ml mr3 (qN kd4 (iX4 mi h n) ml mr3)) → wp l M_X4_init (d + 3) 4 4786 69 [some (.ref h), some (.ref (n + 3)), some (.int (nI w)), some (.int (nI c)), none] [] 4 4786 kd4 mi2 ml mr3 (qN kd4 (iX4 mi h n) ml mr3) := by
    intro kk
    induction kk with
    | zero =>
      intro c w mi2 hc hw W K
      have : c = 4 := by omega
      subst this
      refine wp_iload_n (pc := 69) dX4_init_69 rfl ?_
      refine wp_iconst (v := 4) (pc := 70) dX4_init_70 (by decide) ?_
      refine wp_icmp_ge (tgt := 137) (pc := 71) dX4_init_71 (by decide) (fun _ => ?_) (fun y => absurd (by decide) y)
      refine wp_iinc (v := nI (w + 1)) (pc := 137) dX4_init_137 rfl (nI_1 w) rfl ?_
      show wp l M_X4_init (d + 3) 4 4786 140 [some (.ref h), some (.ref (n + 3)), some (.int (nI (w + 1))), some (.int (nI 4)), none] [] 4 4786 kd4 mi2 ml mr3 _
      refine wp_goto (tgt := 53) (pc := 140) dX4_init_140 (by decide) ?_
      exact wp_less (L' := [some (.ref h), some (.ref (n + 3)), some (.int (nI (w + 1))), none, none]) ⟨rfl, ⟨rfl, ⟨rfl, trivial⟩⟩⟩ (K mi2 W)
    | succ kk ih =>
      intro c w mi2 hc hw W K
      have hi : 4 * w + c < 228 := by omega
      obtain ⟨p1, p2, p3, p4⟩ := pg_1 (4 * w + c) hi
      obtain ⟨w1, w2, w3, w4, w5, w6⟩ := id W
      have wlt : w < wyF (4 * w + c) := by
        have g := pg_2 w hw
        have mono : ∀ j, j ≤ c → wyF (4 * w) ≤ wyF (4 * w + j) := by
          intro j
          induction j with
          | zero => intro _; exact Nat.le_refl _
          | succ j ihj =>
            intro hj
            have a1 := ihj (by omega)
            have a2 := (pg_1 (4 * w + j) (by omega)).2.1
            rw [show 4 * w + (j + 1) = 4 * w + j + 1 by omega, a2]
            split <;> omega
        have := mono c (Nat.le_refl c)
        omega
      have code : cdF w c = pgC.getD (pgA.getD (4 * w + c) 0) 0 := pg_3 w hw c (by omega)
      have a57 : pgA.getD (4 * w + c) 0 < 57 := by
        by_cases e : pgA.getD (4 * w + c) 0 = wyF (4 * w + c)
        · have := p4 e; omega
        · omega
      obtain ⟨ix, c625⟩ := pg_5 _ a57
      generalize hA : pgA.getD (4 * w + c) 0 = A at *
      generalize hq : wyF (4 * w + c) = q at *
      have clit : nI c + 1 = nI (c + 1) := nI_1 c
      refine wp_iload_n (pc := 69) dX4_init_69 rfl ?_
      refine wp_iconst (v := 4) (pc := 70) dX4_init_70 (by decide) ?_
      refine wp_icmp_ge (tgt := 137) (pc := 71) dX4_init_71 (by decide) (fun y => absurd y (nI_ge (b := 4) (by omega) (by omega))) (fun _ => ?_)
      refine wp_aload_n (pc := 74) dX4_init_74 rfl ?_
      refine wp_iload_n (pc := 75) dX4_init_75 rfl ?_
      refine wp_iload_n (pc := 76) dX4_init_76 rfl ?_
      refine k_callVI (d' := d + 1) [.int (nI w), .int (nI c)] [] (pc := 77) dX4_init_77 ml_X4_31 iv_X4_codeAfter th.1 ⟨_, rfl, rfl⟩ rfl rfl (Nat.le_of_ble_eq_true rfl) (Nat.le_of_ble_eq_true rfl) (by omega) ⟨Nat.le_refl _, Nat.le_refl _⟩ (s_codeAfter (w := w) (c := c) th (fun j hj hjw => ?_) hw (by omega) ?_)
      · rw [show h + 1 = n by omega, w4]
        unfold wRf
        rw [if_pos (by omega)]
      rw [code]
      refine wp_istore (pc := 80) dX4_init_80 (by show 4 < 5; decide) rfl ?_
      show wp l M_X4_init (d + 3) 4 4786 82 [some (.ref h), some (.ref (n + 3)), some (.int (nI w)), some (.int (nI c)), some (.int (nI (pgC.getD A 0)))] [] 4 4786 kd4 mi2 ml mr3 _
      refine wp_aload_n (pc := 82) dX4_init_82 rfl ?_
      refine wp_iload (pc := 83) dX4_init_83 rfl ?_
      refine wp_iald (pc := 85) dX4_init_85 hc3 (z_in c625 (by omega)) ?_
      rw [z_cl (by omega)]
      refine wp_iconst (v := -1) (pc := 86) dX4_init_86 (by decide) ?_
      -- behind the if: the number is A
      have behind : ∀ (mi3 : pm_I) (q' : Nat), A < q' → q' = wyF (4 * w + c + 1) → pgW mi h n q' (4 * w + c) mi3 → wp l M_X4_init (d + 3) 4 4786 113 [some (.ref h), some (.ref (n + 3)), some (.int (nI w)), some (.int (nI c)), some (.int (nI (pgC.getD A 0)))] [] 4 4786 kd4 mi3 ml mr3 (qN kd4 (iX4 mi h n) ml mr3) := by
        intro mi3 q' hAq hq' W3
        obtain ⟨v1, v2, v3, v4, v5, v6⟩ := id W3
        refine wp_aload_n (pc := 113) dX4_init_113 rfl ?_
        refine wp_getR (a := n + 1) (pc := 114) dX4_init_114 fl_X4_15 rfl th.1 (by rw [th.2.2.2.1]; congr 1; omega) ?_
        refine wp_iload_n (pc := 117) dX4_init_117 rfl ?_
        refine wp_iconst (v := 4) (pc := 118) dX4_init_118 (by decide) ?_
        refine wp_imul (pc := 119) dX4_init_119 ?_
        refine wp_iload_n (pc := 120) dX4_init_120 rfl ?_
        refine wp_iadd (pc := 121) dX4_init_121 ?_
        have e1 : nI w * 4 + nI c = nI (4 * w + c) := by
          rw [show nI w * 4 = nI (w * 4) from z_mul w 4, nI_add, Nat.mul_comm]
        rw [e1]
        refine wp_iconst (v := 0) (pc := 122) dX4_init_122 (by decide) ?_
        refine wp_aload_n (pc := 123) dX4_init_123 rfl ?_
        refine wp_iload (pc := 124) dX4_init_124 rfl ?_
        refine wp_iald (pc := 126) dX4_init_126 hc3 (z_in c625 (by omega)) ?_
        rw [z_cl (by omega)]
        have ev : mi3 (n + 3) (pgC.getD A 0) = nI A := by
          rw [v6]
          unfold nRf
          rw [if_pos c625, ix, if_pos hAq]
        rw [ev]
        refine wp_max (pc := 127) dX4_init_127 ⟨tb_2 151 rfl rfl, tb_2 152 rfl rfl, tb_1 14 rfl rfl, tb_2 153 rfl rfl⟩ (Nat.succ_pos _) (Nat.le_of_ble_eq_true rfl) ⟨Nat.le_refl _, Nat.le_refl _⟩ ?_
        have em : (if (0 : Int32) < nI A then nI A else 0) = nI A := by
          have lt : ((0 : Int32) < nI A) = (0 < A) := z_lt (a := 0) (by omega) (by omega)
          by_cases g : 0 < A
          · rw [if_pos (by rw [lt]; exact g)]
          · rw [if_neg (by rw [lt]; exact g), show A = 0 by omega]; rfl
        rw [em]
        refine wp_iast (pc := 130) dX4_init_130 hc1_4 (z_in hi (by omega)) ?_
        rw [z_cl (by omega)]
        refine wp_iinc (v := nI (c + 1)) (pc := 131) dX4_init_131 rfl clit rfl ?_
        show wp l M_X4_init (d + 3) 4 4786 134 [some (.ref h), some (.ref (n + 3)), some (.int (nI w)), some (.int (nI (c + 1))), some (.int (nI (pgC.getD A 0)))] [] 4 4786 kd4 _ ml mr3 _
        refine wp_goto (tgt := 69) (pc := 134) dX4_init_134 (by decide) ?_
        refine wp_less (L' := [some (.ref h), some (.ref (n + 3)), some (.int (nI w)), some (.int (nI (c + 1))), none]) ⟨rfl, ⟨rfl, ⟨rfl, ⟨rfl, trivial⟩⟩⟩⟩ ?_
        refine ih (c + 1) w _ (by omega) hw ?_ K
        rw [show 4 * w + (c + 1) = 4 * w + c + 1 by omega, ← hq']
        refine ⟨fun a g1 g2 g3 g4 => by rw [pm_up_row _ _ g3]; exact v1 a g1 g2 g3 g4, fun j hj => by rw [pm_up_row _ _ (by omega)]; exact v2 j hj, by rw [pm_up_row _ _ (by omega)]; exact v3, by rw [pm_up_row _ _ (by omega)]; exact v4, ?_, by rw [pm_up_row _ _ (by omega)]; exact v6⟩
        funext j
        by_cases e : j = 4 * w + c
        · subst e
          rw [pm_up_s]
          unfold aRf
          rw [if_pos (by omega), hA]
        · rw [pm_up_j _ _ e, v5]
          unfold aRf
          by_cases g : j < 4 * w + c
          · rw [if_pos g, if_pos (by omega)]
          · rw [if_neg g, if_neg (by omega)]
      have ev0 : mi2 (n + 3) (pgC.getD A 0) = if A < q then nI A else -1 := by
        rw [w6]
        unfold nRf
        rw [if_pos c625, ix]
      rw [ev0]
      by_cases hnew : A = q
      · -- a new way
        have hq57 := p4 hnew
        rw [if_neg (by omega)]
        rw [if_pos hnew] at p2
        refine wp_icmp_ne (tgt := 113) (pc := 87) dX4_init_87 (by decide) (fun y => absurd rfl y) (fun _ => ?_)
        refine wp_aload_n (pc := 90) dX4_init_90 rfl ?_
        refine wp_getI (pc := 91) dX4_init_91 fl_X4_27 rfl th.1 ?_
        rw [w3]
        refine wp_bipush (v := 57) (pc := 94) dX4_init_94 (by decide) ?_
        refine wp_icmp_ge (tgt := 113) (pc := 96) dX4_init_96 (by decide) (fun y => absurd y (nI_ge (b := 57) (by omega) (by omega))) (fun _ => ?_)
        refine wp_aload_n (pc := 99) dX4_init_99 rfl ?_
        refine wp_iload (pc := 100) dX4_init_100 rfl ?_
        refine wp_aload_n (pc := 102) dX4_init_102 rfl ?_
        refine wp_getI (pc := 103) dX4_init_103 fl_X4_27 rfl th.1 ?_
        rw [w3]
        refine wp_iast (pc := 106) dX4_init_106 hc3 (z_in c625 (by omega)) ?_
        rw [z_cl (by omega)]
        refine wp_aload_n (pc := 107) dX4_init_107 rfl ?_
        refine wp_iload (pc := 108) dX4_init_108 rfl ?_
        subst hnew
        refine k_callVV (d' := d) [.int (nI (pgC.getD A 0))] [] (pc := 110) dX4_init_110 ml_X4_35 iv_X4_addWay th.1 ⟨_, rfl, rfl⟩ rfl rfl (Nat.le_of_ble_eq_true rfl) (Nat.le_of_ble_eq_true rfl) (by omega) ⟨Nat.le_refl _, Nat.le_refl _⟩ (s_addWay (q := A) th hq57 ?_ ?_ fun mi3 g1 g2 g3 g4 => ?_)
        · rw [pm_up_row _ _ (by omega)]; exact w3
        · rw [show h + 1 = n by omega, pm_up_row _ _ (by omega)]; exact w4
        · refine behind mi3 (A + 1) (by omega) p2.symm ⟨fun a q1 q2 q3 q4 => ?_, fun j hj => ?_, g3, ?_, ?_, ?_⟩
          · rw [g1 a q1 (by omega), pm_up_row _ _ q4]; exact w1 a q1 q2 q3 q4
          · rw [g2 j hj, pm_up_row _ _ (by omega)]; exact w2 j hj
          · rw [show n = h + 1 by omega]; exact g4
          · rw [g1 _ (by omega) (by omega), pm_up_row _ _ (by omega)]; exact w5
          · rw [g1 _ (by omega) (by omega)]
            funext j
            by_cases e : j = pgC.getD A 0
            · subst e
              rw [pm_up_s]
              unfold nRf
              rw [if_pos c625, ix, if_pos (by omega)]
            · rw [pm_up_j _ _ e, w6]
              unfold nRf
              by_cases j6 : j < 625
              · rw [if_pos j6, if_pos j6]
                have ne : ixC j ≠ A := fun z => e (by rw [← z]; exact (pg_6 j j6 (by omega)).symm)
                by_cases g : ixC j < A
                · rw [if_pos g, if_pos (by omega)]
                · rw [if_neg g, if_neg (by omega)]
              · rw [if_neg j6, if_neg j6]
      · -- an old one
        have hAq : A < q := by omega
        rw [if_pos hAq]
        rw [if_neg hnew] at p2
        exact wp_icmp_ne (tgt := 113) (pc := 87) dX4_init_87 (by decide) (fun _ => behind mi2 q hAq p2.symm W) (fun y => absurd y (nI_m1' (by omega)))
  -- the outer loop
  have outer : ∀ (kk w : Nat) (mi2 : pm_I), w + kk = 57 → pgW mi h n (wyF (4 * w)) (4 * w) mi2 → wp l M_X4_init (d + 3) 4 4786 53 [some (.ref h), some (.ref (n + 3)), some (.int (nI w)), none, none] [] 4 4786 kd4 mi2 ml mr3 (qN kd4 (iX4 mi h n) ml mr3) := by
    intro kk
    induction kk with
    | zero =>
      intro w mi2 hw W
      have : w = 57 := by omega
      subst this
      have W : pgW mi h n (wyF 228) 228 mi2 := W
      rw [pg_4.1] at W
      refine wp_iload_n (pc := 53) dX4_init_53 rfl ?_
      refine wp_aload_n (pc := 54) dX4_init_54 rfl ?_
      refine wp_getI (pc := 55) dX4_init_55 fl_X4_27 rfl th.1 ?_
      rw [W.2.2.1]
      refine wp_icmp_ge (tgt := 143) (pc := 58) dX4_init_58 (by decide) (fun _ => out mi2 _ W) (fun y => absurd (nI_le (Nat.le_refl _) (by omega)) y)
    | succ kk ih =>
      intro w mi2 hw W
      have g := pg_2 w (by omega)
      have g57 := (pg_1 (4 * w) (by omega)).2.2.1
      refine wp_iload_n (pc := 53) dX4_init_53 rfl ?_
      refine wp_aload_n (pc := 54) dX4_init_54 rfl ?_
      refine wp_getI (pc := 55) dX4_init_55 fl_X4_27 rfl th.1 ?_
      rw [W.2.2.1]
      refine wp_icmp_ge (tgt := 143) (pc := 58) dX4_init_58 (by decide) (fun y => absurd y (nI_ge g (by omega))) (fun _ => ?_)
      refine wp_iload_n (pc := 61) dX4_init_61 rfl ?_
      refine wp_bipush (v := 57) (pc := 62) dX4_init_62 (by decide) ?_
      refine wp_icmp_ge (tgt := 143) (pc := 64) dX4_init_64 (by decide) (fun y => absurd y (nI_ge (b := 57) (by omega) (by omega))) (fun _ => ?_)
      refine wp_iconst (v := 0) (pc := 67) dX4_init_67 (by decide) ?_
      refine wp_istore_n (pc := 68) dX4_init_68 (by show 3 < 5; decide) rfl ?_
      show wp l M_X4_init (d + 3) 4 4786 69 [some (.ref h), some (.ref (n + 3)), some (.int (nI w)), some (.int (nI 0)), none] [] 4 4786 kd4 mi2 ml mr3 _
      exact inner 4 0 w mi2 (by omega) (by omega) W fun mi3 W3 => ih (w + 1) mi3 (by omega) W3
  -- the first rows
  refine wp_astore_n (pc := 36) dX4_init_36 (by show 1 < 5; decide) rfl ?_
  show wp l M_X4_init (d + 3) 4 4786 37 [some (.ref h), some (.ref (n + 3)), none, none, none] [] 4 4786 kd4 mi ml mr3 _
  refine wp_aload_n (pc := 37) dX4_init_37 rfl ?_
  refine wp_iconst (v := -1) (pc := 38) dX4_init_38 (by decide) ?_
  refine k_callSV (d' := d) [.ref (n + 3), .int (-1)] [] (pc := 39) dX4_init_39 ml_X4_21 st_J7_fill_53178 rfl rfl (Nat.le_of_ble_eq_true rfl) (Nat.le_of_ble_eq_true rfl) (by omega) ⟨Nat.le_refl _, Nat.le_refl _⟩ (s_fill hc3 (by omega) ?_)
  refine wp_aload_n (pc := 42) dX4_init_42 rfl ?_
  refine wp_iconst (v := 0) (pc := 43) dX4_init_43 (by decide) ?_
  refine wp_iconst (v := 0) (pc := 44) dX4_init_44 (by decide) ?_
  refine wp_iast (pc := 45) dX4_init_45 hc3 (z_in (a := 0) (by omega) (by omega)) ?_
  rw [show Int32.toNatClampNeg 0 = 0 from rfl]
  refine wp_aload_n (pc := 46) dX4_init_46 rfl ?_
  refine wp_iconst (v := 1) (pc := 47) dX4_init_47 (by decide) ?_
  refine wp_putI (pc := 48) dX4_init_48 fl_X4_27 rfl rfl th.1 ?_
  refine wp_iconst (v := 0) (pc := 51) dX4_init_51 (by decide) ?_
  refine wp_istore_n (pc := 52) dX4_init_52 (by show 2 < 5; decide) rfl ?_
  show wp l M_X4_init (d + 3) 4 4786 53 [some (.ref h), some (.ref (n + 3)), some (.int (nI 0)), none, none] [] 4 4786 kd4 _ ml mr3 _
  refine outer 57 0 _ (by omega) ?_
  rw [show 4 * 0 = 0 from rfl, pg_4.2]
  refine ⟨fun a g1 g2 g3 g4 => by rw [pm_up_row _ _ g1, pm_up_row _ _ g4, pm_ur_k _ _ g4], fun j hj => by rw [pm_up_j _ _ hj, pm_up_row _ _ (by omega), pm_ur_k _ _ (by omega)], pm_up_s _ _ _ _, ?_, ?_, ?_⟩
  · rw [pm_up_row _ _ (by omega), pm_up_row _ _ (by omega), pm_ur_k _ _ (by omega), m0]
    funext j
    unfold wRf
    by_cases g : j < 4
    · rw [if_pos (by omega)]
      have : ∀ j, j < 4 → nI (dgF (j / 4) (j % 4)) = 0 := by decide +kernel
      exact (this j g).symm
    · rw [if_neg (by omega)]
  · rw [pm_up_row _ _ (by omega), pm_up_row _ _ (by omega), pm_ur_k _ _ (by omega), m1]
    funext j
    unfold aRf
    rw [if_neg (Nat.not_lt_zero j)]
  · rw [pm_up_row _ _ (by omega)]
    funext j
    unfold nRf
    by_cases j0 : j = 0
    · subst j0
      rw [pm_up_s, if_pos (by omega), pg_8.1, if_pos (by omega)]; rfl
    · rw [pm_up_j _ _ j0, pm_ur_s, m3]
      by_cases j6 : j < 625
      · rw [if_pos j6, if_pos j6]
        have ne : ixC j ≠ 0 := fun z => j0 (by
          have := pg_6 j j6 (by omega)
          rw [z, pg_8.2] at this; exact this.symm)
        rw [if_neg (by omega)]
      · rw [if_neg j6, if_neg j6]
end INIT4
