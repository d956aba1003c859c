/-! rules: calls -/
theorem pm_goodT : pm_tbl.all goodWord = true := List.all_eq_true.mpr fun w hw => (List.mem_filter.mp hw).2
theorem pm_goodIn {M : pm_M} (hM : pm_okM M) : GoodIn pm_tbl (pm_ws M) := by
  intro w hw
  rcases List.mem_cons.mp hw with rfl | hw
  · exact ⟨hM.2.1, good_of_word (List.all_eq_true.mp pm_goodT _ hM.2.1)⟩
  · exact ⟨hw, good_of_word (List.all_eq_true.mp pm_goodT _ hw)⟩
theorem pm_lt {D : va_G} {dA : Nat → ClassId} {ad : Nat → Nat} {A : Nat → Prop} {kd : pm_K} {mi : pm_I} {ml : pm_L} {mr : pm_R} {H : Heap} (h : pm_WR D dA ad A kd mi ml mr H) {q : Nat} (hq : va_A (pm_wl ad dA kd mi ml mr) H.size q) (hA : ∀ q : Nat, H.size ≤ q → A q) : A q := by
  rcases hq with ⟨k, e, hk⟩ | hq
  · exact h.2.1.2 k _ hk
  · exact hA q hq
theorem pm_D {A : Nat → Prop} {ws : va_W} (h : va_D A ws) : va_D (fun _ => True) ws := h.weaken fun _ _ _ _ => trivial
theorem pm_len_wl {ad : Nat → Nat} {dA : Nat → ClassId} {kd : pm_K} {mi : pm_I} {ml : pm_L} {mr : pm_R} : (pm_wl ad dA kd mi ml mr).length = kd.length := by simp [pm_wl]
section PMC
variable {l : Launch} {M : pm_M} {d mc ms pc : Nat} {L : List (Option Value)} {S : List Value} {cs ss : Nat} {kd : pm_K} {mi : pm_I} {ml : pm_L} {mr : pm_R} {Q : pm_Q}
/-- behind a call -/
theorem pm_after {p : Program} {e : Env} {R : Room} {s : State} {m : MethodId} {args : Array Value} {below : List Frame} {meth : Method} {c : Code} {H : Heap} {locs : List Loc} {D : va_G} {dA : Nat → ClassId} {ad sx : Nat → Nat} {A : Nat → Prop} {ls : Array Slot} {n0 : Nat} {ad0 : Nat → Nat} {rest st0 : List Value} {Q' : pm_Q} {mc' ms' : Nat} {av : Array Value} {Qr : State → Prop}
    (hr : va_Run p l e R s m args below meth c H locs cs ss mc' ms' (F0 m pc ls st0) (rest.map (pm_cv ad sx)) (pm_Qc D dA sx (va_A (pm_wl ad dA kd mi ml mr) H.size) Q' kd.length ad av) (va_A (pm_wl ad dA kd mi ml mr) H.size))
    (hL : pm_LV ad sx kd.length ls L) (hS : ∀ v ∈ rest, pm_vok kd.length v) (hW : pm_WR D dA ad A kd mi ml mr H) (hF : va_S A s.heap H locs) (hA : ∀ q : Nat, s.heap.size ≤ q → A q) (h1 : ∀ k, k < n0 → ad k = ad0 k) (h2 : n0 ≤ kd.length)
    (kk : ∀ (r : Option Value) (kd' : pm_K) (mi' : pm_I) (ml' : pm_L) (mr' : pm_R) (ad' : Nat → Nat) (H1 : Heap) (locs1 : List Loc), Q' r kd' mi' ml' mr' → kd.length ≤ kd'.length → pm_LV ad' sx kd'.length ls L → (∀ v ∈ r.toList ++ rest, pm_vok kd'.length v) → pm_WR D dA ad' A kd' mi' ml' mr' H1 → va_S A s.heap H1 locs1 → (∀ k, k < n0 → ad' k = ad0 k) → n0 ≤ kd'.length →
      W p l e R s m args below meth c H1 locs1 (cs + mc') (ss + ms') Qr (F0 m (pc + 3) ls ((r.toList ++ rest).map (pm_cv ad' sx)))) : W p l e R s m args below meth c H locs cs ss Qr (F0 m pc ls st0) := by
  intro T hT X
  obtain ⟨v, st₀, t, T', Lc, h0, X', hLc, e1, e2, ⟨rv, kd', mi', ml', mr', ad', c1, c2, c3, c4, c5, c6, c7⟩, st⟩ := hr T hT X
  cases c1
  have hAH : ∀ q : Nat, H.size ≤ q → A q := fun q hq => hA q (Nat.le_trans hF.1 hq)
  obtain ⟨hz, hk⟩ := c7
  rw [h0] at hz hk
  have ext : ∀ v, pm_vok kd.length v → pm_cv ad' sx v = pm_cv ad sx v := fun v hv => pm_cv_ext c4 hv
  obtain ⟨t2, a1, b1⟩ := kk rv kd' mi' ml' mr' ad' T'.heap (locs ++ Lc) c2 c5 ⟨hL.1, hL.2.1, fun i v hi => ⟨pm_vok_mono c5 (hL.2.2 i v hi).1, by rw [ext v (hL.2.2 i v hi).1]; exact (hL.2.2 i v hi).2⟩⟩ (by
      intro v hv
      rcases List.mem_append.mp hv with hv | hv
      · exact c6 v (by simpa using hv)
      · exact pm_vok_mono c5 (hS v hv)) (by
      refine ⟨by rw [e1]; exact c3.1, c3.2.1.weaken fun k q hkq _ => ?_, c3.2.2⟩
      exact pm_lt hW (c3.2.1.2 k q hkq) hAH) ⟨Nat.le_trans hF.1 (by rw [e1]; exact hz), fun q g1 g2 => by
        rw [e1, hk q (Nat.lt_of_lt_of_le g1 hF.1) (fun z => g2 (pm_lt hW z hAH))]; exact hF.2.1 q g1 g2, fun q hq => by
        rcases List.mem_append.mp hq with h | h
        · exact hF.2.2 q h
        · exact pm_lt hW (hLc q h) hAH⟩ (fun k hk => (c4 k (Nat.lt_of_lt_of_le hk h2)).trans (h1 k hk)) (Nat.le_trans h2 c5) T' rfl X'
  refine ⟨t2, st t2 ?_, b1⟩
  have e9 : (Option.map (pm_cv ad' sx) rv).toList ++ List.map (pm_cv ad sx) rest = (rv.toList ++ rest).map (pm_cv ad' sx) := by
    rw [List.map_append]
    congr 1
    · cases rv <;> rfl
    · exact List.map_congr_left fun v hv => (ext v (hS v hv)).symm
  rw [e9]
  exact a1
/-- a place of the pool that names a method -/
def pm_ml (own : String) (idx : Nat) (M' : pm_M) (n : Nat) : Prop := pm_okM M' ∧ (parseMethodDescriptor M'.1.desc).map (fun d => d.parameters.length) = some n ∧ (Cond.methodLink own idx M'.1 ∈ pm_tbl ∨ ∃ host, Cond.methodLinkNest own idx M'.1 host ∈ pm_tbn)
def pm_mlV (M' : pm_M) : Prop := Cond.instanceMethod M'.1 ∈ pm_tbl ∧ Cond.selects M'.1.cls M'.1 M'.1 ∈ pm_tbl
theorem pm_words {As : List Value} {ad sx : Nat → Nat} : ((As.map (pm_cv ad sx)).map fun v => v.category).sum = pm_wd As := by
  unfold pm_wd
  rw [List.map_map]
  congr 1
  exact List.map_congr_left fun v _ => pm_cv_cat ad sx v
theorem pm_prePc {D : va_G} {dA : Nat → ClassId} {ad sx : Nat → Nat} {A : Nat → Prop} {kd : pm_K} {mi : pm_I} {ml : pm_L} {mr : pm_R} {H : Heap} {s : State} {locs : List Loc} (hW : pm_WR D dA ad A kd mi ml mr H) (hF : va_S A s.heap H locs) (hA : ∀ q : Nat, s.heap.size ≤ q → A q) (hK : va_K D pm_cl (pm_tys dA) s) (hE : pm_E sx A s s.heap) {U : State} (hU : U.heap = H) (hWm : s.WarmedH U.vm) : pm_pre D dA ad sx kd mi ml mr H.size U := by
  refine ⟨by rw [hU], by rw [hU]; exact hW.1, va_K.moved hWm.alike hK, pm_D hW.2.1, ?_⟩
  rw [hU]
  exact ((hE.kept hF.2.1).narrow fun q hq => pm_lt hW hq (fun q hq => hA q (Nat.le_trans hF.1 hq))).moved hWm
theorem wp_callS {M' : pm_M} {i d' mc' ms' n : Nat} {As rest : List Value} {Q' : pm_Q} (hd : decode M.2.1 pc = .ok (.invokestatic i, 3)) (hml : pm_ml M.1.cls i M' n) (hst : Cond.static M'.1 ∈ pm_tbl) (hS9 : S = As.reverse ++ rest) (hn9 : As.length = n) (hw : pm_wd As ≤ M'.2.2.1) (hrest : pm_wd rest ≤ 8) (hdd : d' < d) (hcs : cs + mc' ≤ mc ∧ ss + ms' ≤ ms)
    (kc : wpc l M' d' mc' ms' As kd mi ml mr Q') (kk : ∀ r kd' mi' ml' mr', Q' r kd' mi' ml' mr' → kd.length ≤ kd'.length → wp l M d mc ms (pc + 3) L (r.toList ++ rest) (cs + mc') (ss + ms') kd' mi' ml' mr' Q) : wp l M d mc ms pc L S cs ss kd mi ml mr Q := by
  intro p e s m args below meth c H locs D dA ad sx A ls n0 ad0 C hn hL hS hW hF h1 h2
  subst hS9
  obtain ⟨e1, e2, e3, e4, e5, e6, e7, e8, e9, e10, e11⟩ := id C
  obtain ⟨hok, hpar, hlink⟩ := hml
  have hvA : ∀ v ∈ As, pm_vok kd.length v := fun v hv => hS v (List.mem_append_left _ (List.mem_reverse.mpr hv))
  have hvR : ∀ v ∈ rest, pm_vok kd.length v := fun v hv => hS v (List.mem_append_right _ hv)
  have hroom : (pm_room d' mc' ms').frames + 1 ≤ (pm_room d mc ms).frames ∧ 8 + (M'.2.2.1 + 11) + (pm_room d' mc' ms').locals ≤ (pm_room d mc ms).locals := ⟨by show d' + 1 ≤ d; omega, by have := hok.2.2.2.2; show 8 + (M'.2.2.1 + 11) + (38 * d' + 12) ≤ 38 * d + 12; omega⟩
  have hsz : ls.size = M.2.2.1 := hL.1.trans hn
  have hmet := pm_met (D := D) (dA := dA) (ad := ad) (sx := sx) (sz := H.size) hok hw hvA hW.2.2.1 hW.2.2.2 kc
  have hpre : PreS s H (va_Pc (As.map (pm_cv ad sx)) (pm_pre D dA ad sx kd mi ml mr H.size)) (As.map (pm_cv ad sx)) := ⟨pm_blind, fun U hU hWm => ⟨rfl, pm_prePc hW hF e10 e8 e11 hU hWm⟩⟩
  have hstk : (F0 m pc ls (List.map (pm_cv ad sx) (As.reverse ++ rest))).stack = (As.map (pm_cv ad sx)).reverse ++ rest.map (pm_cv ad sx) := by simp
  have hcall : va_Run p l e (pm_room d mc ms) s m args below meth c H locs cs ss mc' ms' (F0 m pc ls (List.map (pm_cv ad sx) (As.reverse ++ rest))) (rest.map (pm_cv ad sx)) (pm_Qc D dA sx (va_A (pm_wl ad dA kd mi ml mr) H.size) Q' kd.length ad (As.map (pm_cv ad sx)).toArray) (va_A (pm_wl ad dA kd mi ml mr) H.size) := by
    rcases hlink with hlink | ⟨host, hlink⟩
    · exact va_runS (Ts := pm_tbl) ⟨e1, e2, e3, e6, e7⟩ hmet ⟨callB_of n e7 (pm_goodIn hok) rfl rfl rfl (e7 _ hok.2.2.1) (e7 _ hlink) ⟨hok.2.2.2.1.1, hok.2.2.2.1.2, hpar⟩ hroom, e7 _ hst⟩ hpre rfl (by simpa using hn9) hsz hstk (lv_room (by rw [pm_words]; exact hrest)) hd hcs
    · exact va_runSN (Ts := pm_tbl) ⟨e1, e2, e3, e6, e7⟩ hmet ⟨va_cnB n e7 (pm_goodIn hok) rfl rfl rfl (e11.2.2.2.2.2.2 _ hlink) (e7 _ hok.2.2.1) ⟨hok.2.2.2.1.1, hok.2.2.2.1.2, hpar⟩ hroom, e7 _ hst, trivial⟩ hpre rfl (by simpa using hn9) hsz hstk (lv_room (by rw [pm_words]; exact hrest)) hd hcs
  exact pm_after hcall hL hvR hW hF e10 h1 h2 (fun r kd' mi' ml' mr' ad' H1 locs1 q1 q2 q3 q4 q5 q6 q7 q8 => kk r kd' mi' ml' mr' q1 q2 p e s m args below meth c H1 locs1 D dA ad' sx A ls n0 ad0 C hn q3 q4 q5 q6 q7 q8)
theorem wp_callV {M' : pm_M} {i d' mc' ms' n : Nat} {As rest : List Value} {Q' : pm_Q} (hd : decode M.2.1 pc = .ok (.invokevirtual i, 3)) (hml : pm_ml M.1.cls i M' n) (hV : pm_mlV M') {b ci : Nat} (hkb : kd[b]? = some (0, ci)) (hcl : ∃ q, pm_cl[ci]? = some q ∧ q.1 = M'.1.cls) (hS9 : S = As.reverse ++ .ref b :: rest) (hn9 : As.length = n) (hw : pm_wd (.ref b :: As) ≤ M'.2.2.1) (hrest : pm_wd rest ≤ 8) (hdd : d' < d) (hcs : cs + mc' ≤ mc ∧ ss + ms' ≤ ms)
    (kc : wpc l M' d' mc' ms' (.ref b :: As) kd mi ml mr Q') (kk : ∀ r kd' mi' ml' mr', Q' r kd' mi' ml' mr' → kd.length ≤ kd'.length → wp l M d mc ms (pc + 3) L (r.toList ++ rest) (cs + mc') (ss + ms') kd' mi' ml' mr' Q) : wp l M d mc ms pc L S cs ss kd mi ml mr Q := by
  intro p e s m args below meth c H locs D dA ad sx A ls n0 ad0 C hn hL hS hW hF h1 h2
  subst hS9
  obtain ⟨e1, e2, e3, e4, e5, e6, e7, e8, e9, e10, e11⟩ := id C
  obtain ⟨hok, hpar, hlink⟩ := hml
  have hvA : ∀ v ∈ Value.ref b :: As, pm_vok kd.length v := by
    intro v hv
    rcases List.mem_cons.mp hv with rfl | hv
    · exact hS _ (List.mem_append_right _ List.mem_cons_self)
    · exact hS v (List.mem_append_left _ (List.mem_reverse.mpr hv))
  have hvR : ∀ v ∈ rest, pm_vok kd.length v := fun v hv => hS v (List.mem_append_right _ (List.mem_cons_of_mem _ hv))
  have hroom : (pm_room d' mc' ms').frames + 1 ≤ (pm_room d mc ms).frames ∧ 8 + (M'.2.2.1 + 11) + (pm_room d' mc' ms').locals ≤ (pm_room d mc ms).locals := ⟨by show d' + 1 ≤ d; omega, by have := hok.2.2.2.2; show 8 + (M'.2.2.1 + 11) + (38 * d' + 12) ≤ 38 * d + 12; omega⟩
  have hsz : ls.size = M.2.2.1 := hL.1.trans hn
  have hmet := pm_met (D := D) (dA := dA) (ad := ad) (sx := sx) (sz := H.size) hok hw hvA hW.2.2.1 hW.2.2.2 kc
  obtain ⟨q9, hq9, hq8⟩ := hcl
  have hpre : PreV s H M'.1.cls (ad b) (va_Pc ((Value.ref b :: As).map (pm_cv ad sx)) (pm_pre D dA ad sx kd mi ml mr H.size)) (As.map (pm_cv ad sx)) := ⟨pm_blind, by rw [← hq8]; exact va_recv e8 hW.1 hq9 (pm_wl_at hkb), fun U hU hWm => ⟨rfl, pm_prePc hW hF e10 e8 e11 hU hWm⟩⟩
  have hstk : (F0 m pc ls (List.map (pm_cv ad sx) (As.reverse ++ .ref b :: rest))).stack = (As.map (pm_cv ad sx)).reverse ++ .ref (ad b) :: rest.map (pm_cv ad sx) := by simp [pm_cv]
  have hcall : va_Run p l e (pm_room d mc ms) s m args below meth c H locs cs ss mc' ms' (F0 m pc ls (List.map (pm_cv ad sx) (As.reverse ++ .ref b :: rest))) (rest.map (pm_cv ad sx)) (pm_Qc D dA sx (va_A (pm_wl ad dA kd mi ml mr) H.size) Q' kd.length ad (Value.ref (ad b) :: As.map (pm_cv ad sx)).toArray) (va_A (pm_wl ad dA kd mi ml mr) H.size) := by
    rcases hlink with hlink | ⟨host, hlink⟩
    · exact va_runV (Ts := pm_tbl) ⟨e1, e2, e3, e6, e7⟩ hmet ⟨callB_of n e7 (pm_goodIn hok) rfl rfl rfl (e7 _ hok.2.2.1) (e7 _ hlink) ⟨hok.2.2.2.1.1, hok.2.2.2.1.2, hpar⟩ hroom, e7 _ hV.1, e7 _ hV.2⟩ hpre rfl (by simpa using hn9) hsz hstk (lv_room (by rw [pm_words]; exact hrest)) hd hcs
    · exact va_runVN (C := M'.1.cls) (Ts := pm_tbl) ⟨e1, e2, e3, e6, e7⟩ hmet ⟨va_cnB n e7 (pm_goodIn hok) rfl rfl rfl (e11.2.2.2.2.2.2 _ hlink) (e7 _ hok.2.2.1) ⟨hok.2.2.2.1.1, hok.2.2.2.1.2, hpar⟩ hroom, e7 _ hV.1, e7 _ hV.2⟩ hpre rfl (by simpa using hn9) hsz hstk (lv_room (by rw [pm_words]; exact hrest)) hd hcs
  exact pm_after hcall hL hvR hW hF e10 h1 h2 (fun r kd' mi' ml' mr' ad' H1 locs1 q1 q2 q3 q4 q5 q6 q7 q8 => kk r kd' mi' ml' mr' q1 q2 p e s m args below meth c H1 locs1 D dA ad' sx A ls n0 ad0 C hn q3 q4 q5 q6 q7 q8)
theorem wp_callI {M' : pm_M} {i d' mc' ms' n : Nat} {As rest : List Value} {Q' : pm_Q} (hd : decode M.2.1 pc = .ok (.invokespecial i, 3)) (hml : pm_ml M.1.cls i M' n) (hV : Cond.instanceMethod M'.1 ∈ pm_tbl ∧ M'.1.name = "<init>" ∧ M'.2.2.2 = none) {b : Nat} (hS9 : S = As.reverse ++ .ref b :: rest) (hn9 : As.length = n) (hw : pm_wd (.ref b :: As) ≤ M'.2.2.1) (hrest : pm_wd rest ≤ 8) (hdd : d' < d) (hcs : cs + mc' ≤ mc ∧ ss + ms' ≤ ms)
    (kc : wpc l M' d' mc' ms' (.ref b :: As) kd mi ml mr Q') (kk : ∀ r kd' mi' ml' mr', Q' r kd' mi' ml' mr' → kd.length ≤ kd'.length → wp l M d mc ms (pc + 3) L (r.toList ++ rest) (cs + mc') (ss + ms') kd' mi' ml' mr' Q) : wp l M d mc ms pc L S cs ss kd mi ml mr Q := by
  intro p e s m args below meth c H locs D dA ad sx A ls n0 ad0 C hn hL hS hW hF h1 h2
  subst hS9
  obtain ⟨e1, e2, e3, e4, e5, e6, e7, e8, e9, e10, e11⟩ := id C
  obtain ⟨hok, hpar, hlink⟩ := hml
  have hvA : ∀ v ∈ Value.ref b :: As, pm_vok kd.length v := by
    intro v hv
    rcases List.mem_cons.mp hv with rfl | hv
    · exact hS _ (List.mem_append_right _ List.mem_cons_self)
    · exact hS v (List.mem_append_left _ (List.mem_reverse.mpr hv))
  have hvR : ∀ v ∈ rest, pm_vok kd.length v := fun v hv => hS v (List.mem_append_right _ (List.mem_cons_of_mem _ hv))
  have hroom : (pm_room d' mc' ms').frames + 1 ≤ (pm_room d mc ms).frames ∧ 8 + (M'.2.2.1 + 11) + (pm_room d' mc' ms').locals ≤ (pm_room d mc ms).locals := ⟨by show d' + 1 ≤ d; omega, by have := hok.2.2.2.2; show 8 + (M'.2.2.1 + 11) + (38 * d' + 12) ≤ 38 * d + 12; omega⟩
  have hsz : ls.size = M.2.2.1 := hL.1.trans hn
  have hmet := pm_met (D := D) (dA := dA) (ad := ad) (sx := sx) (sz := H.size) hok hw hvA hW.2.2.1 hW.2.2.2 kc
  have hpre : PreS s H (va_Pc ((Value.ref b :: As).map (pm_cv ad sx)) (pm_pre D dA ad sx kd mi ml mr H.size)) (.ref (ad b) :: As.map (pm_cv ad sx)) := ⟨pm_blind, fun U hU hWm => ⟨rfl, pm_prePc hW hF e10 e8 e11 hU hWm⟩⟩
  have hstk : (F0 m pc ls (List.map (pm_cv ad sx) (As.reverse ++ .ref b :: rest))).stack = (As.map (pm_cv ad sx)).reverse ++ .ref (ad b) :: rest.map (pm_cv ad sx) := by simp [pm_cv]
  have hcall : va_Run p l e (pm_room d mc ms) s m args below meth c H locs cs ss mc' ms' (F0 m pc ls (List.map (pm_cv ad sx) (As.reverse ++ .ref b :: rest))) (rest.map (pm_cv ad sx)) (pm_Qc D dA sx (va_A (pm_wl ad dA kd mi ml mr) H.size) Q' kd.length ad (Value.ref (ad b) :: As.map (pm_cv ad sx)).toArray) (va_A (pm_wl ad dA kd mi ml mr) H.size) := by
    rcases hlink with hlink | ⟨host, hlink⟩
    · exact va_runI (Ts := pm_tbl) ⟨e1, e2, e3, e6, e7⟩ hmet ⟨callB_of n e7 (pm_goodIn hok) (by unfold pm_ws; rw [hV.2.2]) rfl rfl (e7 _ hok.2.2.1) (e7 _ hlink) ⟨hok.2.2.2.1.1, hok.2.2.2.1.2, hpar⟩ hroom, hV.2.1, e7 _ hV.1⟩ hpre rfl (by simpa using hn9) hsz hstk (lv_room (by rw [pm_words]; exact hrest)) hd hcs
    · exact va_runIN (Ts := pm_tbl) ⟨e1, e2, e3, e6, e7⟩ hmet ⟨va_cnB n e7 (pm_goodIn hok) (by unfold pm_ws; rw [hV.2.2]) rfl rfl (e11.2.2.2.2.2.2 _ hlink) (e7 _ hok.2.2.1) ⟨hok.2.2.2.1.1, hok.2.2.2.1.2, hpar⟩ hroom, hV.2.1, e7 _ hV.1⟩ hpre rfl (by simpa using hn9) hsz hstk (lv_room (by rw [pm_words]; exact hrest)) hd hcs
  exact pm_after hcall hL hvR hW hF e10 h1 h2 (fun r kd' mi' ml' mr' ad' H1 locs1 q1 q2 q3 q4 q5 q6 q7 q8 => kk r kd' mi' ml' mr' q1 q2 p e s m args below meth c H1 locs1 D dA ad' sx A ls n0 ad0 C hn q3 q4 q5 q6 q7 q8)
theorem wp_callX {M' : pm_M} {i d' mc' ms' n : Nat} {As rest : List Value} {Q' : pm_Q} (hd : decode M.2.1 pc = .ok (.invokevirtual i, 3)) (hml : pm_ml M.1.cls i M' n) (hV : pm_mlV M') {b : Nat} (hkb : b < 5) (hcl : M'.1.cls = "java/lang/String") (hS9 : S = As.reverse ++ .retAddr b :: rest) (hn9 : As.length = n) (hw : pm_wd (.retAddr b :: As) ≤ M'.2.2.1) (hrest : pm_wd rest ≤ 8) (hdd : d' < d) (hcs : cs + mc' ≤ mc ∧ ss + ms' ≤ ms)
    (kc : wpc l M' d' mc' ms' (.retAddr b :: As) kd mi ml mr Q') (kk : ∀ r kd' mi' ml' mr', Q' r kd' mi' ml' mr' → kd.length ≤ kd'.length → wp l M d mc ms (pc + 3) L (r.toList ++ rest) (cs + mc') (ss + ms') kd' mi' ml' mr' Q) : wp l M d mc ms pc L S cs ss kd mi ml mr Q := by
  intro p e s m args below meth c H locs D dA ad sx A ls n0 ad0 C hn hL hS hW hF h1 h2
  subst hS9
  obtain ⟨e1, e2, e3, e4, e5, e6, e7, e8, e9, e10, e11⟩ := id C
  obtain ⟨hok, hpar, hlink⟩ := hml
  have hvA : ∀ v ∈ Value.retAddr b :: As, pm_vok kd.length v := by
    intro v hv
    rcases List.mem_cons.mp hv with rfl | hv
    · exact hS _ (List.mem_append_right _ List.mem_cons_self)
    · exact hS v (List.mem_append_left _ (List.mem_reverse.mpr hv))
  have hvR : ∀ v ∈ rest, pm_vok kd.length v := fun v hv => hS v (List.mem_append_right _ (List.mem_cons_of_mem _ hv))
  have hroom : (pm_room d' mc' ms').frames + 1 ≤ (pm_room d mc ms).frames ∧ 8 + (M'.2.2.1 + 11) + (pm_room d' mc' ms').locals ≤ (pm_room d mc ms).locals := ⟨by show d' + 1 ≤ d; omega, by have := hok.2.2.2.2; show 8 + (M'.2.2.1 + 11) + (38 * d' + 12) ≤ 38 * d + 12; omega⟩
  have hsz : ls.size = M.2.2.1 := hL.1.trans hn
  have hmet := pm_met (D := D) (dA := dA) (ad := ad) (sx := sx) (sz := H.size) hok hw hvA hW.2.2.1 hW.2.2.2 kc
  have hpre : PreV s H M'.1.cls (sx b) (va_Pc ((Value.retAddr b :: As).map (pm_cv ad sx)) (pm_pre D dA ad sx kd mi ml mr H.size)) (As.map (pm_cv ad sx)) := ⟨pm_blind, by rw [hcl]; exact vk_recv e11.2.2.2.1 hkb hF, fun U hU hWm => ⟨rfl, pm_prePc hW hF e10 e8 e11 hU hWm⟩⟩
  have hstk : (F0 m pc ls (List.map (pm_cv ad sx) (As.reverse ++ .retAddr b :: rest))).stack = (As.map (pm_cv ad sx)).reverse ++ .ref (sx b) :: rest.map (pm_cv ad sx) := by simp [pm_cv]
  have hcall : va_Run p l e (pm_room d mc ms) s m args below meth c H locs cs ss mc' ms' (F0 m pc ls (List.map (pm_cv ad sx) (As.reverse ++ .retAddr b :: rest))) (rest.map (pm_cv ad sx)) (pm_Qc D dA sx (va_A (pm_wl ad dA kd mi ml mr) H.size) Q' kd.length ad (Value.ref (sx b) :: As.map (pm_cv ad sx)).toArray) (va_A (pm_wl ad dA kd mi ml mr) H.size) := by
    rcases hlink with hlink | ⟨host, hlink⟩
    · exact va_runV (Ts := pm_tbl) ⟨e1, e2, e3, e6, e7⟩ hmet ⟨callB_of n e7 (pm_goodIn hok) rfl rfl rfl (e7 _ hok.2.2.1) (e7 _ hlink) ⟨hok.2.2.2.1.1, hok.2.2.2.1.2, hpar⟩ hroom, e7 _ hV.1, e7 _ hV.2⟩ hpre rfl (by simpa using hn9) hsz hstk (lv_room (by rw [pm_words]; exact hrest)) hd hcs
    · exact va_runVN (C := M'.1.cls) (Ts := pm_tbl) ⟨e1, e2, e3, e6, e7⟩ hmet ⟨va_cnB n e7 (pm_goodIn hok) rfl rfl rfl (e11.2.2.2.2.2.2 _ hlink) (e7 _ hok.2.2.1) ⟨hok.2.2.2.1.1, hok.2.2.2.1.2, hpar⟩ hroom, e7 _ hV.1, e7 _ hV.2⟩ hpre rfl (by simpa using hn9) hsz hstk (lv_room (by rw [pm_words]; exact hrest)) hd hcs
  exact pm_after hcall hL hvR hW hF e10 h1 h2 (fun r kd' mi' ml' mr' ad' H1 locs1 q1 q2 q3 q4 q5 q6 q7 q8 => kk r kd' mi' ml' mr' q1 q2 p e s m args below meth c H1 locs1 D dA ad' sx A ls n0 ad0 C hn q3 q4 q5 q6 q7 q8)
end PMC
