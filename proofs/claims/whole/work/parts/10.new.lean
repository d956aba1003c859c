/-! rules: Object.<init>, Math, arraycopy, new objects and arrays -/
theorem pm_wl_push {ad : Nat → Nat} {dA : Nat → ClassId} {kd : pm_K} {mi mi' : pm_I} {ml ml' : pm_L} {mr mr' : pm_R} {q : Nat × Nat} {a : Nat} (hr : ∀ k j b, mr k j = some b → b < kd.length)
    (h1 : ∀ k, k < kd.length → mi' k = mi k) (h2 : ∀ k, k < kd.length → ml' k = ml k) (h3 : ∀ k, k < kd.length → mr' k = mr k) :
    pm_wl (va_up ad kd.length a) dA (kd ++ [q]) mi' ml' mr' = pm_wl ad dA kd mi ml mr ++ [(a, pm_ce (va_up ad kd.length a) dA q mi' ml' mr' kd.length)] := by
  apply List.ext_getElem?
  intro i
  by_cases hi : i < kd.length
  · rw [List.getElem?_append_left (by rw [pm_len_wl]; exact hi)]
    have hk : kd[i]? = some kd[i] := List.getElem?_eq_getElem hi
    rw [pm_wl_at hk, pm_wl_at (by rw [List.getElem?_append_left hi]; exact hk)]
    have ea : va_up ad kd.length a i = ad i := by simp [va_up, Nat.ne_of_lt hi]
    have er : ∀ j, (mr i j).map (va_up ad kd.length a) = (mr i j).map ad := by
      intro j
      cases hm : mr i j with
      | none => rfl
      | some b => simp [va_up, Nat.ne_of_lt (hr _ _ _ hm)]
    have ev : ∀ tg j, pm_fv (va_up ad kd.length a) mi' ml' mr' i tg j = pm_fv ad mi ml mr i tg j := by
      intro tg j
      unfold pm_fv
      rw [h1 i hi, h2 i hi, h3 i hi]
      match tg with
      | 0 => rfl
      | 1 => rfl
      | _ + 2 =>
        show (match mr i j with | none => Value.null | some b => .ref (va_up ad kd.length a b)) = match mr i j with | none => Value.null | some b => .ref (ad b)
        cases hm : mr i j with
        | none => rfl
        | some b => simp [va_up, Nat.ne_of_lt (hr _ _ _ hm)]
    congr 2
    unfold pm_ce pm_fs
    rw [h1 i hi, h2 i hi, h3 i hi]
    simp only [ev, er]
  · rw [List.getElem?_append_right (by rw [pm_len_wl]; omega)]
    rw [pm_len_wl]
    by_cases he : i = kd.length
    · subst he
      rw [pm_wl_at (q := q) (by simp)]
      simp [va_up]
    · rw [List.getElem?_eq_none (by rw [pm_len_wl]; simp; omega), List.getElem?_eq_none (by simp; omega)]
theorem pm_fit8 (x : Int32) : fits .byte (.int x.toInt8.toInt32) = true := by
  have h1 := Int8.le_toInt x.toInt8
  have h2 := Int8.toInt_le x.toInt8
  have h3 : Int8.maxValue.toInt = 127 := by decide
  have h4 : Int8.minValue.toInt = -128 := by decide
  have e : x.toInt8.toInt32.toInt = x.toInt8.toInt := Int8.toInt_toInt32 _
  unfold fits
  simp only [Bool.and_eq_true, decide_eq_true_eq, Int32.le_iff_toInt_le]
  rw [e]
  have a1 : ((-128 : Int32)).toInt = -128 := by decide
  have a2 : ((127 : Int32)).toInt = 127 := by decide
  rw [a1, a2]
  omega
section PMNEW
variable {l : Launch} {M : pm_M} {d mc ms pc : Nat} {L : List (Option Value)} {S : List Value} {cs ss : Nat} {kd : pm_K} {mi : pm_I} {ml : pm_L} {mr : pm_R} {Q : pm_Q}
theorem wp_objInit {i h : Nat} (hd : decode M.2.1 pc = .ok (.invokespecial i, 3)) (hw : Cond.methodLink M.1.cls i Lib.objectInit ∈ pm_tbl ∧ Cond.instanceMethod Lib.objectInit ∈ pm_tbl ∧ Cond.code Lib.objectInit ⟨#[0xb1]⟩ 1 none ∈ pm_tbl) (hdd : 0 < d) (hrest : pm_wd S ≤ 8) (k9 : wp l M d mc ms (pc + 3) L S cs ss kd mi ml mr Q) : wp l M d mc ms pc L (.ref h :: S) cs ss kd mi ml mr Q := by
  intro p e s m args below meth c H locs D dA ad sx A ls n0 ad0 C hn hL hS hW hF h1 h2
  have K := k9 p e s m args below meth c H locs D dA ad sx A ls n0 ad0 C hn hL (pm_st hS) hW hF h1 h2
  obtain ⟨e1, e2, e3, -, -, e6, e7, -⟩ := id C
  have hr9 : (List.map (fun v => v.category) (S.map (pm_cv ad sx))).sum ≤ 8 := by rw [pm_words]; exact hrest
  exact W.objInit e1 e2 e6 (e7 _ hw.1) (e7 _ hw.2.1) (e7 _ hw.2.2) rfl (by rw [e3]; exact hL.1.trans hn) rfl hd hdd (by
    show 2 * 0 + (List.map (fun v => v.category) (S.map (pm_cv ad sx))).sum + 12 ≤ 38 * d + 12
    omega) K
theorem wp_max {i : Nat} {x y : Int32} (hd : decode M.2.1 pc = .ok (.invokestatic i, 3)) (hw : Cond.methodLink M.1.cls i Lib.Math.max.name ∈ pm_tbl ∧ Cond.static Lib.Math.max.name ∈ pm_tbl ∧ Cond.initialized "java/lang/Math" ∈ pm_tbl ∧ Cond.code Lib.Math.max.name Lib.Math.max.code 2 (some .int) ∈ pm_tbl) (hdd : 0 < d) (hrest : pm_wd S ≤ 8) (hc : cs ≤ mc ∧ ss ≤ ms) (k9 : wp l M d mc ms (pc + 3) L (.int (if x < y then y else x) :: S) cs ss kd mi ml mr Q) : wp l M d mc ms pc L (.int y :: .int x :: S) cs ss kd mi ml mr Q := by
  intro p e s m args below meth c H locs D dA ad sx A ls n0 ad0 C hn hL hS hW hF h1 h2
  have K := k9 p e s m args below meth c H locs D dA ad sx A ls n0 ad0 C hn hL (pm_sc trivial (pm_st (pm_st hS))) hW hF h1 h2
  obtain ⟨e1, e2, e3, -, -, e6, e7, -⟩ := id C
  have hr9 : (List.map (fun v => v.category) (S.map (pm_cv ad sx))).sum ≤ 8 := by rw [pm_words]; exact hrest
  exact va_mmax (R := pm_room d mc ms) e1 e2 (e3.trans (hL.1.trans hn).symm) e6 (e7 _ hw.1) (e7 _ hw.2.1) (e7 _ hw.2.2.1) (e7 _ hw.2.2.2) hdd (by show _ + 13 ≤ 38 * d + 12; omega) hc.1 hc.2 hd K
theorem wp_min {i : Nat} {x y : Int32} (hd : decode M.2.1 pc = .ok (.invokestatic i, 3)) (hw : Cond.methodLink M.1.cls i Lib.Math.min.name ∈ pm_tbl ∧ Cond.static Lib.Math.min.name ∈ pm_tbl ∧ Cond.initialized "java/lang/Math" ∈ pm_tbl ∧ Cond.code Lib.Math.min.name Lib.Math.min.code 2 (some .int) ∈ pm_tbl) (hdd : 0 < d) (hrest : pm_wd S ≤ 8) (hc : cs ≤ mc ∧ ss ≤ ms) (k9 : wp l M d mc ms (pc + 3) L (.int (if y < x then y else x) :: S) cs ss kd mi ml mr Q) : wp l M d mc ms pc L (.int y :: .int x :: S) cs ss kd mi ml mr Q := by
  intro p e s m args below meth c H locs D dA ad sx A ls n0 ad0 C hn hL hS hW hF h1 h2
  have K := k9 p e s m args below meth c H locs D dA ad sx A ls n0 ad0 C hn hL (pm_sc trivial (pm_st (pm_st hS))) hW hF h1 h2
  obtain ⟨e1, e2, e3, -, -, e6, e7, -⟩ := id C
  have hr9 : (List.map (fun v => v.category) (S.map (pm_cv ad sx))).sum ≤ 8 := by rw [pm_words]; exact hrest
  exact va_mmin (R := pm_room d mc ms) e1 e2 (e3.trans (hL.1.trans hn).symm) e6 (e7 _ hw.1) (e7 _ hw.2.1) (e7 _ hw.2.2.1) (e7 _ hw.2.2.2) hdd (by show _ + 13 ≤ 38 * d + 12; omega) hc.1 hc.2 hd K
theorem wp_abs {i : Nat} {x : Int32} (hd : decode M.2.1 pc = .ok (.invokestatic i, 3)) (hw : Cond.methodLink M.1.cls i Lib.Math.abs.name ∈ pm_tbl ∧ Cond.static Lib.Math.abs.name ∈ pm_tbl ∧ Cond.initialized "java/lang/Math" ∈ pm_tbl ∧ Cond.code Lib.Math.abs.name Lib.Math.abs.code 1 (some .int) ∈ pm_tbl) (hdd : 0 < d) (hrest : pm_wd S ≤ 8) (hc : cs ≤ mc ∧ ss ≤ ms) (k9 : wp l M d mc ms (pc + 3) L (.int (if 0 ≤ x then x else 0 - x) :: S) cs ss kd mi ml mr Q) : wp l M d mc ms pc L (.int x :: S) cs ss kd mi ml mr Q := by
  intro p e s m args below meth c H locs D dA ad sx A ls n0 ad0 C hn hL hS hW hF h1 h2
  have K := k9 p e s m args below meth c H locs D dA ad sx A ls n0 ad0 C hn hL (pm_sc trivial (pm_st hS)) hW hF h1 h2
  obtain ⟨e1, e2, e3, -, -, e6, e7, -⟩ := id C
  have hr9 : (List.map (fun v => v.category) (S.map (pm_cv ad sx))).sum ≤ 8 := by rw [pm_words]; exact hrest
  exact va_mabs (R := pm_room d mc ms) e1 e2 (e3.trans (hL.1.trans hn).symm) e6 (e7 _ hw.1) (e7 _ hw.2.1) (e7 _ hw.2.2.1) (e7 _ hw.2.2.2) hdd (by show _ + 13 ≤ 38 * d + 12; omega) hc.1 hc.2 hd K
/-- System.arraycopy between two int rows or two byte rows -/
theorem wp_copy {i a b na nb t : Nat} {sp dp n : Int32} (hd : decode M.2.1 pc = .ok (.invokestatic i, 3)) (hw : Cond.methodLink M.1.cls i arraycopyName ∈ pm_tbl ∧ Cond.native arraycopyName ∈ pm_tbl ∧ Cond.static arraycopyName ∈ pm_tbl ∧ Cond.initialized "java/lang/System" ∈ pm_tbl) (hdd : 0 < d) (hrest : pm_wd S ≤ 4)
    (ht : t = 1 ∨ t = 3) (ha : kd[a]? = some (t, na)) (hb : kd[b]? = some (t, nb)) (g1 : ¬ sp < 0) (g2 : ¬ dp < 0) (g3 : ¬ n < 0) (g4 : sp.toNatClampNeg + n.toNatClampNeg ≤ na) (g5 : dp.toNatClampNeg + n.toNatClampNeg ≤ nb)
    (k9 : wp l M d mc ms (pc + 3) L S cs ss kd (pm_ur mi b (va_cpy (mi a) (mi b) sp.toNatClampNeg dp.toNatClampNeg n.toNatClampNeg)) ml mr Q) : wp l M d mc ms pc L (.int n :: .int dp :: .ref b :: .int sp :: .ref a :: S) cs ss kd mi ml mr Q := by
  intro p e s m args below meth c H locs D dA ad sx A ls n0 ad0 C hn hL hS hW hF h1 h2
  obtain ⟨e1, e2, e3, -, -, e6, e7, e8, -⟩ := id C
  have hr9 : (List.map (fun v => v.category) (S.map (pm_cv ad sx))).sum ≤ 4 := by rw [pm_words]; exact hrest
  have eset : ∀ e9, pm_ce ad dA (t, nb) (pm_ur mi b (va_cpy (mi a) (mi b) sp.toNatClampNeg dp.toNatClampNeg n.toNatClampNeg)) ml mr b = e9 → (pm_wl ad dA kd mi ml mr).set b (ad b, e9) = pm_wl ad dA kd (pm_ur mi b (va_cpy (mi a) (mi b) sp.toNatClampNeg dp.toNatClampNeg n.toNatClampNeg)) ml mr := by
    intro e9 he
    subst he
    exact pm_wl_set hb (fun k hk => pm_ur_k mi _ hk) (fun _ _ => rfl) (fun _ _ => rfl)
  have hbok : pm_bok kd (pm_ur mi b (va_cpy (mi a) (mi b) sp.toNatClampNeg dp.toNatClampNeg n.toNatClampNeg)) := by
    intro k n2 hk j
    by_cases hkb : k = b
    · subst hkb
      rw [pm_ur_s]
      rw [hb] at hk
      cases hk
      unfold va_cpy
      split
      · exact hW.2.2.2 a na ha _
      · exact hW.2.2.2 _ nb hb _
    · rw [pm_ur_k mi _ hkb]
      exact hW.2.2.2 k n2 hk j
  have hnf : (nativeFrameWords "java/lang/System" "arraycopy" 5 + 11) + 4 ≤ 38 := by decide
  have K : ∀ e9, pm_ce ad dA (t, nb) (pm_ur mi b (va_cpy (mi a) (mi b) sp.toNatClampNeg dp.toNatClampNeg n.toNatClampNeg)) ml mr b = e9 → ∀ (H1 : Heap) (locs1 : List Loc), va_P D pm_cl ((pm_wl ad dA kd mi ml mr).set b (ad b, e9)) H1 → va_D A ((pm_wl ad dA kd mi ml mr).set b (ad b, e9)) → va_S A s.heap H1 locs1 → W p l e (pm_room d mc ms) s m args below meth c H1 locs1 cs ss (MQ below (pm_Qc D dA sx A Q n0 ad0) args s mc ms A) (F0 m (pc + 3) ls (S.map (pm_cv ad sx))) := by
    intro e9 he H1 locs1 hP hD hS1
    rw [eset e9 he] at hP hD
    exact k9 p e s m args below meth c H1 locs1 D dA ad sx A ls n0 ad0 C hn hL (pm_st (pm_st (pm_st (pm_st (pm_st hS))))) ⟨hP, hD, hW.2.2.1, hbok⟩ hS1 h1 h2
  rcases ht with rfl | rfl
  · exact va_copyi e1 e2 (e3.trans (hL.1.trans hn).symm) e6 (e7 _ hw.1) (e7 _ hw.2.1) (e7 _ hw.2.2.1) (e7 _ hw.2.2.2) e8 hW.1 hW.2.1 hF a b 0 0 (pm_wl_at ha) (pm_wl_at hb) rfl rfl rfl g1 g2 g3 g4 g5 (fun _ _ => rfl) hdd (by show _ ≤ 38 * d + 12; omega) hd (K _ (by show Sum.inl (dA 1, nb, Sum.inl (pm_ur mi b _ b)) = _; rw [pm_ur_s]))
  · refine va_copyi e1 e2 (e3.trans (hL.1.trans hn).symm) e6 (e7 _ hw.1) (e7 _ hw.2.1) (e7 _ hw.2.2.1) (e7 _ hw.2.2.2) e8 hW.1 hW.2.1 hF a b 2 2 (pm_wl_at ha) (pm_wl_at hb) rfl rfl rfl g1 g2 g3 g4 g5 (fun q _ => ?_) hdd (by show _ ≤ 38 * d + 12; omega) hd (K _ (by show Sum.inl (dA 3, nb, Sum.inl (pm_ur mi b _ b)) = _; rw [pm_ur_s]))
    have := hW.2.2.2 a na ha (sp.toNatClampNeg + q)
    rw [← this]
    exact pm_fit8 _
theorem pm_K_same {D : va_G} {cl : List vw_C} {tys : List (ClassId × FieldType)} {s : State} {t : Nat} {cA cB : ClassId} {ty : FieldType} (h1 : va_K D cl tys s) (ht : tys[t]? = some (cA, ty)) (h2 : va_K D cl (tys ++ [(cB, ty)]) s) : cB = cA := by
  have a1 := (h1.2 t _ ht).2
  have a2 := (h2.2 tys.length (cB, ty) (by simp)).2
  unfold va_RA at a1 a2
  cases ty with
  | object C =>
    obtain ⟨_, _, -, -, -, e1⟩ := a1
    obtain ⟨_, _, -, -, -, e2⟩ := a2
    exact Option.some.inj (e2.symm.trans e1)
  | _ => exact Option.some.inj (a2.symm.trans a1)
theorem pm_LV.ext {ad ad' sx : Nat → Nat} {n n' : Nat} {ls : Array Slot} {L : List (Option Value)} (h : pm_LV ad sx n ls L) (hn : n ≤ n') (he : ∀ k, k < n → ad' k = ad k) : pm_LV ad' sx n' ls L :=
  ⟨h.1, h.2.1, fun i v hi => ⟨pm_vok_mono hn (h.2.2 i v hi).1, by rw [pm_cv_ext he (h.2.2 i v hi).1]; exact (h.2.2 i v hi).2⟩⟩
theorem pm_S_ext {ad ad' sx : Nat → Nat} {n : Nat} {S : List Value} (h : ∀ v ∈ S, pm_vok n v) (he : ∀ k, k < n → ad' k = ad k) : S.map (pm_cv ad sx) = S.map (pm_cv ad' sx) := List.map_congr_left fun v hv => (pm_cv_ext he (h v hv)).symm
theorem pm_up_lt {ad : Nat → Nat} {n a : Nat} : ∀ k, k < n → va_up ad n a k = ad k := fun k hk => by simp [va_up, Nat.ne_of_lt hk]
/-- the world with one cell more -/
theorem pm_WR_push {D : va_G} {dA : Nat → ClassId} {ad : Nat → Nat} {A : Nat → Prop} {kd : pm_K} {mi mi' : pm_I} {ml ml' : pm_L} {mr mr' : pm_R} {H H1 : Heap} {q : Nat × Nat} {a : Nat} {e9 : va_E} (hW : pm_WR D dA ad A kd mi ml mr H)
    (h1 : ∀ k, k < kd.length → mi' k = mi k) (h2 : ∀ k, k < kd.length → ml' k = ml k) (h3 : ∀ k, k < kd.length → mr' k = mr k) (h4 : ∀ k j b, mr' k j = some b → b < kd.length + 1) (h5 : q.1 = 3 → ∀ j, (mi' kd.length j).toInt8.toInt32 = mi' kd.length j)
    (he : pm_ce (va_up ad kd.length a) dA q mi' ml' mr' kd.length = e9) (hP : va_P D pm_cl (pm_wl ad dA kd mi ml mr ++ [(a, e9)]) H1) (hD : va_D A (pm_wl ad dA kd mi ml mr ++ [(a, e9)])) : pm_WR D dA (va_up ad kd.length a) A (kd ++ [q]) mi' ml' mr' H1 := by
  subst he
  rw [← pm_wl_push (a := a) (q := q) hW.2.2.1 h1 h2 h3] at hP hD
  refine ⟨hP, hD, fun k j b hb => by simpa using h4 k j b hb, fun k n hk j => ?_⟩
  by_cases hkl : k < kd.length
  · rw [List.getElem?_append_left hkl] at hk
    rw [h1 k hkl]
    exact hW.2.2.2 k n hk j
  · have : k < (kd ++ [q]).length := (List.getElem?_eq_some_iff.mp hk).1
    have hke : k = kd.length := by simp at this; omega
    subst hke
    simp at hk
    exact h5 (by rw [hk]) j
theorem wp_new {i ci : Nat} {C : String} {T : u_T} {mi' : pm_I} {ml' : pm_L} {mr' : pm_R} (hd : decode M.2.1 pc = .ok (.new i, 3)) (hc : pm_cl[ci]? = some (C, T, pm_N ci)) (hin : ∀ w ∈ u_ws C T (pm_N ci), w ∈ pm_tbl) (hty : ∀ k, k < pm_N ci → parseFieldDescriptor (T k).2.2.1 = some (pm_ty ci k)) (hw : Cond.classLink M.1.cls i C ∈ pm_tbl ∧ Cond.instantiable C (pm_N ci) ∈ pm_tbl ∧ Cond.initialized C ∈ pm_tbl)
    (hc1 : cs + 1 ≤ mc) (hs1 : ss + pm_N ci ≤ ms) (hdef : ∀ ad, (List.range (pm_N ci)).map (fun j => defaultValue (pm_ty ci j)) = pm_fs ad mi' ml' mr' kd.length ci) (h1 : ∀ k, k < kd.length → mi' k = mi k) (h2 : ∀ k, k < kd.length → ml' k = ml k) (h3 : ∀ k, k < kd.length → mr' k = mr k) (h4 : ∀ k, k = kd.length → mr' k = fun _ => none) (h5 : ∀ k, kd.length < k → mr' k = mr k)
    (k9 : wp l M d mc ms (pc + 3) L (.ref kd.length :: S) (cs + 1) (ss + pm_N ci) (kd ++ [(0, ci)]) mi' ml' mr' Q) : wp l M d mc ms pc L S cs ss kd mi ml mr Q := by
  intro p e s m args below meth c H locs D dA ad sx A ls n0 ad0 C9 hn hL hS hW hF g1 g2
  obtain ⟨e1, e2, e3, -, -, e6, e7, e8, -, e10, -⟩ := id C9
  refine va_new (ci := ci) (fs := (List.range (pm_N ci)).map (fun j => defaultValue (pm_ty ci j))) e1 e2 e7 hin (pm_ty ci) hty e6 (e7 _ hw.1) (e7 _ hw.2.1) (e7 _ hw.2.2) e8 hW.1 hW.2.1 hF e10 hc (fun j hj => by simp [vp_V, hj]) hc1 hs1 hd (fun a H1 hP hD hS1 => ?_)
  have h6 : ∀ k j b, mr' k j = some b → b < kd.length + 1 := by
    intro k j b hb
    rcases Nat.lt_trichotomy k kd.length with hk | hk | hk
    · rw [h3 k hk] at hb; exact Nat.lt_succ_of_lt (hW.2.2.1 _ _ _ hb)
    · rw [h4 k hk] at hb; cases hb
    · rw [h5 k hk] at hb; exact Nat.lt_succ_of_lt (hW.2.2.1 _ _ _ hb)
  have hW2 := pm_WR_push (q := (0, ci)) hW h1 h2 h3 h6 (fun z => by cases z) (by show Sum.inr (ci, pm_fs _ mi' ml' mr' kd.length ci) = _; rw [← hdef]) hP hD
  have K := k9 p e s m args below meth c H1 locs D dA (va_up ad kd.length a) sx A ls n0 ad0 C9 hn (by
    have := hL.ext (n' := (kd ++ [(0, ci)]).length) (by simp) (pm_up_lt (a := a)); exact this) (pm_sc (by show kd.length < (kd ++ [(0, ci)]).length; simp) (fun v hv => pm_vok_mono (by simp) (hS v hv))) hW2 hS1 (fun k hk => (pm_up_lt k (Nat.lt_of_lt_of_le hk g2)).trans (g1 k hk)) (by simp; omega)
  have ea : pm_cv (va_up ad kd.length a) sx (.ref kd.length) = .ref a := by simp [pm_cv, va_up]
  rw [List.map_cons, ea, ← pm_S_ext hS pm_up_lt] at K
  exact K
/-- an array of numbers: t is its kind -/
theorem wp_newa {i t N : Nat} {at9 : ArrayType} {n : Int32} {mi' : pm_I} {ml' : pm_L} (hd : decode M.2.1 pc = .ok (.newarray at9, 2)) (hat : (t, at9) ∈ [(1, ArrayType.int), (2, .long), (3, .byte), (4, .boolean)]) (hw : Cond.arrayClass (newarray.typeOf at9) ∈ pm_tbl) (hn1 : ¬ n < 0) (hN : n.toNatClampNeg = N) (hb : N ≤ 60000)
    (hc1 : cs + 1 ≤ mc) (hs1 : ss + N ≤ ms) (h1 : ∀ k, k < kd.length → mi' k = mi k) (h2 : ∀ k, k < kd.length → ml' k = ml k) (h3 : mi' kd.length = fun _ => 0) (h4 : ml' kd.length = fun _ => 0)
    (k9 : wp l M d mc ms (pc + 2) L (.ref kd.length :: S) (cs + 1) (ss + N) (kd ++ [(t, N)]) mi' ml' mr Q) : wp l M d mc ms pc L (.int n :: S) cs ss kd mi ml mr Q := by
  intro p e s m args below meth c H locs D dA ad sx A ls n0 ad0 C9 hn hL hS hW hF g1 g2
  obtain ⟨e1, e2, e3, -, -, e6, e7, e8, -, e10, -⟩ := id C9
  have fin : ∀ (a : Nat) (H1 : Heap) (e9 : va_E), pm_ce (va_up ad kd.length a) dA (t, N) mi' ml' mr kd.length = e9 → va_P D pm_cl (pm_wl ad dA kd mi ml mr ++ [(a, e9)]) H1 → va_D A (pm_wl ad dA kd mi ml mr ++ [(a, e9)]) → va_S A s.heap H1 locs → W p l e (pm_room d mc ms) s m args below meth c H1 locs (cs + 1) (ss + N) (MQ below (pm_Qc D dA sx A Q n0 ad0) args s mc ms A) (F0 m (pc + 2) ls (.ref a :: S.map (pm_cv ad sx))) := by
    intro a H1 e9 he hP hD hS1
    have hW2 := pm_WR_push (q := (t, N)) (mr' := mr) hW h1 h2 (fun _ _ => rfl) (fun k j b hb => Nat.lt_succ_of_lt (hW.2.2.1 _ _ _ hb)) (fun _ j => by rw [h3]; rfl) he hP hD
    have K := k9 p e s m args below meth c H1 locs D dA (va_up ad kd.length a) sx A ls n0 ad0 C9 hn (by
      have := hL.ext (n' := (kd ++ [(t, N)]).length) (by simp) (pm_up_lt (a := a)); exact this) (pm_sc (by show kd.length < (kd ++ [(t, N)]).length; simp) (fun v hv => pm_vok_mono (by simp) (pm_st hS v hv))) hW2 hS1 (fun k hk => (pm_up_lt k (Nat.lt_of_lt_of_le hk g2)).trans (g1 k hk)) (by simp; omega)
    have ea : pm_cv (va_up ad kd.length a) sx (.ref kd.length) = .ref a := by simp [pm_cv, va_up]
    rw [List.map_cons, ea, ← pm_S_ext (pm_st hS) pm_up_lt] at K
    exact K
  simp only [List.mem_cons, Prod.mk.injEq, List.not_mem_nil, or_false] at hat
  rcases hat with ⟨rfl, rfl⟩ | ⟨rfl, rfl⟩ | ⟨rfl, rfl⟩ | ⟨rfl, rfl⟩
  · refine va_newa (atype := .int) (ty := .int) (a0 := (N, .inl fun _ => 0)) (R := pm_room d mc ms) e1 e2 (e7 _ hw) rfl e8 hW.1 hW.2.1 hF e10 (fun cA => rfl) hn1 hN (by show N * 4 ≤ _; omega) hc1 hs1 hd (fun a cA H1 hK hP hD hS1 => ?_)
    have := pm_K_same e8 (t := 0) rfl hK
    subst this
    exact fin a H1 _ (by show Sum.inl (dA 1, N, Sum.inl (mi' kd.length)) = _; rw [h3]) hP hD hS1
  · refine va_newa (atype := .long) (ty := .long) (a0 := (N, .inr (.inl fun _ => 0))) (R := pm_room d mc ms) e1 e2 (e7 _ hw) rfl e8 hW.1 hW.2.1 hF e10 (fun cA => rfl) hn1 hN (by show N * 8 ≤ _; omega) hc1 hs1 hd (fun a cA H1 hK hP hD hS1 => ?_)
    have := pm_K_same e8 (t := 1) rfl hK
    subst this
    exact fin a H1 _ (by show Sum.inl (dA 2, N, Sum.inr (Sum.inl (ml' kd.length))) = _; rw [h4]) hP hD hS1
  · refine va_newa (atype := .byte) (ty := .byte) (a0 := (N, .inl fun _ => 0)) (R := pm_room d mc ms) e1 e2 (e7 _ hw) rfl e8 hW.1 hW.2.1 hF e10 (fun cA => rfl) hn1 hN (by show N * 1 ≤ _; omega) hc1 hs1 hd (fun a cA H1 hK hP hD hS1 => ?_)
    have := pm_K_same e8 (t := 2) rfl hK
    subst this
    exact fin a H1 _ (by show Sum.inl (dA 3, N, Sum.inl (mi' kd.length)) = _; rw [h3]) hP hD hS1
  · refine va_newa (atype := .boolean) (ty := .boolean) (a0 := (N, .inl fun _ => 0)) (R := pm_room d mc ms) e1 e2 (e7 _ hw) rfl e8 hW.1 hW.2.1 hF e10 (fun cA => rfl) hn1 hN (by show N * 1 ≤ _; omega) hc1 hs1 hd (fun a cA H1 hK hP hD hS1 => ?_)
    have := pm_K_same e8 (t := 3) rfl hK
    subst this
    exact fin a H1 _ (by show Sum.inl (dA 4, N, Sum.inl (mi' kd.length)) = _; rw [h3]) hP hD hS1
theorem wp_newq {i t N : Nat} {C : String} {n : Int32} {mr' : pm_R} (hd : decode M.2.1 pc = .ok (.anewarray i, 3)) (hat : (t, C) ∈ [(0, RX0), (1, RX6), (2, RX10), (3, RX9)]) (hw : Cond.classLink M.1.cls i C ∈ pm_tbl) (hn1 : ¬ n < 0) (hN : n.toNatClampNeg = N) (hb : N ≤ 60000)
    (hc1 : cs + 1 ≤ mc) (hs1 : ss + N ≤ ms) (h1 : ∀ k, k ≠ kd.length → mr' k = mr k) (h3 : mr' kd.length = fun _ => none)
    (k9 : wp l M d mc ms (pc + 3) L (.ref kd.length :: S) (cs + 1) (ss + N) (kd ++ [(5 + t, N)]) mi ml mr' Q) : wp l M d mc ms pc L (.int n :: S) cs ss kd mi ml mr Q := by
  intro p e s m args below meth c H locs D dA ad sx A ls n0 ad0 C9 hn hL hS hW hF g1 g2
  obtain ⟨e1, e2, e3, -, -, e6, e7, e8, -, e10, e11⟩ := id C9
  have hmem : C ∈ [RX0, RX6, RX10, RX9] := by
    simp only [List.mem_cons, Prod.mk.injEq, List.not_mem_nil, or_false] at hat ⊢
    rcases hat with ⟨-, h⟩ | ⟨-, h⟩ | ⟨-, h⟩ | ⟨-, h⟩ <;> simp [h]
  have hty : (pm_tys dA)[4 + t]? = some (dA (5 + t), .object C) := by
    simp only [List.mem_cons, Prod.mk.injEq, List.not_mem_nil, or_false] at hat
    rcases hat with ⟨rfl, rfl⟩ | ⟨rfl, rfl⟩ | ⟨rfl, rfl⟩ | ⟨rfl, rfl⟩ <;> rfl
  refine va_newq (R := pm_room d mc ms) e1 e2 e6 (e7 _ hw) (e11.2.2.2.2.2.1.1 C hmem) e8 hW.1 hW.2.1 hF e10 hn1 hN (by omega) hc1 hs1 hd (fun a cA H1 hK hP hD hS1 => ?_)
  have := pm_K_same e8 (t := 4 + t) hty hK
  subst this
  have h6 : ∀ k j b, mr' k j = some b → b < kd.length + 1 := by
    intro k j b hb
    by_cases hk : k = kd.length
    · subst hk; rw [h3] at hb; cases hb
    · rw [h1 k hk] at hb; exact Nat.lt_succ_of_lt (hW.2.2.1 _ _ _ hb)
  have hce : pm_ce (va_up ad kd.length a) dA (5 + t, N) mi ml mr' kd.length = .inl (dA (5 + t), N, .inr (.inr (.inr (.inr fun _ => none)))) := by
    rw [Nat.add_comm 5 t]
    show Sum.inl (dA (t + 5), N, Sum.inr (Sum.inr (Sum.inr (Sum.inr fun j => (mr' kd.length j).map _)))) = _
    rw [h3]; rfl
  have hW2 := pm_WR_push (q := (5 + t, N)) (mi' := mi) (ml' := ml) (mr' := mr') hW (fun _ _ => rfl) (fun _ _ => rfl) (fun k hk => h1 k (Nat.ne_of_lt hk)) h6 (fun z => by simp at z; omega) hce hP hD
  have K := k9 p e s m args below meth c H1 locs D dA (va_up ad kd.length a) sx A ls n0 ad0 C9 hn (by
    have := hL.ext (n' := (kd ++ [(5 + t, N)]).length) (by simp) (pm_up_lt (a := a)); exact this) (pm_sc (by show kd.length < (kd ++ [(5 + t, N)]).length; simp) (fun v hv => pm_vok_mono (by simp) (pm_st hS v hv))) hW2 hS1 (fun k hk => (pm_up_lt k (Nat.lt_of_lt_of_le hk g2)).trans (g1 k hk)) (by simp; omega)
  have ea : pm_cv (va_up ad kd.length a) sx (.ref kd.length) = .ref a := by simp [pm_cv, va_up]
  rw [List.map_cons, ea, ← pm_S_ext (pm_st hS) pm_up_lt] at K
  exact K
end PMNEW
