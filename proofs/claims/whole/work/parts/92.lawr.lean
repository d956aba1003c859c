/-! the law's own walk: the same rules over the law's frame, whose script is a row outside of the world -/
abbrev M_L : pm_M := (yL_law, cL_law, 4, some .boolean)
def lw_X (N : Nat) (scr : Nat → Int32) (sx : Nat → Nat) (A : Nat → Prop) (args : Array Value) (s : State) : Prop := args = #[.ref (sx 8)] ∧ (A = fun q : Nat => s.heap.size ≤ q) ∧ va_X (sx 8) N scr s s.heap ∧ sx 8 < s.heap.size ∧ ∀ v ∈ args, v = .ref (sx 8)
/-- as pm_C, but for the name -/
def lw_C (M : pm_M) (p : Program) (s : State) (m : MethodId) (args : Array Value) (meth : Method) (c : Code) (D : va_G) (dA : Nat → ClassId) (sx : Nat → Nat) (A : Nat → Prop) : Prop :=
  p.tables.exec = Jvm.exec ∧ c.code = M.2.1 ∧ c.maxLocals = M.2.2.1 ∧ meth.sig.returnType = M.2.2.2 ∧ meth.locks = false ∧ s.vm.findClass M.1.cls = some m.cls ∧ (∀ w ∈ pm_tbl, w.before args s = true) ∧ va_K D pm_cl (pm_tys dA) s ∧ True ∧ (∀ q : Nat, s.heap.size ≤ q → A q) ∧ pm_E sx A s s.heap
def wq (l : Launch) (N : Nat) (scr : Nat → Int32) (pc : Nat) (L : List (Option Value)) (S : List Value) (cs ss : Nat) (kd : pm_K) (mi : pm_I) (ml : pm_L) (mr : pm_R) : Prop :=
  ∀ (p : Program) (e : Env) (s : State) (m : MethodId) (args : Array Value) (below : List Frame) (meth : Method) (c : Code) (H : Heap) (locs : List Loc) (D : va_G) (dA : Nat → ClassId) (ad sx : Nat → Nat) (A : Nat → Prop) (ls : Array Slot) (n0 : Nat) (ad0 : Nat → Nat),
    lw_C M_L p s m args meth c D dA sx A → L.length = M_L.2.2.1 → pm_LV ad sx kd.length ls L → (∀ v ∈ S, pm_vok kd.length v) → pm_WR D dA ad A kd mi ml mr H → va_S A s.heap H locs → (∀ k, k < n0 → ad k = ad0 k) → n0 ≤ kd.length → lw_X N scr sx A args s →
    W p l e (pm_room 14 600000 7302250) s m args below meth c H locs cs ss (lw_Z below args s) (F0 m pc ls (S.map (pm_cv ad sx)))
section LAWR
variable {l : Launch} {N : Nat} {scr : Nat → Int32} {pc : Nat} {L : List (Option Value)} {S : List Value} {cs ss : Nat} {kd : pm_K} {mi : pm_I} {ml : pm_L} {mr : pm_R}

theorem wq_iconst {n : Int} {v : Int32} (hd : decode M_L.2.1 pc = .ok (.iconst n, 1)) (hv : Int32.ofInt n = v) (k : wq l N scr (pc + 1) L (.int v :: S) cs ss kd mi ml mr) : wq l N scr pc L S cs ss kd mi ml mr := by
  intro p e s m args below meth c H locs D dA ad sx A ls n0 ad0 C hn hL hS hW hF h1 h2 X0
  exact lv_iconst C.1 C.2.1 hd hv (k p e s m args below meth c H locs D dA ad sx A ls n0 ad0 C hn hL (pm_sc trivial hS) hW hF h1 h2 X0)


theorem wq_bipush {n : Int} {v : Int32} (hd : decode M_L.2.1 pc = .ok (.bipush n, 2)) (hv : (Int8.ofInt n).toInt32 = v) (k : wq l N scr (pc + 2) L (.int v :: S) cs ss kd mi ml mr) : wq l N scr pc L S cs ss kd mi ml mr := by
  intro p e s m args below meth c H locs D dA ad sx A ls n0 ad0 C hn hL hS hW hF h1 h2 X0
  exact lv_bipush C.1 C.2.1 hd hv (k p e s m args below meth c H locs D dA ad sx A ls n0 ad0 C hn hL (pm_sc trivial hS) hW hF h1 h2 X0)


theorem wq_iload_n {k : Fin 4} {x : Int32} (hd : decode M_L.2.1 pc = .ok (.iload_n k, 1)) (hl : L[(k : Nat)]? = some (some (.int x))) (k : wq l N scr (pc + 1) L (.int x :: S) cs ss kd mi ml mr) : wq l N scr pc L S cs ss kd mi ml mr := by
  intro p e s m args below meth c H locs D dA ad sx A ls n0 ad0 C hn hL hS hW hF h1 h2 X0
  exact lv_iload_n C.1 C.2.1 hd rfl (hL.2.2 _ _ hl).2 (k p e s m args below meth c H locs D dA ad sx A ls n0 ad0 C hn hL (pm_sc trivial hS) hW hF h1 h2 X0)


theorem wq_aload_n {k : Fin 4} {x : Nat} (hd : decode M_L.2.1 pc = .ok (.aload_n k, 1)) (hl : L[(k : Nat)]? = some (some (.ref x))) (k : wq l N scr (pc + 1) L (.ref x :: S) cs ss kd mi ml mr) : wq l N scr pc L S cs ss kd mi ml mr := by
  intro p e s m args below meth c H locs D dA ad sx A ls n0 ad0 C hn hL hS hW hF h1 h2 X0
  exact lv_aload_n C.1 C.2.1 hd rfl (hL.2.2 _ _ hl).2 (k p e s m args below meth c H locs D dA ad sx A ls n0 ad0 C hn hL (pm_sc (hL.2.2 _ _ hl).1 hS) hW hF h1 h2 X0)


theorem wq_aload_nX {k : Fin 4} {x : Nat} (hd : decode M_L.2.1 pc = .ok (.aload_n k, 1)) (hl : L[(k : Nat)]? = some (some (.retAddr x))) (k : wq l N scr (pc + 1) L (.retAddr x :: S) cs ss kd mi ml mr) : wq l N scr pc L S cs ss kd mi ml mr := by
  intro p e s m args below meth c H locs D dA ad sx A ls n0 ad0 C hn hL hS hW hF h1 h2 X0
  exact lv_aload_n C.1 C.2.1 hd rfl (hL.2.2 _ _ hl).2 (k p e s m args below meth c H locs D dA ad sx A ls n0 ad0 C hn hL (pm_sc (hL.2.2 _ _ hl).1 hS) hW hF h1 h2 X0)


theorem wq_iadd {x y : Int32} (hd : decode M_L.2.1 pc = .ok (.iadd, 1)) (k : wq l N scr (pc + 1) L (.int (x + y) :: S) cs ss kd mi ml mr) : wq l N scr pc L (.int y :: .int x :: S) cs ss kd mi ml mr := by
  intro p e s m args below meth c H locs D dA ad sx A ls n0 ad0 C hn hL hS hW hF h1 h2 X0
  exact lv_iadd C.1 C.2.1 hd (k p e s m args below meth c H locs D dA ad sx A ls n0 ad0 C hn hL (pm_sc trivial (pm_st (pm_st hS))) hW hF h1 h2 X0)


theorem wq_isub {x y : Int32} (hd : decode M_L.2.1 pc = .ok (.isub, 1)) (k : wq l N scr (pc + 1) L (.int (x - y) :: S) cs ss kd mi ml mr) : wq l N scr pc L (.int y :: .int x :: S) cs ss kd mi ml mr := by
  intro p e s m args below meth c H locs D dA ad sx A ls n0 ad0 C hn hL hS hW hF h1 h2 X0
  exact lv_isub C.1 C.2.1 hd (k p e s m args below meth c H locs D dA ad sx A ls n0 ad0 C hn hL (pm_sc trivial (pm_st (pm_st hS))) hW hF h1 h2 X0)


theorem wq_iand {x y : Int32} (hd : decode M_L.2.1 pc = .ok (.iand, 1)) (k : wq l N scr (pc + 1) L (.int (x &&& y) :: S) cs ss kd mi ml mr) : wq l N scr pc L (.int y :: .int x :: S) cs ss kd mi ml mr := by
  intro p e s m args below meth c H locs D dA ad sx A ls n0 ad0 C hn hL hS hW hF h1 h2 X0
  exact lv_iand C.1 C.2.1 hd (k p e s m args below meth c H locs D dA ad sx A ls n0 ad0 C hn hL (pm_sc trivial (pm_st (pm_st hS))) hW hF h1 h2 X0)


theorem wq_dup {va : Value} (hd : decode M_L.2.1 pc = .ok (.dup, 1)) (hc : va.category = 1) (k : wq l N scr (pc + 1) L (va :: va :: S) cs ss kd mi ml mr) : wq l N scr pc L (va :: S) cs ss kd mi ml mr := by
  intro p e s m args below meth c H locs D dA ad sx A ls n0 ad0 C hn hL hS hW hF h1 h2 X0
  exact lv_dup C.1 C.2.1 hd (by rw [pm_cv_cat]; exact hc) (k p e s m args below meth c H locs D dA ad sx A ls n0 ad0 C hn hL (pm_sc (pm_sh hS) hS) hW hF h1 h2 X0)


theorem wq_goto {off : Int} {tgt : Nat} (hd : decode M_L.2.1 pc = .ok (.goto off, 3)) (ht : (pc : Int) + off = (tgt : Int)) (k : wq l N scr tgt L S cs ss kd mi ml mr) : wq l N scr pc L S cs ss kd mi ml mr := by
  intro p e s m args below meth c H locs D dA ad sx A ls n0 ad0 C hn hL hS hW hF h1 h2 X0
  exact lv_goto C.1 C.2.1 hd ht (k p e s m args below meth c H locs D dA ad sx A ls n0 ad0 C hn hL hS hW hF h1 h2 X0)


theorem wq_icmp_gt {x y : Int32} {off : Int} {tgt : Nat} (hd : decode M_L.2.1 pc = .ok (.if_icmp .gt off, 3)) (ht : (pc : Int) + off = (tgt : Int)) (kt : y < x → wq l N scr tgt L S cs ss kd mi ml mr) (kf : ¬ y < x → wq l N scr (pc + 3) L S cs ss kd mi ml mr) : wq l N scr pc L (.int y :: .int x :: S) cs ss kd mi ml mr := by
  intro p e s m args below meth c H locs D dA ad sx A ls n0 ad0 C hn hL hS hW hF h1 h2 X0
  exact lv_icmp_gt C.1 C.2.1 hd ht (fun z => kt z p e s m args below meth c H locs D dA ad sx A ls n0 ad0 C hn hL (pm_st (pm_st hS)) hW hF h1 h2 X0) (fun z => kf z p e s m args below meth c H locs D dA ad sx A ls n0 ad0 C hn hL (pm_st (pm_st hS)) hW hF h1 h2 X0)


theorem wq_icmp_eq {x y : Int32} {off : Int} {tgt : Nat} (hd : decode M_L.2.1 pc = .ok (.if_icmp .eq off, 3)) (ht : (pc : Int) + off = (tgt : Int)) (kt : x = y → wq l N scr tgt L S cs ss kd mi ml mr) (kf : ¬ x = y → wq l N scr (pc + 3) L S cs ss kd mi ml mr) : wq l N scr pc L (.int y :: .int x :: S) cs ss kd mi ml mr := by
  intro p e s m args below meth c H locs D dA ad sx A ls n0 ad0 C hn hL hS hW hF h1 h2 X0
  exact lv_icmp_eq C.1 C.2.1 hd ht (fun z => kt z p e s m args below meth c H locs D dA ad sx A ls n0 ad0 C hn hL (pm_st (pm_st hS)) hW hF h1 h2 X0) (fun z => kf z p e s m args below meth c H locs D dA ad sx A ls n0 ad0 C hn hL (pm_st (pm_st hS)) hW hF h1 h2 X0)


theorem wq_icmp_ne {x y : Int32} {off : Int} {tgt : Nat} (hd : decode M_L.2.1 pc = .ok (.if_icmp .ne off, 3)) (ht : (pc : Int) + off = (tgt : Int)) (kt : ¬ x = y → wq l N scr tgt L S cs ss kd mi ml mr) (kf : x = y → wq l N scr (pc + 3) L S cs ss kd mi ml mr) : wq l N scr pc L (.int y :: .int x :: S) cs ss kd mi ml mr := by
  intro p e s m args below meth c H locs D dA ad sx A ls n0 ad0 C hn hL hS hW hF h1 h2 X0
  exact lv_icmp_ne C.1 C.2.1 hd ht (fun z => kt z p e s m args below meth c H locs D dA ad sx A ls n0 ad0 C hn hL (pm_st (pm_st hS)) hW hF h1 h2 X0) (fun z => kf z p e s m args below meth c H locs D dA ad sx A ls n0 ad0 C hn hL (pm_st (pm_st hS)) hW hF h1 h2 X0)


theorem wq_icmp_lt {x y : Int32} {off : Int} {tgt : Nat} (hd : decode M_L.2.1 pc = .ok (.if_icmp .lt off, 3)) (ht : (pc : Int) + off = (tgt : Int)) (kt : x < y → wq l N scr tgt L S cs ss kd mi ml mr) (kf : ¬ x < y → wq l N scr (pc + 3) L S cs ss kd mi ml mr) : wq l N scr pc L (.int y :: .int x :: S) cs ss kd mi ml mr := by
  intro p e s m args below meth c H locs D dA ad sx A ls n0 ad0 C hn hL hS hW hF h1 h2 X0
  exact lv_icmp_lt C.1 C.2.1 hd ht (fun z => kt z p e s m args below meth c H locs D dA ad sx A ls n0 ad0 C hn hL (pm_st (pm_st hS)) hW hF h1 h2 X0) (fun z => kf z p e s m args below meth c H locs D dA ad sx A ls n0 ad0 C hn hL (pm_st (pm_st hS)) hW hF h1 h2 X0)


theorem wq_icmp_le {x y : Int32} {off : Int} {tgt : Nat} (hd : decode M_L.2.1 pc = .ok (.if_icmp .le off, 3)) (ht : (pc : Int) + off = (tgt : Int)) (kt : x ≤ y → wq l N scr tgt L S cs ss kd mi ml mr) (kf : ¬ x ≤ y → wq l N scr (pc + 3) L S cs ss kd mi ml mr) : wq l N scr pc L (.int y :: .int x :: S) cs ss kd mi ml mr := by
  intro p e s m args below meth c H locs D dA ad sx A ls n0 ad0 C hn hL hS hW hF h1 h2 X0
  exact lv_icmp_le C.1 C.2.1 hd ht (fun z => kt z p e s m args below meth c H locs D dA ad sx A ls n0 ad0 C hn hL (pm_st (pm_st hS)) hW hF h1 h2 X0) (fun z => kf z p e s m args below meth c H locs D dA ad sx A ls n0 ad0 C hn hL (pm_st (pm_st hS)) hW hF h1 h2 X0)


theorem wq_icmp_ge {x y : Int32} {off : Int} {tgt : Nat} (hd : decode M_L.2.1 pc = .ok (.if_icmp .ge off, 3)) (ht : (pc : Int) + off = (tgt : Int)) (kt : y ≤ x → wq l N scr tgt L S cs ss kd mi ml mr) (kf : ¬ y ≤ x → wq l N scr (pc + 3) L S cs ss kd mi ml mr) : wq l N scr pc L (.int y :: .int x :: S) cs ss kd mi ml mr := by
  intro p e s m args below meth c H locs D dA ad sx A ls n0 ad0 C hn hL hS hW hF h1 h2 X0
  exact lv_icmp_ge C.1 C.2.1 hd ht (fun z => kt z p e s m args below meth c H locs D dA ad sx A ls n0 ad0 C hn hL (pm_st (pm_st hS)) hW hF h1 h2 X0) (fun z => kf z p e s m args below meth c H locs D dA ad sx A ls n0 ad0 C hn hL (pm_st (pm_st hS)) hW hF h1 h2 X0)


theorem wq_if_eq {x : Int32} {off : Int} {tgt : Nat} (hd : decode M_L.2.1 pc = .ok (.ifCond .eq off, 3)) (ht : (pc : Int) + off = (tgt : Int)) (kt : x = 0 → wq l N scr tgt L S cs ss kd mi ml mr) (kf : ¬ x = 0 → wq l N scr (pc + 3) L S cs ss kd mi ml mr) : wq l N scr pc L (.int x :: S) cs ss kd mi ml mr := by
  intro p e s m args below meth c H locs D dA ad sx A ls n0 ad0 C hn hL hS hW hF h1 h2 X0
  exact lv_if_eq C.1 C.2.1 hd ht (fun z => kt z p e s m args below meth c H locs D dA ad sx A ls n0 ad0 C hn hL (pm_st hS) hW hF h1 h2 X0) (fun z => kf z p e s m args below meth c H locs D dA ad sx A ls n0 ad0 C hn hL (pm_st hS) hW hF h1 h2 X0)


theorem wq_if_ne {x : Int32} {off : Int} {tgt : Nat} (hd : decode M_L.2.1 pc = .ok (.ifCond .ne off, 3)) (ht : (pc : Int) + off = (tgt : Int)) (kt : ¬ x = 0 → wq l N scr tgt L S cs ss kd mi ml mr) (kf : x = 0 → wq l N scr (pc + 3) L S cs ss kd mi ml mr) : wq l N scr pc L (.int x :: S) cs ss kd mi ml mr := by
  intro p e s m args below meth c H locs D dA ad sx A ls n0 ad0 C hn hL hS hW hF h1 h2 X0
  exact lv_if_ne C.1 C.2.1 hd ht (fun z => kt z p e s m args below meth c H locs D dA ad sx A ls n0 ad0 C hn hL (pm_st hS) hW hF h1 h2 X0) (fun z => kf z p e s m args below meth c H locs D dA ad sx A ls n0 ad0 C hn hL (pm_st hS) hW hF h1 h2 X0)


theorem wq_tableIn {dflt lo hi : Int} {offs : Array Int} {len : Nat} {x : Int32} {off z : Int} {tgt : Nat} (hd : decode M_L.2.1 pc = .ok (.tableswitch dflt lo hi offs, len)) (hz : x.toInt = z) (h3 : lo ≤ z) (h4 : z ≤ hi) (ho : offs[(z - lo).toNat]? = some off) (ht : (pc : Int) + off = (tgt : Int)) (k : wq l N scr tgt L S cs ss kd mi ml mr) : wq l N scr pc L (.int x :: S) cs ss kd mi ml mr := by
  intro p e s m args below meth c H locs D dA ad sx A ls n0 ad0 C hn hL hS hW hF h1 h2 X0
  exact lv_tableIn C.1 C.2.1 hd (by omega) (by omega) (by rw [hz]; exact ho) ht (k p e s m args below meth c H locs D dA ad sx A ls n0 ad0 C hn hL (pm_st hS) hW hF h1 h2 X0)


theorem wq_tableOut {dflt lo hi : Int} {offs : Array Int} {len : Nat} {x : Int32} {tgt : Nat} (hd : decode M_L.2.1 pc = .ok (.tableswitch dflt lo hi offs, len)) (h : x.toInt < lo ∨ hi < x.toInt) (ht : (pc : Int) + dflt = (tgt : Int)) (k : wq l N scr tgt L S cs ss kd mi ml mr) : wq l N scr pc L (.int x :: S) cs ss kd mi ml mr := by
  intro p e s m args below meth c H locs D dA ad sx A ls n0 ad0 C hn hL hS hW hF h1 h2 X0
  exact lv_tableOut C.1 C.2.1 hd h ht (k p e s m args below meth c H locs D dA ad sx A ls n0 ad0 C hn hL (pm_st hS) hW hF h1 h2 X0)


theorem wq_istore_n {k : Fin 4} {x : Int32} {L' : List (Option Value)} (hd : decode M_L.2.1 pc = .ok (.istore_n k, 1)) (hi : (k : Nat) < L.length) (hL' : pm_stL L (k : Nat) (.int x) = L') (k9 : wq l N scr (pc + 1) L' S cs ss kd mi ml mr) : wq l N scr pc L (.int x :: S) cs ss kd mi ml mr := by
  intro p e s m args below meth c H locs D dA ad sx A ls n0 ad0 C hn hL hS hW hF h1 h2 X0
  subst hL'
  exact lv_istore_n C.1 C.2.1 hd rfl hL.has hi rfl (fun ls' h' => k9 p e s m args below meth c H locs D dA ad sx A ls' n0 ad0 C ((pm_stL_len _ _ _).trans hn) (hL.set1 hi trivial rfl h') (pm_st hS) hW hF h1 h2 X0)


theorem wq_astore_n {k : Fin 4} {x : Nat} {L' : List (Option Value)} (hd : decode M_L.2.1 pc = .ok (.astore_n k, 1)) (hi : (k : Nat) < L.length) (hL' : pm_stL L (k : Nat) (.ref x) = L') (k9 : wq l N scr (pc + 1) L' S cs ss kd mi ml mr) : wq l N scr pc L (.ref x :: S) cs ss kd mi ml mr := by
  intro p e s m args below meth c H locs D dA ad sx A ls n0 ad0 C hn hL hS hW hF h1 h2 X0
  subst hL'
  exact lv_astore_n C.1 C.2.1 hd rfl hL.has hi rfl (fun ls' h' => k9 p e s m args below meth c H locs D dA ad sx A ls' n0 ad0 C ((pm_stL_len _ _ _).trans hn) (hL.set1 hi (pm_sh hS) rfl h') (pm_st hS) hW hF h1 h2 X0)


theorem wq_iinc {i : Nat} {n : Int} {x v : Int32} {L' : List (Option Value)} (hd : decode M_L.2.1 pc = .ok (.iinc i n, 3)) (hl : L[i]? = some (some (.int x))) (hv : x + Int32.ofInt n = v) (hL' : pm_stL L i (.int v) = L') (k9 : wq l N scr (pc + 3) L' S cs ss kd mi ml mr) : wq l N scr pc L S cs ss kd mi ml mr := by
  intro p e s m args below meth c H locs D dA ad sx A ls n0 ad0 C hn hL hS hW hF h1 h2 X0
  subst hL'
  have hi : i < L.length := (List.getElem?_eq_some_iff.mp hl).1
  obtain ⟨k, hk⟩ := List.getElem?_of_mem (pm_lvl_mem.mpr ⟨_, hl, rfl⟩ : (i, pm_cv ad sx (.int x)) ∈ pm_lvl ad sx L)
  exact lv_iinc C.1 C.2.1 hd hL.has hk hv hi rfl (fun ls' h' => k9 p e s m args below meth c H locs D dA ad sx A ls' n0 ad0 C ((pm_stL_len _ _ _).trans hn) (hL.set1 hi trivial rfl h') hS hW hF h1 h2 X0)


theorem wq_less {L' : List (Option Value)} (h : pm_le L' L) (k : wq l N scr pc L' S cs ss kd mi ml mr) : wq l N scr pc L S cs ss kd mi ml mr := by
  intro p e s m args below meth c H locs D dA ad sx A ls n0 ad0 C hn hL hS hW hF h1 h2 X0
  obtain ⟨e1, e2⟩ := h.at
  exact k p e s m args below meth c H locs D dA ad sx A ls n0 ad0 C (e1.trans hn) ⟨hL.1.trans e1.symm, hL.2.1, fun i v hi => hL.2.2 i v (e2 i v hi)⟩ hS hW hF h1 h2 X0

theorem wq_widen {k n : Nat} (h1 : cs ≤ k) (h2 : ss ≤ n) (kk : wq l N scr pc L S k n kd mi ml mr) : wq l N scr pc L S cs ss kd mi ml mr := by
  intro p e s m args below meth c H locs D dA ad sx A ls n0 ad0 C hn hL hS hW hF h3 h4 X0
  exact W.widen h1 h2 (kk p e s m args below meth c H locs D dA ad sx A ls n0 ad0 C hn hL hS hW hF h3 h4 X0)


theorem wq_callV {M' : pm_M} {i d' mc' ms' n : Nat} {As rest : List Value} {Q' : pm_Q} (hd : decode M_L.2.1 pc = .ok (.invokevirtual i, 3)) (hml : pm_ml M_L.1.cls i M' n) (hV : pm_mlV M') {b ci : Nat} (hkb : kd[b]? = some (0, ci)) (hcl : ∃ q, pm_cl[ci]? = some q ∧ q.1 = M'.1.cls) (hS9 : S = As.reverse ++ .ref b :: rest) (hn9 : As.length = n) (hw : pm_wd (.ref b :: As) ≤ M'.2.2.1) (hrest : pm_wd rest ≤ 8) (hdd : d' < 14) (hcs : cs + mc' ≤ 600000 ∧ ss + ms' ≤ 7302250)
    (kc : wpc l M' d' mc' ms' (.ref b :: As) kd mi ml mr Q') (kk : ∀ r kd' mi' ml' mr', Q' r kd' mi' ml' mr' → kd.length ≤ kd'.length → wq l N scr (pc + 3) L (r.toList ++ rest) (cs + mc') (ss + ms') kd' mi' ml' mr') : wq l N scr pc L S cs ss kd mi ml mr := by
  intro p e s m args below meth c H locs D dA ad sx A ls n0 ad0 C hn hL hS hW hF h1 h2 X0
  subst hS9
  obtain ⟨e1, e2, e3, e4, e5, e6, e7, e8, e9, e10, e11⟩ := id C
  obtain ⟨hok, hpar, hlink⟩ := hml
  have hvA : ∀ v ∈ Value.ref b :: As, pm_vok kd.length v := by
    intro v hv
    rcases List.mem_cons.mp hv with rfl | hv
    · exact hS _ (List.mem_append_right _ List.mem_cons_self)
    · exact hS v (List.mem_append_left _ (List.mem_reverse.mpr hv))
  have hvR : ∀ v ∈ rest, pm_vok kd.length v := fun v hv => hS v (List.mem_append_right _ (List.mem_cons_of_mem _ hv))
  have hroom : (pm_room d' mc' ms').frames + 1 ≤ (pm_room 14 600000 7302250).frames ∧ 8 + (M'.2.2.1 + 11) + (pm_room d' mc' ms').locals ≤ (pm_room 14 600000 7302250).locals := ⟨by show d' + 1 ≤ 14; omega, by have := hok.2.2.2.2; show 8 + (M'.2.2.1 + 11) + (38 * d' + 12) ≤ 38 * 14 + 12; omega⟩
  have hsz : ls.size = M_L.2.2.1 := hL.1.trans hn
  have hmet := pm_met (D := D) (dA := dA) (ad := ad) (sx := sx) (sz := H.size) hok hw hvA hW.2.2.1 hW.2.2.2 kc
  obtain ⟨q9, hq9, hq8⟩ := hcl
  have hpre : PreV s H M'.1.cls (ad b) (va_Pc ((Value.ref b :: As).map (pm_cv ad sx)) (pm_pre D dA ad sx kd mi ml mr H.size)) (As.map (pm_cv ad sx)) := ⟨pm_blind, by rw [← hq8]; exact va_recv e8 hW.1 hq9 (pm_wl_at hkb), fun U hU hWm => ⟨rfl, pm_prePc hW hF e10 e8 e11 hU hWm⟩⟩
  have hstk : (F0 m pc ls (List.map (pm_cv ad sx) (As.reverse ++ .ref b :: rest))).stack = (As.map (pm_cv ad sx)).reverse ++ .ref (ad b) :: rest.map (pm_cv ad sx) := by simp [pm_cv]
  have hcall : va_Run p l e (pm_room 14 600000 7302250) s m args below meth c H locs cs ss mc' ms' (F0 m pc ls (List.map (pm_cv ad sx) (As.reverse ++ .ref b :: rest))) (rest.map (pm_cv ad sx)) (pm_Qc D dA sx (va_A (pm_wl ad dA kd mi ml mr) H.size) Q' kd.length ad (Value.ref (ad b) :: As.map (pm_cv ad sx)).toArray) (va_A (pm_wl ad dA kd mi ml mr) H.size) := by
    rcases hlink with hlink | ⟨host, hlink⟩
    · exact va_runV (Ts := pm_tbl) ⟨e1, e2, e3, e6, e7⟩ hmet ⟨callB_of n e7 (pm_goodIn hok) rfl rfl rfl (e7 _ hok.2.2.1) (e7 _ hlink) ⟨hok.2.2.2.1.1, hok.2.2.2.1.2, hpar⟩ hroom, e7 _ hV.1, e7 _ hV.2⟩ hpre rfl (by simpa using hn9) hsz hstk (lv_room (by rw [pm_words]; exact hrest)) hd hcs
    · exact va_runVN (C := M'.1.cls) (Ts := pm_tbl) ⟨e1, e2, e3, e6, e7⟩ hmet ⟨va_cnB n e7 (pm_goodIn hok) rfl rfl rfl (e11.2.2.2.2.2.2 _ hlink) (e7 _ hok.2.2.1) ⟨hok.2.2.2.1.1, hok.2.2.2.1.2, hpar⟩ hroom, e7 _ hV.1, e7 _ hV.2⟩ hpre rfl (by simpa using hn9) hsz hstk (lv_room (by rw [pm_words]; exact hrest)) hd hcs
  exact pm_after hcall hL hvR hW hF e10 h1 h2 (fun r kd' mi' ml' mr' ad' H1 locs1 q1 q2 q3 q4 q5 q6 q7 q8 => kk r kd' mi' ml' mr' q1 q2 p e s m args below meth c H1 locs1 D dA ad' sx A ls n0 ad0 C hn q3 q4 q5 q6 q7 q8 X0)

theorem wq_callI {M' : pm_M} {i d' mc' ms' n : Nat} {As rest : List Value} {Q' : pm_Q} (hd : decode M_L.2.1 pc = .ok (.invokespecial i, 3)) (hml : pm_ml M_L.1.cls i M' n) (hV : Cond.instanceMethod M'.1 ∈ pm_tbl ∧ M'.1.name = "<init>" ∧ M'.2.2.2 = none) {b : Nat} (hS9 : S = As.reverse ++ .ref b :: rest) (hn9 : As.length = n) (hw : pm_wd (.ref b :: As) ≤ M'.2.2.1) (hrest : pm_wd rest ≤ 8) (hdd : d' < 14) (hcs : cs + mc' ≤ 600000 ∧ ss + ms' ≤ 7302250)
    (kc : wpc l M' d' mc' ms' (.ref b :: As) kd mi ml mr Q') (kk : ∀ r kd' mi' ml' mr', Q' r kd' mi' ml' mr' → kd.length ≤ kd'.length → wq l N scr (pc + 3) L (r.toList ++ rest) (cs + mc') (ss + ms') kd' mi' ml' mr') : wq l N scr pc L S cs ss kd mi ml mr := by
  intro p e s m args below meth c H locs D dA ad sx A ls n0 ad0 C hn hL hS hW hF h1 h2 X0
  subst hS9
  obtain ⟨e1, e2, e3, e4, e5, e6, e7, e8, e9, e10, e11⟩ := id C
  obtain ⟨hok, hpar, hlink⟩ := hml
  have hvA : ∀ v ∈ Value.ref b :: As, pm_vok kd.length v := by
    intro v hv
    rcases List.mem_cons.mp hv with rfl | hv
    · exact hS _ (List.mem_append_right _ List.mem_cons_self)
    · exact hS v (List.mem_append_left _ (List.mem_reverse.mpr hv))
  have hvR : ∀ v ∈ rest, pm_vok kd.length v := fun v hv => hS v (List.mem_append_right _ (List.mem_cons_of_mem _ hv))
  have hroom : (pm_room d' mc' ms').frames + 1 ≤ (pm_room 14 600000 7302250).frames ∧ 8 + (M'.2.2.1 + 11) + (pm_room d' mc' ms').locals ≤ (pm_room 14 600000 7302250).locals := ⟨by show d' + 1 ≤ 14; omega, by have := hok.2.2.2.2; show 8 + (M'.2.2.1 + 11) + (38 * d' + 12) ≤ 38 * 14 + 12; omega⟩
  have hsz : ls.size = M_L.2.2.1 := hL.1.trans hn
  have hmet := pm_met (D := D) (dA := dA) (ad := ad) (sx := sx) (sz := H.size) hok hw hvA hW.2.2.1 hW.2.2.2 kc
  have hpre : PreS s H (va_Pc ((Value.ref b :: As).map (pm_cv ad sx)) (pm_pre D dA ad sx kd mi ml mr H.size)) (.ref (ad b) :: As.map (pm_cv ad sx)) := ⟨pm_blind, fun U hU hWm => ⟨rfl, pm_prePc hW hF e10 e8 e11 hU hWm⟩⟩
  have hstk : (F0 m pc ls (List.map (pm_cv ad sx) (As.reverse ++ .ref b :: rest))).stack = (As.map (pm_cv ad sx)).reverse ++ .ref (ad b) :: rest.map (pm_cv ad sx) := by simp [pm_cv]
  have hcall : va_Run p l e (pm_room 14 600000 7302250) s m args below meth c H locs cs ss mc' ms' (F0 m pc ls (List.map (pm_cv ad sx) (As.reverse ++ .ref b :: rest))) (rest.map (pm_cv ad sx)) (pm_Qc D dA sx (va_A (pm_wl ad dA kd mi ml mr) H.size) Q' kd.length ad (Value.ref (ad b) :: As.map (pm_cv ad sx)).toArray) (va_A (pm_wl ad dA kd mi ml mr) H.size) := by
    rcases hlink with hlink | ⟨host, hlink⟩
    · exact va_runI (Ts := pm_tbl) ⟨e1, e2, e3, e6, e7⟩ hmet ⟨callB_of n e7 (pm_goodIn hok) (by unfold pm_ws; rw [hV.2.2]) rfl rfl (e7 _ hok.2.2.1) (e7 _ hlink) ⟨hok.2.2.2.1.1, hok.2.2.2.1.2, hpar⟩ hroom, hV.2.1, e7 _ hV.1⟩ hpre rfl (by simpa using hn9) hsz hstk (lv_room (by rw [pm_words]; exact hrest)) hd hcs
    · exact va_runIN (Ts := pm_tbl) ⟨e1, e2, e3, e6, e7⟩ hmet ⟨va_cnB n e7 (pm_goodIn hok) (by unfold pm_ws; rw [hV.2.2]) rfl rfl (e11.2.2.2.2.2.2 _ hlink) (e7 _ hok.2.2.1) ⟨hok.2.2.2.1.1, hok.2.2.2.1.2, hpar⟩ hroom, hV.2.1, e7 _ hV.1⟩ hpre rfl (by simpa using hn9) hsz hstk (lv_room (by rw [pm_words]; exact hrest)) hd hcs
  exact pm_after hcall hL hvR hW hF e10 h1 h2 (fun r kd' mi' ml' mr' ad' H1 locs1 q1 q2 q3 q4 q5 q6 q7 q8 => kk r kd' mi' ml' mr' q1 q2 p e s m args below meth c H1 locs1 D dA ad' sx A ls n0 ad0 C hn q3 q4 q5 q6 q7 q8 X0)

theorem wq_new {i ci : Nat} {C : String} {T : u_T} {mi' : pm_I} {ml' : pm_L} {mr' : pm_R} (hd : decode M_L.2.1 pc = .ok (.new i, 3)) (hc : pm_cl[ci]? = some (C, T, pm_N ci)) (hin : ∀ w ∈ u_ws C T (pm_N ci), w ∈ pm_tbl) (hty : ∀ k, k < pm_N ci → parseFieldDescriptor (T k).2.2.1 = some (pm_ty ci k)) (hw : Cond.classLink M_L.1.cls i C ∈ pm_tbl ∧ Cond.instantiable C (pm_N ci) ∈ pm_tbl ∧ Cond.initialized C ∈ pm_tbl)
    (hc1 : cs + 1 ≤ 600000) (hs1 : ss + pm_N ci ≤ 7302250) (hdef : ∀ ad, (List.range (pm_N ci)).map (fun j => defaultValue (pm_ty ci j)) = pm_fs ad mi' ml' mr' kd.length ci) (h1 : ∀ k, k < kd.length → mi' k = mi k) (h2 : ∀ k, k < kd.length → ml' k = ml k) (h3 : ∀ k, k < kd.length → mr' k = mr k) (h4 : ∀ k, k = kd.length → mr' k = fun _ => none) (h5 : ∀ k, kd.length < k → mr' k = mr k)
    (k9 : wq l N scr (pc + 3) L (.ref kd.length :: S) (cs + 1) (ss + pm_N ci) (kd ++ [(0, ci)]) mi' ml' mr') : wq l N scr pc L S cs ss kd mi ml mr := by
  intro p e s m args below meth c H locs D dA ad sx A ls n0 ad0 C9 hn hL hS hW hF g1 g2 X0
  obtain ⟨e1, e2, e3, -, -, e6, e7, e8, -, e10, -⟩ := id C9
  refine va_new (ci := ci) (fs := (List.range (pm_N ci)).map (fun j => defaultValue (pm_ty ci j))) e1 e2 e7 hin (pm_ty ci) hty e6 (e7 _ hw.1) (e7 _ hw.2.1) (e7 _ hw.2.2) e8 hW.1 hW.2.1 hF e10 hc (fun j hj => by simp [vp_V, hj]) hc1 hs1 hd (fun a H1 hP hD hS1 => ?_)
  have h6 : ∀ k j b, mr' k j = some b → b < kd.length + 1 := by
    intro k j b hb
    rcases Nat.lt_trichotomy k kd.length with hk | hk | hk
    · rw [h3 k hk] at hb; exact Nat.lt_succ_of_lt (hW.2.2.1 _ _ _ hb)
    · rw [h4 k hk] at hb; cases hb
    · rw [h5 k hk] at hb; exact Nat.lt_succ_of_lt (hW.2.2.1 _ _ _ hb)
  have hW2 := pm_WR_push (q := (0, ci)) hW h1 h2 h3 h6 (fun z => by cases z) (by show Sum.inr (ci, pm_fs _ mi' ml' mr' kd.length ci) = _; rw [← hdef]) hP hD
  have K := k9 p e s m args below meth c H1 locs D dA (va_up ad kd.length a) sx A ls n0 ad0 C9 hn (by
    have := hL.ext (n' := (kd ++ [(0, ci)]).length) (by simp) (pm_up_lt (a := a)); exact this) (pm_sc (by show kd.length < (kd ++ [(0, ci)]).length; simp) (fun v hv => pm_vok_mono (by simp) (hS v hv))) hW2 hS1 (fun k hk => (pm_up_lt k (Nat.lt_of_lt_of_le hk g2)).trans (g1 k hk)) (by simp; omega) X0
  have ea : pm_cv (va_up ad kd.length a) sx (.ref kd.length) = .ref a := by simp [pm_cv, va_up]
  rw [List.map_cons, ea, ← pm_S_ext hS pm_up_lt] at K
  exact K

theorem wq_slen (hd : decode M_L.2.1 pc = .ok (.arraylength, 1)) (k9 : wq l N scr (pc + 1) L (.int (Int32.ofNat N) :: S) cs ss kd mi ml mr) : wq l N scr pc L (.retAddr 8 :: S) cs ss kd mi ml mr := by
  intro p e s m args below meth c H locs D dA ad sx A ls n0 ad0 C hn hL hS hW hF h1 h2 X0
  have K := k9 p e s m args below meth c H locs D dA ad sx A ls n0 ad0 C hn hL (pm_sc trivial (pm_st hS)) hW hF h1 h2 X0
  obtain ⟨x1, x2, x3, x4, -⟩ := X0
  exact va_slen C.1 C.2.1 x3 x4 (by rw [x2]; omega) hF hd K
theorem wq_sld {i : Int32} (hd : decode M_L.2.1 pc = .ok (.iaload, 1)) (hi : vp_in i N) (k9 : wq l N scr (pc + 1) L (.int (scr i.toNatClampNeg) :: S) cs ss kd mi ml mr) : wq l N scr pc L (.int i :: .retAddr 8 :: S) cs ss kd mi ml mr := by
  intro p e s m args below meth c H locs D dA ad sx A ls n0 ad0 C hn hL hS hW hF h1 h2 X0
  have K := k9 p e s m args below meth c H locs D dA ad sx A ls n0 ad0 C hn hL (pm_sc trivial (pm_st (pm_st hS))) hW hF h1 h2 X0
  obtain ⟨x1, x2, x3, x4, -⟩ := X0
  exact va_sld C.1 C.2.1 x3 x4 (by rw [x2]; omega) hF hi hd K
/-- the law's end, with 1 -/
theorem wq_ret (hd : decode M_L.2.1 pc = .ok (.ireturn, 1)) (hc : cs ≤ 600000) (hs : ss ≤ 7302250) : wq l N scr pc L [.int 1] cs ss kd mi ml mr := by
  intro p e s m args below meth c H locs D dA ad sx A ls n0 ad0 C hn hL hS hW hF h1 h2 X0
  obtain ⟨x1, x2, x3, x4, -⟩ := X0
  subst x1
  refine va_forget (fun q hq => by have := hF.2.2 q hq; rw [x2] at this; exact this) (W.widen hc hs ?_)
  exact lw_ret C.1 C.2.1 C.2.2.2.1 C.2.2.2.2.1 hd
end LAWR
