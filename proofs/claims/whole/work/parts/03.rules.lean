/-! rules: stack, locals, arithmetic, branches -/
theorem pm_sc {n : Nat} {v : Value} {S : List Value} (h : pm_vok n v) (hS : ∀ w ∈ S, pm_vok n w) : ∀ w ∈ v :: S, pm_vok n w := List.forall_mem_cons.mpr ⟨h, hS⟩
theorem pm_st {n : Nat} {v : Value} {S : List Value} (hS : ∀ w ∈ v :: S, pm_vok n w) : ∀ w ∈ S, pm_vok n w := (List.forall_mem_cons.mp hS).2
theorem pm_sh {n : Nat} {v : Value} {S : List Value} (hS : ∀ w ∈ v :: S, pm_vok n w) : pm_vok n v := (List.forall_mem_cons.mp hS).1
/-- the locals behind a store -/
def pm_clr (L : List (Option Value)) (i : Nat) : List (Option Value) := match i with
  | 0 => L
  | j + 1 => match L[j]? with
    | some (some w) => if w.category = 2 then L.set j none else L
    | _ => L
def pm_stL (L : List (Option Value)) (i : Nat) (v : Value) : List (Option Value) := if v.category = 2 then ((pm_clr L i).set i (some v)).set (i + 1) none else (pm_clr L i).set i (some v)
section PMR
variable {l : Launch} {M : pm_M} {d mc ms pc : Nat} {L : List (Option Value)} {S : List Value} {cs ss : Nat} {kd : pm_K} {mi : pm_I} {ml : pm_L} {mr : pm_R} {Q : pm_Q}

theorem wp_iconst {n : Int} {v : Int32} (hd : decode M.2.1 pc = .ok (.iconst n, 1)) (hv : Int32.ofInt n = v) (k : wp l M d mc ms (pc + 1) L (.int v :: S) cs ss kd mi ml mr Q) : wp l M d mc ms pc L S cs ss kd mi ml mr Q := by
  intro p e s m args below meth c H locs D dA ad sx A ls n0 ad0 C hn hL hS hW hF h1 h2
  exact lv_iconst C.1 C.2.1 hd hv (k p e s m args below meth c H locs D dA ad sx A ls n0 ad0 C hn hL (pm_sc trivial hS) hW hF h1 h2)

theorem wp_bipush {n : Int} {v : Int32} (hd : decode M.2.1 pc = .ok (.bipush n, 2)) (hv : (Int8.ofInt n).toInt32 = v) (k : wp l M d mc ms (pc + 2) L (.int v :: S) cs ss kd mi ml mr Q) : wp l M d mc ms pc L S cs ss kd mi ml mr Q := by
  intro p e s m args below meth c H locs D dA ad sx A ls n0 ad0 C hn hL hS hW hF h1 h2
  exact lv_bipush C.1 C.2.1 hd hv (k p e s m args below meth c H locs D dA ad sx A ls n0 ad0 C hn hL (pm_sc trivial hS) hW hF h1 h2)

theorem wp_sipush {n : Int} {v : Int32} (hd : decode M.2.1 pc = .ok (.sipush n, 3)) (hv : (Int16.ofInt n).toInt32 = v) (k : wp l M d mc ms (pc + 3) L (.int v :: S) cs ss kd mi ml mr Q) : wp l M d mc ms pc L S cs ss kd mi ml mr Q := by
  intro p e s m args below meth c H locs D dA ad sx A ls n0 ad0 C hn hL hS hW hF h1 h2
  exact lv_sipush C.1 C.2.1 hd hv (k p e s m args below meth c H locs D dA ad sx A ls n0 ad0 C hn hL (pm_sc trivial hS) hW hF h1 h2)

theorem wp_lconst {n : Fin 2} {v : Int64} (hd : decode M.2.1 pc = .ok (.lconst n, 1)) (hv : Int64.ofNat (n : Nat) = v) (k : wp l M d mc ms (pc + 1) L (.long v :: S) cs ss kd mi ml mr Q) : wp l M d mc ms pc L S cs ss kd mi ml mr Q := by
  intro p e s m args below meth c H locs D dA ad sx A ls n0 ad0 C hn hL hS hW hF h1 h2
  exact lv_lconst C.1 C.2.1 hd hv (k p e s m args below meth c H locs D dA ad sx A ls n0 ad0 C hn hL (pm_sc trivial hS) hW hF h1 h2)

theorem wp_ldc {i : Nat} {v : Int32} (hd : decode M.2.1 pc = .ok (.ldc i, 2)) (hw : Cond.constant M.1.cls i v ∈ pm_tbl) (k : wp l M d mc ms (pc + 2) L (.int v :: S) cs ss kd mi ml mr Q) : wp l M d mc ms pc L S cs ss kd mi ml mr Q := by
  intro p e s m args below meth c H locs D dA ad sx A ls n0 ad0 C hn hL hS hW hF h1 h2
  exact lv_ldc C.1 C.2.1 C.2.2.2.2.2.1 (C.2.2.2.2.2.2.1 _ hw) hd (k p e s m args below meth c H locs D dA ad sx A ls n0 ad0 C hn hL (pm_sc trivial hS) hW hF h1 h2)

theorem wp_ldcw {i : Nat} {v : Int32} (hd : decode M.2.1 pc = .ok (.ldc_w i, 3)) (hw : Cond.constant M.1.cls i v ∈ pm_tbl) (k : wp l M d mc ms (pc + 3) L (.int v :: S) cs ss kd mi ml mr Q) : wp l M d mc ms pc L S cs ss kd mi ml mr Q := by
  intro p e s m args below meth c H locs D dA ad sx A ls n0 ad0 C hn hL hS hW hF h1 h2
  exact lv_ldcw C.1 C.2.1 C.2.2.2.2.2.1 (C.2.2.2.2.2.2.1 _ hw) hd (k p e s m args below meth c H locs D dA ad sx A ls n0 ad0 C hn hL (pm_sc trivial hS) hW hF h1 h2)

theorem wp_ldc2 {i : Nat} {v : Int64} (hd : decode M.2.1 pc = .ok (.ldc2_w i, 3)) (hw : Cond.constantLong M.1.cls i v ∈ pm_tbl) (k : wp l M d mc ms (pc + 3) L (.long v :: S) cs ss kd mi ml mr Q) : wp l M d mc ms pc L S cs ss kd mi ml mr Q := by
  intro p e s m args below meth c H locs D dA ad sx A ls n0 ad0 C hn hL hS hW hF h1 h2
  exact lv_ldc2 C.1 C.2.1 C.2.2.2.2.2.1 (C.2.2.2.2.2.2.1 _ hw) hd (k p e s m args below meth c H locs D dA ad sx A ls n0 ad0 C hn hL (pm_sc trivial hS) hW hF h1 h2)

theorem wp_ldcS {i : Nat} (hi : i < 5) (hd : decode M.2.1 pc = .ok (.ldc (pm_str i).1, 2)) (hM : M.1.cls = "CityChords$Reader") (k : wp l M d mc ms (pc + 2) L (.retAddr i :: S) cs ss kd mi ml mr Q) : wp l M d mc ms pc L S cs ss kd mi ml mr Q := by
  intro p e s m args below meth c H locs D dA ad sx A ls n0 ad0 C hn hL hS hW hF h1 h2
  exact va_ldcS C.1 C.2.1 (by rw [← hM]; exact C.2.2.2.2.2.1) (C.2.2.2.2.2.2.2.2.2.2.2.2.2.2.1 i hi) hd (k p e s m args below meth c H locs D dA ad sx A ls n0 ad0 C hn hL (pm_sc trivial hS) hW hF h1 h2)

theorem wp_iload_n {k : Fin 4} {x : Int32} (hd : decode M.2.1 pc = .ok (.iload_n k, 1)) (hl : L[(k : Nat)]? = some (some (.int x))) (k : wp l M d mc ms (pc + 1) L (.int x :: S) cs ss kd mi ml mr Q) : wp l M d mc ms pc L S cs ss kd mi ml mr Q := by
  intro p e s m args below meth c H locs D dA ad sx A ls n0 ad0 C hn hL hS hW hF h1 h2
  exact lv_iload_n C.1 C.2.1 hd rfl (hL.2.2 _ _ hl).2 (k p e s m args below meth c H locs D dA ad sx A ls n0 ad0 C hn hL (pm_sc trivial hS) hW hF h1 h2)

theorem wp_iload {i : Nat} {x : Int32} (hd : decode M.2.1 pc = .ok (.iload i, 2)) (hl : L[i]? = some (some (.int x))) (k : wp l M d mc ms (pc + 2) L (.int x :: S) cs ss kd mi ml mr Q) : wp l M d mc ms pc L S cs ss kd mi ml mr Q := by
  intro p e s m args below meth c H locs D dA ad sx A ls n0 ad0 C hn hL hS hW hF h1 h2
  exact lv_iload C.1 C.2.1 hd (hL.2.2 _ _ hl).2 (k p e s m args below meth c H locs D dA ad sx A ls n0 ad0 C hn hL (pm_sc trivial hS) hW hF h1 h2)

theorem wp_lload_n {k : Fin 4} {x : Int64} (hd : decode M.2.1 pc = .ok (.lload_n k, 1)) (hl : L[(k : Nat)]? = some (some (.long x))) (k : wp l M d mc ms (pc + 1) L (.long x :: S) cs ss kd mi ml mr Q) : wp l M d mc ms pc L S cs ss kd mi ml mr Q := by
  intro p e s m args below meth c H locs D dA ad sx A ls n0 ad0 C hn hL hS hW hF h1 h2
  exact lv_lload_n C.1 C.2.1 hd rfl (hL.2.2 _ _ hl).2 (k p e s m args below meth c H locs D dA ad sx A ls n0 ad0 C hn hL (pm_sc trivial hS) hW hF h1 h2)

theorem wp_lload {i : Nat} {x : Int64} (hd : decode M.2.1 pc = .ok (.lload i, 2)) (hl : L[i]? = some (some (.long x))) (k : wp l M d mc ms (pc + 2) L (.long x :: S) cs ss kd mi ml mr Q) : wp l M d mc ms pc L S cs ss kd mi ml mr Q := by
  intro p e s m args below meth c H locs D dA ad sx A ls n0 ad0 C hn hL hS hW hF h1 h2
  exact lv_lload C.1 C.2.1 hd (hL.2.2 _ _ hl).2 (k p e s m args below meth c H locs D dA ad sx A ls n0 ad0 C hn hL (pm_sc trivial hS) hW hF h1 h2)

theorem wp_aload_n {k : Fin 4} {x : Nat} (hd : decode M.2.1 pc = .ok (.aload_n k, 1)) (hl : L[(k : Nat)]? = some (some (.ref x))) (k : wp l M d mc ms (pc + 1) L (.ref x :: S) cs ss kd mi ml mr Q) : wp l M d mc ms pc L S cs ss kd mi ml mr Q := by
  intro p e s m args below meth c H locs D dA ad sx A ls n0 ad0 C hn hL hS hW hF h1 h2
  exact lv_aload_n C.1 C.2.1 hd rfl (hL.2.2 _ _ hl).2 (k p e s m args below meth c H locs D dA ad sx A ls n0 ad0 C hn hL (pm_sc (hL.2.2 _ _ hl).1 hS) hW hF h1 h2)

theorem wp_aload {i : Nat} {x : Nat} (hd : decode M.2.1 pc = .ok (.aload i, 2)) (hl : L[i]? = some (some (.ref x))) (k : wp l M d mc ms (pc + 2) L (.ref x :: S) cs ss kd mi ml mr Q) : wp l M d mc ms pc L S cs ss kd mi ml mr Q := by
  intro p e s m args below meth c H locs D dA ad sx A ls n0 ad0 C hn hL hS hW hF h1 h2
  exact lv_aload C.1 C.2.1 hd (hL.2.2 _ _ hl).2 (k p e s m args below meth c H locs D dA ad sx A ls n0 ad0 C hn hL (pm_sc (hL.2.2 _ _ hl).1 hS) hW hF h1 h2)

theorem wp_aload_nX {k : Fin 4} {x : Nat} (hd : decode M.2.1 pc = .ok (.aload_n k, 1)) (hl : L[(k : Nat)]? = some (some (.retAddr x))) (k : wp l M d mc ms (pc + 1) L (.retAddr x :: S) cs ss kd mi ml mr Q) : wp l M d mc ms pc L S cs ss kd mi ml mr Q := by
  intro p e s m args below meth c H locs D dA ad sx A ls n0 ad0 C hn hL hS hW hF h1 h2
  exact lv_aload_n C.1 C.2.1 hd rfl (hL.2.2 _ _ hl).2 (k p e s m args below meth c H locs D dA ad sx A ls n0 ad0 C hn hL (pm_sc (hL.2.2 _ _ hl).1 hS) hW hF h1 h2)

theorem wp_aloadX {i : Nat} {x : Nat} (hd : decode M.2.1 pc = .ok (.aload i, 2)) (hl : L[i]? = some (some (.retAddr x))) (k : wp l M d mc ms (pc + 2) L (.retAddr x :: S) cs ss kd mi ml mr Q) : wp l M d mc ms pc L S cs ss kd mi ml mr Q := by
  intro p e s m args below meth c H locs D dA ad sx A ls n0 ad0 C hn hL hS hW hF h1 h2
  exact lv_aload C.1 C.2.1 hd (hL.2.2 _ _ hl).2 (k p e s m args below meth c H locs D dA ad sx A ls n0 ad0 C hn hL (pm_sc (hL.2.2 _ _ hl).1 hS) hW hF h1 h2)

theorem wp_iadd {x y : Int32} (hd : decode M.2.1 pc = .ok (.iadd, 1)) (k : wp l M d mc ms (pc + 1) L (.int (x + y) :: S) cs ss kd mi ml mr Q) : wp l M d mc ms pc L (.int y :: .int x :: S) cs ss kd mi ml mr Q := by
  intro p e s m args below meth c H locs D dA ad sx A ls n0 ad0 C hn hL hS hW hF h1 h2
  exact lv_iadd C.1 C.2.1 hd (k p e s m args below meth c H locs D dA ad sx A ls n0 ad0 C hn hL (pm_sc trivial (pm_st (pm_st hS))) hW hF h1 h2)

theorem wp_isub {x y : Int32} (hd : decode M.2.1 pc = .ok (.isub, 1)) (k : wp l M d mc ms (pc + 1) L (.int (x - y) :: S) cs ss kd mi ml mr Q) : wp l M d mc ms pc L (.int y :: .int x :: S) cs ss kd mi ml mr Q := by
  intro p e s m args below meth c H locs D dA ad sx A ls n0 ad0 C hn hL hS hW hF h1 h2
  exact lv_isub C.1 C.2.1 hd (k p e s m args below meth c H locs D dA ad sx A ls n0 ad0 C hn hL (pm_sc trivial (pm_st (pm_st hS))) hW hF h1 h2)

theorem wp_imul {x y : Int32} (hd : decode M.2.1 pc = .ok (.imul, 1)) (k : wp l M d mc ms (pc + 1) L (.int (x * y) :: S) cs ss kd mi ml mr Q) : wp l M d mc ms pc L (.int y :: .int x :: S) cs ss kd mi ml mr Q := by
  intro p e s m args below meth c H locs D dA ad sx A ls n0 ad0 C hn hL hS hW hF h1 h2
  exact lv_imul C.1 C.2.1 hd (k p e s m args below meth c H locs D dA ad sx A ls n0 ad0 C hn hL (pm_sc trivial (pm_st (pm_st hS))) hW hF h1 h2)

theorem wp_iand {x y : Int32} (hd : decode M.2.1 pc = .ok (.iand, 1)) (k : wp l M d mc ms (pc + 1) L (.int (x &&& y) :: S) cs ss kd mi ml mr Q) : wp l M d mc ms pc L (.int y :: .int x :: S) cs ss kd mi ml mr Q := by
  intro p e s m args below meth c H locs D dA ad sx A ls n0 ad0 C hn hL hS hW hF h1 h2
  exact lv_iand C.1 C.2.1 hd (k p e s m args below meth c H locs D dA ad sx A ls n0 ad0 C hn hL (pm_sc trivial (pm_st (pm_st hS))) hW hF h1 h2)

theorem wp_ior {x y : Int32} (hd : decode M.2.1 pc = .ok (.ior, 1)) (k : wp l M d mc ms (pc + 1) L (.int (x ||| y) :: S) cs ss kd mi ml mr Q) : wp l M d mc ms pc L (.int y :: .int x :: S) cs ss kd mi ml mr Q := by
  intro p e s m args below meth c H locs D dA ad sx A ls n0 ad0 C hn hL hS hW hF h1 h2
  exact lv_ior C.1 C.2.1 hd (k p e s m args below meth c H locs D dA ad sx A ls n0 ad0 C hn hL (pm_sc trivial (pm_st (pm_st hS))) hW hF h1 h2)

theorem wp_ixor {x y : Int32} (hd : decode M.2.1 pc = .ok (.ixor, 1)) (k : wp l M d mc ms (pc + 1) L (.int (x ^^^ y) :: S) cs ss kd mi ml mr Q) : wp l M d mc ms pc L (.int y :: .int x :: S) cs ss kd mi ml mr Q := by
  intro p e s m args below meth c H locs D dA ad sx A ls n0 ad0 C hn hL hS hW hF h1 h2
  exact lv_ixor C.1 C.2.1 hd (k p e s m args below meth c H locs D dA ad sx A ls n0 ad0 C hn hL (pm_sc trivial (pm_st (pm_st hS))) hW hF h1 h2)

theorem wp_ishl {x y : Int32} (hd : decode M.2.1 pc = .ok (.ishl, 1)) (k : wp l M d mc ms (pc + 1) L (.int (x <<< (y &&& 31)) :: S) cs ss kd mi ml mr Q) : wp l M d mc ms pc L (.int y :: .int x :: S) cs ss kd mi ml mr Q := by
  intro p e s m args below meth c H locs D dA ad sx A ls n0 ad0 C hn hL hS hW hF h1 h2
  exact lv_ishl C.1 C.2.1 hd (k p e s m args below meth c H locs D dA ad sx A ls n0 ad0 C hn hL (pm_sc trivial (pm_st (pm_st hS))) hW hF h1 h2)

theorem wp_ishr {x y : Int32} (hd : decode M.2.1 pc = .ok (.ishr, 1)) (k : wp l M d mc ms (pc + 1) L (.int (x >>> (y &&& 31)) :: S) cs ss kd mi ml mr Q) : wp l M d mc ms pc L (.int y :: .int x :: S) cs ss kd mi ml mr Q := by
  intro p e s m args below meth c H locs D dA ad sx A ls n0 ad0 C hn hL hS hW hF h1 h2
  exact lv_ishr C.1 C.2.1 hd (k p e s m args below meth c H locs D dA ad sx A ls n0 ad0 C hn hL (pm_sc trivial (pm_st (pm_st hS))) hW hF h1 h2)

theorem wp_idiv {x y : Int32} (hd : decode M.2.1 pc = .ok (.idiv, 1)) (hne : ¬ y = 0) (k : wp l M d mc ms (pc + 1) L (.int (x / y) :: S) cs ss kd mi ml mr Q) : wp l M d mc ms pc L (.int y :: .int x :: S) cs ss kd mi ml mr Q := by
  intro p e s m args below meth c H locs D dA ad sx A ls n0 ad0 C hn hL hS hW hF h1 h2
  exact lv_idiv C.1 C.2.1 hd hne (k p e s m args below meth c H locs D dA ad sx A ls n0 ad0 C hn hL (pm_sc trivial (pm_st (pm_st hS))) hW hF h1 h2)

theorem wp_irem {x y : Int32} (hd : decode M.2.1 pc = .ok (.irem, 1)) (hne : ¬ y = 0) (k : wp l M d mc ms (pc + 1) L (.int (x - x / y * y) :: S) cs ss kd mi ml mr Q) : wp l M d mc ms pc L (.int y :: .int x :: S) cs ss kd mi ml mr Q := by
  intro p e s m args below meth c H locs D dA ad sx A ls n0 ad0 C hn hL hS hW hF h1 h2
  exact lv_irem C.1 C.2.1 hd hne (k p e s m args below meth c H locs D dA ad sx A ls n0 ad0 C hn hL (pm_sc trivial (pm_st (pm_st hS))) hW hF h1 h2)

theorem wp_iushr {x y : Int32} (hd : decode M.2.1 pc = .ok (.iushr, 1)) (k : wp l M d mc ms (pc + 1) L (.int (x.toUInt32 >>> (y.toUInt32 &&& Int32.toUInt32 31)).toInt32 :: S) cs ss kd mi ml mr Q) : wp l M d mc ms pc L (.int y :: .int x :: S) cs ss kd mi ml mr Q := by
  intro p e s m args below meth c H locs D dA ad sx A ls n0 ad0 C hn hL hS hW hF h1 h2
  exact lv_iushr C.1 C.2.1 hd rfl (k p e s m args below meth c H locs D dA ad sx A ls n0 ad0 C hn hL (pm_sc trivial (pm_st (pm_st hS))) hW hF h1 h2)

theorem wp_ineg {x : Int32} (hd : decode M.2.1 pc = .ok (.ineg, 1)) (k : wp l M d mc ms (pc + 1) L (.int (-x) :: S) cs ss kd mi ml mr Q) : wp l M d mc ms pc L (.int x :: S) cs ss kd mi ml mr Q := by
  intro p e s m args below meth c H locs D dA ad sx A ls n0 ad0 C hn hL hS hW hF h1 h2
  exact lv_ineg C.1 C.2.1 hd (k p e s m args below meth c H locs D dA ad sx A ls n0 ad0 C hn hL (pm_sc trivial (pm_st hS)) hW hF h1 h2)

theorem wp_ladd {x y : Int64} (hd : decode M.2.1 pc = .ok (.ladd, 1)) (k : wp l M d mc ms (pc + 1) L (.long (x + y) :: S) cs ss kd mi ml mr Q) : wp l M d mc ms pc L (.long y :: .long x :: S) cs ss kd mi ml mr Q := by
  intro p e s m args below meth c H locs D dA ad sx A ls n0 ad0 C hn hL hS hW hF h1 h2
  exact lv_ladd C.1 C.2.1 hd (k p e s m args below meth c H locs D dA ad sx A ls n0 ad0 C hn hL (pm_sc trivial (pm_st (pm_st hS))) hW hF h1 h2)

theorem wp_lsub {x y : Int64} (hd : decode M.2.1 pc = .ok (.lsub, 1)) (k : wp l M d mc ms (pc + 1) L (.long (x - y) :: S) cs ss kd mi ml mr Q) : wp l M d mc ms pc L (.long y :: .long x :: S) cs ss kd mi ml mr Q := by
  intro p e s m args below meth c H locs D dA ad sx A ls n0 ad0 C hn hL hS hW hF h1 h2
  exact lv_lsub C.1 C.2.1 hd (k p e s m args below meth c H locs D dA ad sx A ls n0 ad0 C hn hL (pm_sc trivial (pm_st (pm_st hS))) hW hF h1 h2)

theorem wp_lmul {x y : Int64} (hd : decode M.2.1 pc = .ok (.lmul, 1)) (k : wp l M d mc ms (pc + 1) L (.long (x * y) :: S) cs ss kd mi ml mr Q) : wp l M d mc ms pc L (.long y :: .long x :: S) cs ss kd mi ml mr Q := by
  intro p e s m args below meth c H locs D dA ad sx A ls n0 ad0 C hn hL hS hW hF h1 h2
  exact lv_lmul C.1 C.2.1 hd (k p e s m args below meth c H locs D dA ad sx A ls n0 ad0 C hn hL (pm_sc trivial (pm_st (pm_st hS))) hW hF h1 h2)

theorem wp_land {x y : Int64} (hd : decode M.2.1 pc = .ok (.land, 1)) (k : wp l M d mc ms (pc + 1) L (.long (x &&& y) :: S) cs ss kd mi ml mr Q) : wp l M d mc ms pc L (.long y :: .long x :: S) cs ss kd mi ml mr Q := by
  intro p e s m args below meth c H locs D dA ad sx A ls n0 ad0 C hn hL hS hW hF h1 h2
  exact lv_land C.1 C.2.1 hd (k p e s m args below meth c H locs D dA ad sx A ls n0 ad0 C hn hL (pm_sc trivial (pm_st (pm_st hS))) hW hF h1 h2)

theorem wp_lor {x y : Int64} (hd : decode M.2.1 pc = .ok (.lor, 1)) (k : wp l M d mc ms (pc + 1) L (.long (x ||| y) :: S) cs ss kd mi ml mr Q) : wp l M d mc ms pc L (.long y :: .long x :: S) cs ss kd mi ml mr Q := by
  intro p e s m args below meth c H locs D dA ad sx A ls n0 ad0 C hn hL hS hW hF h1 h2
  exact lv_lor C.1 C.2.1 hd (k p e s m args below meth c H locs D dA ad sx A ls n0 ad0 C hn hL (pm_sc trivial (pm_st (pm_st hS))) hW hF h1 h2)

theorem wp_lxor {x y : Int64} (hd : decode M.2.1 pc = .ok (.lxor, 1)) (k : wp l M d mc ms (pc + 1) L (.long (x ^^^ y) :: S) cs ss kd mi ml mr Q) : wp l M d mc ms pc L (.long y :: .long x :: S) cs ss kd mi ml mr Q := by
  intro p e s m args below meth c H locs D dA ad sx A ls n0 ad0 C hn hL hS hW hF h1 h2
  exact lv_lxor C.1 C.2.1 hd (k p e s m args below meth c H locs D dA ad sx A ls n0 ad0 C hn hL (pm_sc trivial (pm_st (pm_st hS))) hW hF h1 h2)

theorem wp_lneg {x : Int64} (hd : decode M.2.1 pc = .ok (.lneg, 1)) (k : wp l M d mc ms (pc + 1) L (.long (-x) :: S) cs ss kd mi ml mr Q) : wp l M d mc ms pc L (.long x :: S) cs ss kd mi ml mr Q := by
  intro p e s m args below meth c H locs D dA ad sx A ls n0 ad0 C hn hL hS hW hF h1 h2
  exact lv_lneg C.1 C.2.1 hd (k p e s m args below meth c H locs D dA ad sx A ls n0 ad0 C hn hL (pm_sc trivial (pm_st hS)) hW hF h1 h2)

theorem wp_lcmp {x y : Int64} (hd : decode M.2.1 pc = .ok (.lcmp, 1)) (k : wp l M d mc ms (pc + 1) L (.int (lg_cmp x y) :: S) cs ss kd mi ml mr Q) : wp l M d mc ms pc L (.long y :: .long x :: S) cs ss kd mi ml mr Q := by
  intro p e s m args below meth c H locs D dA ad sx A ls n0 ad0 C hn hL hS hW hF h1 h2
  exact W.lcmp C.1 C.2.1 hd (k p e s m args below meth c H locs D dA ad sx A ls n0 ad0 C hn hL (pm_sc trivial (pm_st (pm_st hS))) hW hF h1 h2)

theorem wp_lshl {x : Int64} {y : Int32} (hd : decode M.2.1 pc = .ok (.lshl, 1)) (k : wp l M d mc ms (pc + 1) L (.long (x <<< (y.toInt64 &&& 63)) :: S) cs ss kd mi ml mr Q) : wp l M d mc ms pc L (.int y :: .long x :: S) cs ss kd mi ml mr Q := by
  intro p e s m args below meth c H locs D dA ad sx A ls n0 ad0 C hn hL hS hW hF h1 h2
  exact lv_lshl C.1 C.2.1 hd rfl (k p e s m args below meth c H locs D dA ad sx A ls n0 ad0 C hn hL (pm_sc trivial (pm_st (pm_st hS))) hW hF h1 h2)

theorem wp_lshr {x : Int64} {y : Int32} (hd : decode M.2.1 pc = .ok (.lshr, 1)) (k : wp l M d mc ms (pc + 1) L (.long (x >>> (y.toInt64 &&& 63)) :: S) cs ss kd mi ml mr Q) : wp l M d mc ms pc L (.int y :: .long x :: S) cs ss kd mi ml mr Q := by
  intro p e s m args below meth c H locs D dA ad sx A ls n0 ad0 C hn hL hS hW hF h1 h2
  exact lv_lshr C.1 C.2.1 hd rfl (k p e s m args below meth c H locs D dA ad sx A ls n0 ad0 C hn hL (pm_sc trivial (pm_st (pm_st hS))) hW hF h1 h2)

theorem wp_lushr {x : Int64} {y : Int32} (hd : decode M.2.1 pc = .ok (.lushr, 1)) (k : wp l M d mc ms (pc + 1) L (.long ((x.toUInt64 >>> (y.toInt64.toUInt64 &&& Int64.toUInt64 63)).toInt64) :: S) cs ss kd mi ml mr Q) : wp l M d mc ms pc L (.int y :: .long x :: S) cs ss kd mi ml mr Q := by
  intro p e s m args below meth c H locs D dA ad sx A ls n0 ad0 C hn hL hS hW hF h1 h2
  exact lv_lushr C.1 C.2.1 hd rfl (k p e s m args below meth c H locs D dA ad sx A ls n0 ad0 C hn hL (pm_sc trivial (pm_st (pm_st hS))) hW hF h1 h2)

theorem wp_i2l {x : Int32} (hd : decode M.2.1 pc = .ok (.i2l, 1)) (k : wp l M d mc ms (pc + 1) L (.long x.toInt64 :: S) cs ss kd mi ml mr Q) : wp l M d mc ms pc L (.int x :: S) cs ss kd mi ml mr Q := by
  intro p e s m args below meth c H locs D dA ad sx A ls n0 ad0 C hn hL hS hW hF h1 h2
  exact lv_i2l C.1 C.2.1 hd rfl (k p e s m args below meth c H locs D dA ad sx A ls n0 ad0 C hn hL (pm_sc trivial (pm_st hS)) hW hF h1 h2)

theorem wp_l2i {x : Int64} (hd : decode M.2.1 pc = .ok (.l2i, 1)) (k : wp l M d mc ms (pc + 1) L (.int x.toInt32 :: S) cs ss kd mi ml mr Q) : wp l M d mc ms pc L (.long x :: S) cs ss kd mi ml mr Q := by
  intro p e s m args below meth c H locs D dA ad sx A ls n0 ad0 C hn hL hS hW hF h1 h2
  exact lv_l2i C.1 C.2.1 hd rfl (k p e s m args below meth c H locs D dA ad sx A ls n0 ad0 C hn hL (pm_sc trivial (pm_st hS)) hW hF h1 h2)

theorem wp_i2b {x : Int32} (hd : decode M.2.1 pc = .ok (.i2b, 1)) (k : wp l M d mc ms (pc + 1) L (.int x.toInt8.toInt32 :: S) cs ss kd mi ml mr Q) : wp l M d mc ms pc L (.int x :: S) cs ss kd mi ml mr Q := by
  intro p e s m args below meth c H locs D dA ad sx A ls n0 ad0 C hn hL hS hW hF h1 h2
  exact lv_i2b C.1 C.2.1 hd rfl (k p e s m args below meth c H locs D dA ad sx A ls n0 ad0 C hn hL (pm_sc trivial (pm_st hS)) hW hF h1 h2)

theorem wp_i2c {x : Int32} (hd : decode M.2.1 pc = .ok (.i2c, 1)) (k : wp l M d mc ms (pc + 1) L (.int (x.toUInt32 % 65536).toInt32 :: S) cs ss kd mi ml mr Q) : wp l M d mc ms pc L (.int x :: S) cs ss kd mi ml mr Q := by
  intro p e s m args below meth c H locs D dA ad sx A ls n0 ad0 C hn hL hS hW hF h1 h2
  exact lv_i2c C.1 C.2.1 hd rfl (k p e s m args below meth c H locs D dA ad sx A ls n0 ad0 C hn hL (pm_sc trivial (pm_st hS)) hW hF h1 h2)

theorem wp_null (hd : decode M.2.1 pc = .ok (.aconst_null, 1)) (k : wp l M d mc ms (pc + 1) L (.null :: S) cs ss kd mi ml mr Q) : wp l M d mc ms pc L S cs ss kd mi ml mr Q := by
  intro p e s m args below meth c H locs D dA ad sx A ls n0 ad0 C hn hL hS hW hF h1 h2
  exact lv_null C.1 C.2.1 hd (k p e s m args below meth c H locs D dA ad sx A ls n0 ad0 C hn hL (pm_sc trivial hS) hW hF h1 h2)

theorem wp_dup {va : Value} (hd : decode M.2.1 pc = .ok (.dup, 1)) (hc : va.category = 1) (k : wp l M d mc ms (pc + 1) L (va :: va :: S) cs ss kd mi ml mr Q) : wp l M d mc ms pc L (va :: S) cs ss kd mi ml mr Q := by
  intro p e s m args below meth c H locs D dA ad sx A ls n0 ad0 C hn hL hS hW hF h1 h2
  exact lv_dup C.1 C.2.1 hd (by rw [pm_cv_cat]; exact hc) (k p e s m args below meth c H locs D dA ad sx A ls n0 ad0 C hn hL (pm_sc (pm_sh hS) hS) hW hF h1 h2)

theorem wp_pop {va : Value} (hd : decode M.2.1 pc = .ok (.pop, 1)) (hc : va.category = 1) (k : wp l M d mc ms (pc + 1) L S cs ss kd mi ml mr Q) : wp l M d mc ms pc L (va :: S) cs ss kd mi ml mr Q := by
  intro p e s m args below meth c H locs D dA ad sx A ls n0 ad0 C hn hL hS hW hF h1 h2
  exact lv_pop C.1 C.2.1 hd (by rw [pm_cv_cat]; exact hc) (k p e s m args below meth c H locs D dA ad sx A ls n0 ad0 C hn hL (pm_st hS) hW hF h1 h2)

theorem wp_dup2 {va vb : Value} (hd : decode M.2.1 pc = .ok (.dup2, 1)) (hc : va.category = 1) (hc2 : vb.category = 1) (k : wp l M d mc ms (pc + 1) L (va :: vb :: va :: vb :: S) cs ss kd mi ml mr Q) : wp l M d mc ms pc L (va :: vb :: S) cs ss kd mi ml mr Q := by
  intro p e s m args below meth c H locs D dA ad sx A ls n0 ad0 C hn hL hS hW hF h1 h2
  exact lv_dup2_11 C.1 C.2.1 hd (by rw [pm_cv_cat]; exact hc) (by rw [pm_cv_cat]; exact hc2) (k p e s m args below meth c H locs D dA ad sx A ls n0 ad0 C hn hL (pm_sc (pm_sh hS) (pm_sc (pm_sh (pm_st hS)) hS)) hW hF h1 h2)

theorem wp_dup_x1 {va vb : Value} (hd : decode M.2.1 pc = .ok (.dup_x1, 1)) (hc : va.category = 1) (hc2 : vb.category = 1) (k : wp l M d mc ms (pc + 1) L (va :: vb :: va :: S) cs ss kd mi ml mr Q) : wp l M d mc ms pc L (va :: vb :: S) cs ss kd mi ml mr Q := by
  intro p e s m args below meth c H locs D dA ad sx A ls n0 ad0 C hn hL hS hW hF h1 h2
  exact lv_dup_x1 C.1 C.2.1 hd (by rw [pm_cv_cat]; exact hc) (by rw [pm_cv_cat]; exact hc2) (k p e s m args below meth c H locs D dA ad sx A ls n0 ad0 C hn hL (pm_sc (pm_sh hS) (pm_sc (pm_sh (pm_st hS)) (pm_sc (pm_sh hS) (pm_st (pm_st hS))))) hW hF h1 h2)

theorem wp_goto {off : Int} {tgt : Nat} (hd : decode M.2.1 pc = .ok (.goto off, 3)) (ht : (pc : Int) + off = (tgt : Int)) (k : wp l M d mc ms tgt L S cs ss kd mi ml mr Q) : wp l M d mc ms pc L S cs ss kd mi ml mr Q := by
  intro p e s m args below meth c H locs D dA ad sx A ls n0 ad0 C hn hL hS hW hF h1 h2
  exact lv_goto C.1 C.2.1 hd ht (k p e s m args below meth c H locs D dA ad sx A ls n0 ad0 C hn hL hS hW hF h1 h2)

theorem wp_if_eq {x : Int32} {off : Int} {tgt : Nat} (hd : decode M.2.1 pc = .ok (.ifCond .eq off, 3)) (ht : (pc : Int) + off = (tgt : Int)) (kt : x = 0 → wp l M d mc ms tgt L S cs ss kd mi ml mr Q) (kf : ¬ x = 0 → wp l M d mc ms (pc + 3) L S cs ss kd mi ml mr Q) : wp l M d mc ms pc L (.int x :: S) cs ss kd mi ml mr Q := by
  intro p e s m args below meth c H locs D dA ad sx A ls n0 ad0 C hn hL hS hW hF h1 h2
  exact lv_if_eq C.1 C.2.1 hd ht (fun z => kt z p e s m args below meth c H locs D dA ad sx A ls n0 ad0 C hn hL (pm_st hS) hW hF h1 h2) (fun z => kf z p e s m args below meth c H locs D dA ad sx A ls n0 ad0 C hn hL (pm_st hS) hW hF h1 h2)

theorem wp_icmp_eq {x y : Int32} {off : Int} {tgt : Nat} (hd : decode M.2.1 pc = .ok (.if_icmp .eq off, 3)) (ht : (pc : Int) + off = (tgt : Int)) (kt : x = y → wp l M d mc ms tgt L S cs ss kd mi ml mr Q) (kf : ¬ x = y → wp l M d mc ms (pc + 3) L S cs ss kd mi ml mr Q) : wp l M d mc ms pc L (.int y :: .int x :: S) cs ss kd mi ml mr Q := by
  intro p e s m args below meth c H locs D dA ad sx A ls n0 ad0 C hn hL hS hW hF h1 h2
  exact lv_icmp_eq C.1 C.2.1 hd ht (fun z => kt z p e s m args below meth c H locs D dA ad sx A ls n0 ad0 C hn hL (pm_st (pm_st hS)) hW hF h1 h2) (fun z => kf z p e s m args below meth c H locs D dA ad sx A ls n0 ad0 C hn hL (pm_st (pm_st hS)) hW hF h1 h2)

theorem wp_if_ne {x : Int32} {off : Int} {tgt : Nat} (hd : decode M.2.1 pc = .ok (.ifCond .ne off, 3)) (ht : (pc : Int) + off = (tgt : Int)) (kt : ¬ x = 0 → wp l M d mc ms tgt L S cs ss kd mi ml mr Q) (kf : x = 0 → wp l M d mc ms (pc + 3) L S cs ss kd mi ml mr Q) : wp l M d mc ms pc L (.int x :: S) cs ss kd mi ml mr Q := by
  intro p e s m args below meth c H locs D dA ad sx A ls n0 ad0 C hn hL hS hW hF h1 h2
  exact lv_if_ne C.1 C.2.1 hd ht (fun z => kt z p e s m args below meth c H locs D dA ad sx A ls n0 ad0 C hn hL (pm_st hS) hW hF h1 h2) (fun z => kf z p e s m args below meth c H locs D dA ad sx A ls n0 ad0 C hn hL (pm_st hS) hW hF h1 h2)

theorem wp_icmp_ne {x y : Int32} {off : Int} {tgt : Nat} (hd : decode M.2.1 pc = .ok (.if_icmp .ne off, 3)) (ht : (pc : Int) + off = (tgt : Int)) (kt : ¬ x = y → wp l M d mc ms tgt L S cs ss kd mi ml mr Q) (kf : x = y → wp l M d mc ms (pc + 3) L S cs ss kd mi ml mr Q) : wp l M d mc ms pc L (.int y :: .int x :: S) cs ss kd mi ml mr Q := by
  intro p e s m args below meth c H locs D dA ad sx A ls n0 ad0 C hn hL hS hW hF h1 h2
  exact lv_icmp_ne C.1 C.2.1 hd ht (fun z => kt z p e s m args below meth c H locs D dA ad sx A ls n0 ad0 C hn hL (pm_st (pm_st hS)) hW hF h1 h2) (fun z => kf z p e s m args below meth c H locs D dA ad sx A ls n0 ad0 C hn hL (pm_st (pm_st hS)) hW hF h1 h2)

theorem wp_if_lt {x : Int32} {off : Int} {tgt : Nat} (hd : decode M.2.1 pc = .ok (.ifCond .lt off, 3)) (ht : (pc : Int) + off = (tgt : Int)) (kt : x < 0 → wp l M d mc ms tgt L S cs ss kd mi ml mr Q) (kf : ¬ x < 0 → wp l M d mc ms (pc + 3) L S cs ss kd mi ml mr Q) : wp l M d mc ms pc L (.int x :: S) cs ss kd mi ml mr Q := by
  intro p e s m args below meth c H locs D dA ad sx A ls n0 ad0 C hn hL hS hW hF h1 h2
  exact lv_if_lt C.1 C.2.1 hd ht (fun z => kt z p e s m args below meth c H locs D dA ad sx A ls n0 ad0 C hn hL (pm_st hS) hW hF h1 h2) (fun z => kf z p e s m args below meth c H locs D dA ad sx A ls n0 ad0 C hn hL (pm_st hS) hW hF h1 h2)

theorem wp_icmp_lt {x y : Int32} {off : Int} {tgt : Nat} (hd : decode M.2.1 pc = .ok (.if_icmp .lt off, 3)) (ht : (pc : Int) + off = (tgt : Int)) (kt : x < y → wp l M d mc ms tgt L S cs ss kd mi ml mr Q) (kf : ¬ x < y → wp l M d mc ms (pc + 3) L S cs ss kd mi ml mr Q) : wp l M d mc ms pc L (.int y :: .int x :: S) cs ss kd mi ml mr Q := by
  intro p e s m args below meth c H locs D dA ad sx A ls n0 ad0 C hn hL hS hW hF h1 h2
  exact lv_icmp_lt C.1 C.2.1 hd ht (fun z => kt z p e s m args below meth c H locs D dA ad sx A ls n0 ad0 C hn hL (pm_st (pm_st hS)) hW hF h1 h2) (fun z => kf z p e s m args below meth c H locs D dA ad sx A ls n0 ad0 C hn hL (pm_st (pm_st hS)) hW hF h1 h2)

theorem wp_if_ge {x : Int32} {off : Int} {tgt : Nat} (hd : decode M.2.1 pc = .ok (.ifCond .ge off, 3)) (ht : (pc : Int) + off = (tgt : Int)) (kt : 0 ≤ x → wp l M d mc ms tgt L S cs ss kd mi ml mr Q) (kf : ¬ 0 ≤ x → wp l M d mc ms (pc + 3) L S cs ss kd mi ml mr Q) : wp l M d mc ms pc L (.int x :: S) cs ss kd mi ml mr Q := by
  intro p e s m args below meth c H locs D dA ad sx A ls n0 ad0 C hn hL hS hW hF h1 h2
  exact lv_if_ge C.1 C.2.1 hd ht (fun z => kt z p e s m args below meth c H locs D dA ad sx A ls n0 ad0 C hn hL (pm_st hS) hW hF h1 h2) (fun z => kf z p e s m args below meth c H locs D dA ad sx A ls n0 ad0 C hn hL (pm_st hS) hW hF h1 h2)

theorem wp_icmp_ge {x y : Int32} {off : Int} {tgt : Nat} (hd : decode M.2.1 pc = .ok (.if_icmp .ge off, 3)) (ht : (pc : Int) + off = (tgt : Int)) (kt : y ≤ x → wp l M d mc ms tgt L S cs ss kd mi ml mr Q) (kf : ¬ y ≤ x → wp l M d mc ms (pc + 3) L S cs ss kd mi ml mr Q) : wp l M d mc ms pc L (.int y :: .int x :: S) cs ss kd mi ml mr Q := by
  intro p e s m args below meth c H locs D dA ad sx A ls n0 ad0 C hn hL hS hW hF h1 h2
  exact lv_icmp_ge C.1 C.2.1 hd ht (fun z => kt z p e s m args below meth c H locs D dA ad sx A ls n0 ad0 C hn hL (pm_st (pm_st hS)) hW hF h1 h2) (fun z => kf z p e s m args below meth c H locs D dA ad sx A ls n0 ad0 C hn hL (pm_st (pm_st hS)) hW hF h1 h2)

theorem wp_if_gt {x : Int32} {off : Int} {tgt : Nat} (hd : decode M.2.1 pc = .ok (.ifCond .gt off, 3)) (ht : (pc : Int) + off = (tgt : Int)) (kt : 0 < x → wp l M d mc ms tgt L S cs ss kd mi ml mr Q) (kf : ¬ 0 < x → wp l M d mc ms (pc + 3) L S cs ss kd mi ml mr Q) : wp l M d mc ms pc L (.int x :: S) cs ss kd mi ml mr Q := by
  intro p e s m args below meth c H locs D dA ad sx A ls n0 ad0 C hn hL hS hW hF h1 h2
  exact lv_if_gt C.1 C.2.1 hd ht (fun z => kt z p e s m args below meth c H locs D dA ad sx A ls n0 ad0 C hn hL (pm_st hS) hW hF h1 h2) (fun z => kf z p e s m args below meth c H locs D dA ad sx A ls n0 ad0 C hn hL (pm_st hS) hW hF h1 h2)

theorem wp_icmp_gt {x y : Int32} {off : Int} {tgt : Nat} (hd : decode M.2.1 pc = .ok (.if_icmp .gt off, 3)) (ht : (pc : Int) + off = (tgt : Int)) (kt : y < x → wp l M d mc ms tgt L S cs ss kd mi ml mr Q) (kf : ¬ y < x → wp l M d mc ms (pc + 3) L S cs ss kd mi ml mr Q) : wp l M d mc ms pc L (.int y :: .int x :: S) cs ss kd mi ml mr Q := by
  intro p e s m args below meth c H locs D dA ad sx A ls n0 ad0 C hn hL hS hW hF h1 h2
  exact lv_icmp_gt C.1 C.2.1 hd ht (fun z => kt z p e s m args below meth c H locs D dA ad sx A ls n0 ad0 C hn hL (pm_st (pm_st hS)) hW hF h1 h2) (fun z => kf z p e s m args below meth c H locs D dA ad sx A ls n0 ad0 C hn hL (pm_st (pm_st hS)) hW hF h1 h2)

theorem wp_if_le {x : Int32} {off : Int} {tgt : Nat} (hd : decode M.2.1 pc = .ok (.ifCond .le off, 3)) (ht : (pc : Int) + off = (tgt : Int)) (kt : x ≤ 0 → wp l M d mc ms tgt L S cs ss kd mi ml mr Q) (kf : ¬ x ≤ 0 → wp l M d mc ms (pc + 3) L S cs ss kd mi ml mr Q) : wp l M d mc ms pc L (.int x :: S) cs ss kd mi ml mr Q := by
  intro p e s m args below meth c H locs D dA ad sx A ls n0 ad0 C hn hL hS hW hF h1 h2
  exact lv_if_le C.1 C.2.1 hd ht (fun z => kt z p e s m args below meth c H locs D dA ad sx A ls n0 ad0 C hn hL (pm_st hS) hW hF h1 h2) (fun z => kf z p e s m args below meth c H locs D dA ad sx A ls n0 ad0 C hn hL (pm_st hS) hW hF h1 h2)

theorem wp_icmp_le {x y : Int32} {off : Int} {tgt : Nat} (hd : decode M.2.1 pc = .ok (.if_icmp .le off, 3)) (ht : (pc : Int) + off = (tgt : Int)) (kt : x ≤ y → wp l M d mc ms tgt L S cs ss kd mi ml mr Q) (kf : ¬ x ≤ y → wp l M d mc ms (pc + 3) L S cs ss kd mi ml mr Q) : wp l M d mc ms pc L (.int y :: .int x :: S) cs ss kd mi ml mr Q := by
  intro p e s m args below meth c H locs D dA ad sx A ls n0 ad0 C hn hL hS hW hF h1 h2
  exact lv_icmp_le C.1 C.2.1 hd ht (fun z => kt z p e s m args below meth c H locs D dA ad sx A ls n0 ad0 C hn hL (pm_st (pm_st hS)) hW hF h1 h2) (fun z => kf z p e s m args below meth c H locs D dA ad sx A ls n0 ad0 C hn hL (pm_st (pm_st hS)) hW hF h1 h2)

theorem wp_ifnonnull {x : Nat} {off : Int} {tgt : Nat} (hd : decode M.2.1 pc = .ok (.ifnonnull off, 3)) (ht : (pc : Int) + off = (tgt : Int)) (k : wp l M d mc ms tgt L S cs ss kd mi ml mr Q) : wp l M d mc ms pc L (.ref x :: S) cs ss kd mi ml mr Q := by
  intro p e s m args below meth c H locs D dA ad sx A ls n0 ad0 C hn hL hS hW hF h1 h2
  exact lv_ifnonnull C.1 C.2.1 hd ht (k p e s m args below meth c H locs D dA ad sx A ls n0 ad0 C hn hL (pm_st hS) hW hF h1 h2)

theorem wp_ifnonnullN {off : Int} (hd : decode M.2.1 pc = .ok (.ifnonnull off, 3)) (k : wp l M d mc ms (pc + 3) L S cs ss kd mi ml mr Q) : wp l M d mc ms pc L (.null :: S) cs ss kd mi ml mr Q := by
  intro p e s m args below meth c H locs D dA ad sx A ls n0 ad0 C hn hL hS hW hF h1 h2
  exact lv_ifnonnullN C.1 C.2.1 hd (k p e s m args below meth c H locs D dA ad sx A ls n0 ad0 C hn hL (pm_st hS) hW hF h1 h2)

theorem wp_ifnull {x : Nat} {off : Int} (hd : decode M.2.1 pc = .ok (.ifnull off, 3)) (k : wp l M d mc ms (pc + 3) L S cs ss kd mi ml mr Q) : wp l M d mc ms pc L (.ref x :: S) cs ss kd mi ml mr Q := by
  intro p e s m args below meth c H locs D dA ad sx A ls n0 ad0 C hn hL hS hW hF h1 h2
  exact lv_ifnull C.1 C.2.1 hd (k p e s m args below meth c H locs D dA ad sx A ls n0 ad0 C hn hL (pm_st hS) hW hF h1 h2)

theorem wp_ifnullN {off : Int} {tgt : Nat} (hd : decode M.2.1 pc = .ok (.ifnull off, 3)) (ht : (pc : Int) + off = (tgt : Int)) (k : wp l M d mc ms tgt L S cs ss kd mi ml mr Q) : wp l M d mc ms pc L (.null :: S) cs ss kd mi ml mr Q := by
  intro p e s m args below meth c H locs D dA ad sx A ls n0 ad0 C hn hL hS hW hF h1 h2
  exact lv_ifnullN C.1 C.2.1 hd ht (k p e s m args below meth c H locs D dA ad sx A ls n0 ad0 C hn hL (pm_st hS) hW hF h1 h2)

theorem wp_tableOut {dflt lo hi : Int} {offs : Array Int} {len : Nat} {x : Int32} {tgt : Nat} (hd : decode M.2.1 pc = .ok (.tableswitch dflt lo hi offs, len)) (h : x.toInt < lo ∨ hi < x.toInt) (ht : (pc : Int) + dflt = (tgt : Int)) (k : wp l M d mc ms tgt L S cs ss kd mi ml mr Q) : wp l M d mc ms pc L (.int x :: S) cs ss kd mi ml mr Q := by
  intro p e s m args below meth c H locs D dA ad sx A ls n0 ad0 C hn hL hS hW hF h1 h2
  exact lv_tableOut C.1 C.2.1 hd h ht (k p e s m args below meth c H locs D dA ad sx A ls n0 ad0 C hn hL (pm_st hS) hW hF h1 h2)

theorem wp_tableIn {dflt lo hi : Int} {offs : Array Int} {len : Nat} {x : Int32} {off z : Int} {tgt : Nat} (hd : decode M.2.1 pc = .ok (.tableswitch dflt lo hi offs, len)) (hz : x.toInt = z) (h3 : lo ≤ z) (h4 : z ≤ hi) (ho : offs[(z - lo).toNat]? = some off) (ht : (pc : Int) + off = (tgt : Int)) (k : wp l M d mc ms tgt L S cs ss kd mi ml mr Q) : wp l M d mc ms pc L (.int x :: S) cs ss kd mi ml mr Q := by
  intro p e s m args below meth c H locs D dA ad sx A ls n0 ad0 C hn hL hS hW hF h1 h2
  exact lv_tableIn C.1 C.2.1 hd (by omega) (by omega) (by rw [hz]; exact ho) ht (k p e s m args below meth c H locs D dA ad sx A ls n0 ad0 C hn hL (pm_st hS) hW hF h1 h2)

theorem wp_lookup {dflt : Int} {ps : Array (Int × Int)} {len : Nat} {x : Int32} {off : Int} {tgt : Nat} (hd : decode M.2.1 pc = .ok (.lookupswitch dflt ps, len)) (hp : (ps.toList.zip (ps.toList.drop 1)).all (fun (a, next) => a.1 < next.1) = true) (ho : Op.lookupswitch.offset ps.toList dflt x.toInt = off) (ht : (pc : Int) + off = (tgt : Int)) (k : wp l M d mc ms tgt L S cs ss kd mi ml mr Q) : wp l M d mc ms pc L (.int x :: S) cs ss kd mi ml mr Q := by
  intro p e s m args below meth c H locs D dA ad sx A ls n0 ad0 C hn hL hS hW hF h1 h2
  exact lv_lookup C.1 C.2.1 hd hp ho ht (k p e s m args below meth c H locs D dA ad sx A ls n0 ad0 C hn hL (pm_st hS) hW hF h1 h2)

end PMR
