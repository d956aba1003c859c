/-! THE PURE MACHINE: worlds of numbered cells, and a judgement 'wp' over them -/
abbrev pm_I : Type := Nat → Nat → Int32
abbrev pm_L : Type := Nat → Nat → Int64
abbrev pm_R : Type := Nat → Nat → Option Nat
abbrev pm_K : Type := List (Nat × Nat)
abbrev pm_Q : Type := Option Value → pm_K → pm_I → pm_L → pm_R → Prop
abbrev pm_M : Type := MethodName × ByteArray × Nat × Option FieldType
/-- the words that every method may lean on -/
def pm_tbl : List Cond := lw_tbl.filter goodWord
theorem pm_in {w : Cond} (h : w ∈ lw_tbl) (hg : goodWord w = true) : w ∈ pm_tbl := List.mem_filter.mpr ⟨h, hg⟩
theorem pm_out {w : Cond} (h : w ∈ pm_tbl) : w ∈ lw_tbl := (List.mem_filter.mp h).1
/-- links among nest mates -/
def pm_isN : Cond → Bool
  | .fieldLinkNest .. => true
  | .methodLinkNest .. => true
  | _ => false
def pm_tbn : List Cond := lw_tbl.filter pm_isN
theorem pm_inN {w : Cond} (h : w ∈ lw_tbl) (hg : pm_isN w = true) : w ∈ pm_tbn := List.mem_filter.mpr ⟨h, hg⟩
def pm_ws (M : pm_M) : List Cond := .code M.1 M.2.1 M.2.2.1 M.2.2.2 :: pm_tbl
def pm_room (d mc ms : Nat) : Room := { frames := d, cells := mc, slots := ms, locals := 38 * d + 12 }
def pm_cv (ad sx : Nat → Nat) : Value → Value
  | .ref k => .ref (ad k)
  | .retAddr i => .ref (sx i)
  | v => v
theorem pm_cv_cat (ad sx : Nat → Nat) (v : Value) : (pm_cv ad sx v).category = v.category := by cases v <;> rfl
def pm_vok (n : Nat) : Value → Prop
  | .ref k => k < n
  | _ => True
theorem pm_vok_mono {n n' : Nat} (h : n ≤ n') {v : Value} (hv : pm_vok n v) : pm_vok n' v := by
  cases v <;> first | trivial | exact Nat.lt_of_lt_of_le hv h
theorem pm_cv_ext {ad ad' sx : Nat → Nat} {n : Nat} (h : ∀ k, k < n → ad' k = ad k) {v : Value} (hv : pm_vok n v) : pm_cv ad' sx v = pm_cv ad sx v := by
  cases v <;> first | rfl | exact congrArg Value.ref (h _ hv)
def pm_up {α : Type} (f : Nat → Nat → α) (k j : Nat) (v : α) : Nat → Nat → α := fun a b => if a = k ∧ b = j then v else f a b
theorem pm_up_s {α : Type} (f : Nat → Nat → α) (k j : Nat) (v : α) : pm_up f k j v k j = v := if_pos ⟨rfl, rfl⟩
theorem pm_up_k {α : Type} (f : Nat → Nat → α) {k j a b : Nat} (v : α) (h : a ≠ k) : pm_up f k j v a b = f a b := if_neg fun z => h z.1
theorem pm_up_j {α : Type} (f : Nat → Nat → α) {k j a b : Nat} (v : α) (h : b ≠ j) : pm_up f k j v a b = f a b := if_neg fun z => h z.2
theorem pm_up_row {α : Type} (f : Nat → Nat → α) {k j a : Nat} (v : α) (h : a ≠ k) : pm_up f k j v a = f a := funext fun _ => pm_up_k f v h
/-- a whole row set -/
def pm_ur {α : Type} (f : Nat → Nat → α) (k : Nat) (g : Nat → α) : Nat → Nat → α := fun a b => if a = k then g b else f a b
theorem pm_ur_s {α : Type} (f : Nat → Nat → α) (k : Nat) (g : Nat → α) : pm_ur f k g k = g := funext fun _ => if_pos rfl
theorem pm_ur_k {α : Type} (f : Nat → Nat → α) {k a : Nat} (g : Nat → α) (h : a ≠ k) : pm_ur f k g a = f a := funext fun _ => if_neg h
-- the classes, their fields' kinds: 0 an int, 1 a long, 2 a reference
abbrev pm_cl : List vw_C := [(RX0, TX0, 11), (RX1, TX1, 7), (RX2, TX2, 6), (RX3, TX3, 8), (RX4, TX4, 4), (RX5, TX5, 11), (RX6, TX6, 4), (RX7, TX7, 1), (RX8, TX8, 8), (RX9, TX9, 9), (RX10, TX10, 3), (RX11, TX11, 11), (RX12, TX12, 61)]
def pm_kt : FieldType → Nat
  | .long => 1
  | .array _ => 2
  | .object _ => 2
  | _ => 0
def pm_ty (ci : Nat) : Nat → FieldType := match ci with
  | 0 => tyX0 | 1 => tyX1 | 2 => tyX2 | 3 => tyX3 | 4 => tyX4 | 5 => tyX5 | 6 => tyX6 | 7 => tyX7 | 8 => tyX8 | 9 => tyX9 | 10 => tyX10 | 11 => tyX11 | _ => tyX12
def pm_N (ci : Nat) : Nat := match ci with
  | 0 => 11 | 1 => 7 | 2 => 6 | 3 => 8 | 4 => 4 | 5 => 11 | 6 => 4 | 7 => 1 | 8 => 8 | 9 => 9 | 10 => 3 | 11 => 11 | _ => 61
def pm_fv (ad : Nat → Nat) (mi : pm_I) (ml : pm_L) (mr : pm_R) (h tg j : Nat) : Value := match tg with
  | 0 => .int (mi h j)
  | 1 => .long (ml h j)
  | _ => match mr h j with
    | none => .null
    | some a => .ref (ad a)
def pm_fs (ad : Nat → Nat) (mi : pm_I) (ml : pm_L) (mr : pm_R) (h ci : Nat) : List Value := (List.range (pm_N ci)).map fun j => pm_fv ad mi ml mr h (pm_kt (pm_ty ci j)) j
def pm_ce (ad : Nat → Nat) (dA : Nat → ClassId) (q : Nat × Nat) (mi : pm_I) (ml : pm_L) (mr : pm_R) (k : Nat) : va_E := match q.1 with
  | 0 => .inr (q.2, pm_fs ad mi ml mr k q.2)
  | 1 => .inl (dA 1, q.2, .inl (mi k))
  | 2 => .inl (dA 2, q.2, .inr (.inl (ml k)))
  | 3 => .inl (dA 3, q.2, .inl (mi k))
  | 4 => .inl (dA 4, q.2, .inl (mi k))
  | t => .inl (dA t, q.2, .inr (.inr (.inr (.inr fun j => (mr k j).map ad))))
def pm_wl (ad : Nat → Nat) (dA : Nat → ClassId) (kd : pm_K) (mi : pm_I) (ml : pm_L) (mr : pm_R) : va_W := kd.zipIdx.map fun q => (ad q.2, pm_ce ad dA q.1 mi ml mr q.2)
def pm_tys (dA : Nat → ClassId) : List (ClassId × FieldType) := [(dA 1, .int), (dA 2, .long), (dA 3, .byte), (dA 4, .boolean), (dA 5, .object RX0), (dA 6, .object RX6), (dA 7, .object RX10), (dA 8, .object RX9)]
theorem pm_wl_at {ad : Nat → Nat} {dA : Nat → ClassId} {kd : pm_K} {mi : pm_I} {ml : pm_L} {mr : pm_R} {k : Nat} {q : Nat × Nat} (h : kd[k]? = some q) : (pm_wl ad dA kd mi ml mr)[k]? = some (ad k, pm_ce ad dA q mi ml mr k) := by
  simp [pm_wl, h]
theorem pm_wl_set {ad : Nat → Nat} {dA : Nat → ClassId} {kd : pm_K} {mi mi' : pm_I} {ml ml' : pm_L} {mr mr' : pm_R} {k : Nat} {q : Nat × Nat} (h : kd[k]? = some q) (h1 : ∀ a, a ≠ k → mi' a = mi a) (h2 : ∀ a, a ≠ k → ml' a = ml a) (h3 : ∀ a, a ≠ k → mr' a = mr a) : (pm_wl ad dA kd mi ml mr).set k (ad k, pm_ce ad dA q mi' ml' mr' k) = pm_wl ad dA kd mi' ml' mr' := by
  have hk : k < kd.length := (List.getElem?_eq_some_iff.mp h).1
  apply List.ext_getElem?
  intro i
  by_cases hi : i = k
  · subst hi
    rw [List.getElem?_set_self (by simpa [pm_wl] using hk), pm_wl_at h]
  · rw [List.getElem?_set_ne (fun z => hi z.symm)]
    have e : ∀ q : Nat × Nat, pm_ce ad dA q mi ml mr i = pm_ce ad dA q mi' ml' mr' i := by
      intro q
      have e1 := h1 i hi
      have e2 := h2 i hi
      have e3 := h3 i hi
      unfold pm_ce pm_fs pm_fv
      rw [e1, e2, e3]
    simp only [pm_wl, List.getElem?_map, List.getElem?_zipIdx]
    cases kd[i]? with
    | none => rfl
    | some q => simp [e]
def pm_bok (kd : pm_K) (mi : pm_I) : Prop := ∀ k n : Nat, kd[k]? = some (3, n) → ∀ j, (mi k j).toInt8.toInt32 = mi k j
def pm_WR (D : va_G) (dA : Nat → ClassId) (ad : Nat → Nat) (A : Nat → Prop) (kd : pm_K) (mi : pm_I) (ml : pm_L) (mr : pm_R) (H : Heap) : Prop :=
  va_P D pm_cl (pm_wl ad dA kd mi ml mr) H ∧ va_D A (pm_wl ad dA kd mi ml mr) ∧ (∀ k j a, mr k j = some a → a < kd.length) ∧ pm_bok kd mi
-- what lies outside: String constants (0 to 4), their bytes (10 to 14), the row RANGES (9)
def pm_rng : Nat → Value := fun j => .int ([3, 4, 6, 9].getD j 0)
