/-! the judgement -/
def pm_str (i : Nat) : Nat × String := match i with
  | 0 => (99, "fiddle flute drum horn citizen thief child deaf wall size wind value ")
  | 1 => (124, "stand free tell march ")
  | 2 => (156, "stand free tell march walk go rest ")
  | 3 => (165, "denies says voices thieves ")
  | _ => (176, "quiet loud ")
def pm_len : List Nat := (List.range 5).map fun i => (pm_str i).2.length
def pm_byt : List (List Int32) := (List.range 5).map fun i => (pm_str i).2.toList.map fun c => Int32.ofNat c.toNat
/-- what is outside of all worlds: the row RANGES; String's COMPACT_STRINGS; the String constants -/
def pm_fm (sx : Nat → Nat) (A : Nat → Prop) (U : State) (H : Heap) : Prop := va_Z "jdk/internal/util/Preconditions" "SIOOBE_FORMATTER" "Ljava/util/function/BiFunction;" .null A U H ∨ va_Z "jdk/internal/util/Preconditions" "SIOOBE_FORMATTER" "Ljava/util/function/BiFunction;" (.ref (sx 20)) A U H
theorem pm_fm.moved {sx : Nat → Nat} {A : Nat → Prop} {u U : State} {H : Heap} (hvm : u.vm.Alike U.vm) (h : pm_fm sx A u H) : pm_fm sx A U H := h.elim (fun h => Or.inl (h.moved hvm)) fun h => Or.inr (h.moved hvm)
theorem pm_fm.kept {sx : Nat → Nat} {A : Nat → Prop} {U : State} {H H1 : Heap} (h : pm_fm sx A U H) (hq : ∀ a : Nat, a < H.size → ¬ A a → H1[a]? = H[a]?) : pm_fm sx A U H1 := h.elim (fun h => Or.inl (h.kept hq)) fun h => Or.inr (h.kept hq)
theorem pm_fm.narrow {sx : Nat → Nat} {A B : Nat → Prop} {U : State} {H : Heap} (h : pm_fm sx A U H) (hAB : ∀ q, B q → A q) : pm_fm sx B U H := h.elim (fun h => Or.inl (h.narrow hAB)) fun h => Or.inr (h.narrow hAB)
def pm_E (sx : Nat → Nat) (A : Nat → Prop) (U : State) (H : Heap) : Prop :=
  va_Z "CityChords" "RANGES" "[I" (.ref (sx 9)) A U H ∧ va_T .int (sx 9) 4 pm_rng A U H ∧ va_Z "java/lang/String" "COMPACT_STRINGS" "Z" (.int 1) A U H ∧
  vk_S 5 pm_len pm_byt sx (fun i => sx (10 + i)) A U H ∧ (∀ i, i < 5 → vk_R "CityChords$Reader" (pm_str i).1 (pm_str i).2 (sx i) U) ∧ ((∀ C, C ∈ [RX0, RX6, RX10, RX9] → va_AO C U) ∧ pm_fm sx A U H) ∧ (∀ w, w ∈ pm_tbn → va_Nw w U)
theorem pm_E.kept {sx : Nat → Nat} {A : Nat → Prop} {U : State} {H H1 : Heap} (h : pm_E sx A U H) (hz : ∀ q : Nat, q < H.size → ¬ A q → H1[q]? = H[q]?) : pm_E sx A U H1 :=
  ⟨h.1.kept hz, h.2.1.kept hz, h.2.2.1.kept hz, h.2.2.2.1.kept hz, h.2.2.2.2.1, ⟨h.2.2.2.2.2.1.1, h.2.2.2.2.2.1.2.kept hz⟩, h.2.2.2.2.2.2⟩
theorem pm_E.moved {sx : Nat → Nat} {A : Nat → Prop} {s U : State} {H : Heap} (hW : s.WarmedH U.vm) (h : pm_E sx A s H) : pm_E sx A U H :=
  ⟨h.1.moved hW.alike, h.2.1.moved hW.alike, h.2.2.1.moved hW.alike, h.2.2.2.1.moved hW.alike, fun i hi => (h.2.2.2.2.1 i hi).warm hW, ⟨fun C hC => (h.2.2.2.2.2.1.1 C hC).moved hW.alike, h.2.2.2.2.2.1.2.moved hW.alike⟩, fun w hw => by
    have h1 := h.2.2.2.2.2.2 w hw
    have h2 := (List.mem_filter.mp hw).2
    cases w <;> first | (simp [pm_isN] at h2; done) | exact va_Nw.warmF hW h1 | exact va_Nw.warmM hW h1⟩
theorem pm_E.narrow {sx : Nat → Nat} {A B : Nat → Prop} {U : State} {H : Heap} (h : pm_E sx A U H) (hz : ∀ q : Nat, B q → A q) : pm_E sx B U H :=
  ⟨h.1.narrow hz, h.2.1.narrow hz, h.2.2.1.narrow hz, h.2.2.2.1.narrow hz, h.2.2.2.2.1, ⟨h.2.2.2.2.2.1.1, h.2.2.2.2.2.1.2.narrow hz⟩, h.2.2.2.2.2.2⟩
theorem pm_E.same {sx : Nat → Nat} {A : Nat → Prop} {u U : State} {H : Heap} (hv : U.vm = u.vm) (h : pm_E sx A u H) : pm_E sx A U H :=
  ⟨h.1.moved (by rw [hv]; exact Vm.Alike.refl _), h.2.1.moved (by rw [hv]; exact Vm.Alike.refl _), h.2.2.1.moved (by rw [hv]; exact Vm.Alike.refl _), h.2.2.2.1.moved (by rw [hv]; exact Vm.Alike.refl _), fun i hi => (h.2.2.2.2.1 i hi).same hv, ⟨fun C hC => (h.2.2.2.2.2.1.1 C hC).moved (by rw [hv]; exact Vm.Alike.refl _), h.2.2.2.2.2.1.2.moved (by rw [hv]; exact Vm.Alike.refl _)⟩, fun w hw => by
    have h1 := h.2.2.2.2.2.2 w hw
    have h2 := (List.mem_filter.mp hw).2
    cases w <;> first | (simp [pm_isN] at h2; done) | exact va_Nw.same rfl hv.symm h1⟩
def pm_LV (ad sx : Nat → Nat) (n : Nat) (ls : Array Slot) (L : List (Option Value)) : Prop :=
  ls.size = L.length ∧ lv_wf ls ∧ ∀ (i : Nat) (v : Value), L[i]? = some (some v) → pm_vok n v ∧ ls[i]? = some (.val (pm_cv ad sx v))
def pm_Qc (D : va_G) (dA : Nat → ClassId) (sx : Nat → Nat) (A : Nat → Prop) (Q : pm_Q) (n0 : Nat) (ad0 : Nat → Nat) : Array Value → State → Outcome → State → Prop := fun _ st oc t =>
  ∃ (rv : Option Value) (kd : pm_K) (mi : pm_I) (ml : pm_L) (mr : pm_R) (ad : Nat → Nat), oc = .returned (rv.map (pm_cv ad sx)) ∧ Q rv kd mi ml mr ∧ pm_WR D dA ad A kd mi ml mr t.heap ∧ (∀ k, k < n0 → ad k = ad0 k) ∧ n0 ≤ kd.length ∧ (∀ v, rv = some v → pm_vok kd.length v) ∧ va_F A st t
def pm_C (M : pm_M) (p : Program) (s : State) (m : MethodId) (args : Array Value) (meth : Method) (c : Code) (D : va_G) (dA : Nat → ClassId) (sx : Nat → Nat) (A : Nat → Prop) : Prop :=
  p.tables.exec = Jvm.exec ∧ c.code = M.2.1 ∧ c.maxLocals = M.2.2.1 ∧ meth.sig.returnType = M.2.2.2 ∧ meth.locks = false ∧ s.vm.findClass M.1.cls = some m.cls ∧ (∀ w ∈ pm_tbl, w.before args s = true) ∧ va_K D pm_cl (pm_tys dA) s ∧ meth.name = M.1.name ∧ (∀ q : Nat, s.heap.size ≤ q → A q) ∧ pm_E sx A s s.heap
theorem pm_C.N {M : pm_M} {p : Program} {s : State} {m : MethodId} {args : Array Value} {meth : Method} {c : Code} {D : va_G} {dA : Nat → ClassId} {sx : Nat → Nat} {A : Nat → Prop} (h : pm_C M p s m args meth c D dA sx A) {w : Cond} (hw : w ∈ pm_tbn) : w.before args s = true := by
  have h1 := h.2.2.2.2.2.2.2.2.2.2.2.2.2.2.2.2 w hw
  have h2 := (List.mem_filter.mp hw).2
  cases w <;> first | (simp [pm_isN] at h2; done) | exact va_Nw.use rfl h1
def wp (l : Launch) (M : pm_M) (d mc ms : Nat) (pc : Nat) (L : List (Option Value)) (S : List Value) (cs ss : Nat) (kd : pm_K) (mi : pm_I) (ml : pm_L) (mr : pm_R) (Q : pm_Q) : Prop :=
  ∀ (p : Program) (e : Env) (s : State) (m : MethodId) (args : Array Value) (below : List Frame) (meth : Method) (c : Code) (H : Heap) (locs : List Loc) (D : va_G) (dA : Nat → ClassId) (ad sx : Nat → Nat) (A : Nat → Prop) (ls : Array Slot) (n0 : Nat) (ad0 : Nat → Nat),
    pm_C M p s m args meth c D dA sx A → L.length = M.2.2.1 → pm_LV ad sx kd.length ls L → (∀ v ∈ S, pm_vok kd.length v) → pm_WR D dA ad A kd mi ml mr H → va_S A s.heap H locs → (∀ k, k < n0 → ad k = ad0 k) → n0 ≤ kd.length →
    W p l e (pm_room d mc ms) s m args below meth c H locs cs ss (MQ below (pm_Qc D dA sx A Q n0 ad0) args s mc ms A) (F0 m pc ls (S.map (pm_cv ad sx)))
