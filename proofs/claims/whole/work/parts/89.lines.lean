/-! lines: pure -/
abbrev LRT : Type := Sum Nat (Nat × (Nat × Nat) × (Nat → Int32))
def up1 (r : Nat → Int32) (j : Nat) (v : Int32) : Nat → Int32 := fun i => if i = j then v else r i
theorem up1_s (r : Nat → Int32) (j : Nat) (v : Int32) : up1 r j v j = v := if_pos rfl
theorem up1_n (r : Nat → Int32) {i j : Nat} (v : Int32) (h : i ≠ j) : up1 r j v i = r i := if_neg h
def grI (x y : Int32) : Int32 := if x ≤ y then y else x
def num1 (t : Nat → Nat) (n lo hi s : Nat) (F : Nat × Nat) (g : Nat → Nat → Int32) : LRT := if tkK t n s = 2 then .inr (nx t n s, nmF t n lo hi s F, g (nmV t n lo hi s)) else .inl s
def num2 (t : Nat → Nat) (n lo hi lo2 hi2 s : Nat) (F : Nat × Nat) (g : Nat → Nat → Nat → Int32) : LRT := if tkK t n s = 2 then num1 t n lo2 hi2 (nx t n s) (nmF t n lo hi s F) (g (nmV t n lo hi s)) else .inl s
def semR (t : Nat → Nat) (n : Nat) : LRT → LRT
  | .inl p => .inl p
  | .inr (s, F, r) => if tkK t n s = 3 then .inr (nx t n s, F, r) else .inl s
def cellF (r : Nat → Int32) (a b : Nat) : Nat → Int32 := up1 (up1 r 200 (grI (r 200) (nI a))) 201 (grI (r 201) (nI b))
def addT (r : Nat → Int32) (cn at9 k a b : Nat) : Nat → Int32 := if gN r cn < 6 then up1 (up1 (up1 (up1 r (at9 + gN r cn) (nI k)) (at9 + 6 + gN r cn) (nI a)) (at9 + 12 + gN r cn) (nI b)) cn (nI (gN r cn + 1)) else r
def wallR (r : Nat → Int32) (a b : Nat) : Nat → Int32 := up1 r (45 + b) (nI (gN r (45 + b) ||| 2 ^ a))
def keepR (r : Nat → Int32) (cn fr most : Nat) (x y z : Int32) : Nat → Int32 := if gN r cn = most then r else up1 (up1 (up1 (up1 r (fr + 3 * gN r cn) x) (fr + 3 * gN r cn + 1) y) (fr + 3 * gN r cn + 2) z) cn (nI (gN r cn + 1))
def fullF (r : Nat → Int32) (cn most s : Nat) (F : Nat × Nat) : Nat × Nat := if gN r cn = most then noteF 3 s F else F
def lnC (t : Nat → Nat) (n s : Nat) (F : Nat × Nat) (r : Nat → Int32) : LRT := match wdO t n 0 s with
  | none => .inl s
  | some w =>
    if w = 9 then num2 t n 2 8 2 8 (nx t n s) F (fun a b => up1 (up1 r 0 (nI a)) 1 (nI b))
    else if w = 10 then num1 t n 0 4 (nx t n s) F (fun a => up1 r 2 (nI a))
    else if w = 11 then (match wdO t n 1 (nx t n s) with
      | none => .inl (nx t n s)
      | some c => num1 t n 0 9 (nx t n (nx t n s)) F (fun a => up1 r (5 + c) (nI a)))
    else if w < 4 then num2 t n 0 7 0 7 (nx t n s) (fullF r 3 6 s F) (fun a b => addT (cellF r a b) 3 9 w a b)
    else if w < 8 then num2 t n 0 7 0 7 (nx t n s) (fullF r 4 6 s F) (fun a b => addT (cellF r a b) 4 27 (w - 4) a b)
    else num2 t n 0 7 0 7 (nx t n s) F (fun a b => wallR (cellF r a b) a b)
def lnN (t : Nat → Nat) (n s : Nat) (F : Nat × Nat) (r : Nat → Int32) : LRT := match wdO t n 2 s with
  | none => .inl s
  | some w =>
    if w = 6 then .inr (nx t n s, fullF r 0 40 s F, keepR r 0 1 40 (nI w) (-1) (-1))
    else if w < 3 then num1 t n 0 5 (nx t n s) (fullF r 0 40 s F) (fun a => keepR r 0 1 40 (nI w) (nI a) (-1))
    else num2 t n 0 5 0 3 (nx t n s) (fullF r 0 40 s F) (fun a b => keepR r 0 1 40 (nI w) (nI a) (nI b))
def lnT (t : Nat → Nat) (n s : Nat) (F : Nat × Nat) (r : Nat → Int32) : LRT := match wdO t n 3 s with
  | none => .inl s
  | some w =>
    if w = 2 then num1 t n 1 8 (nx t n s) F (fun a => up1 r 0 (nI a))
    else if w = 3 then num1 t n 0 8 (nx t n s) F (fun a => up1 r 1 (nI a))
    else num2 t n 0 7 0 7 (nx t n s) (fullF r 2 12 s F) (fun a b => keepR (up1 r 202 (grI (r 202) (grI (nI a) (nI b)))) 2 3 12 (nI w) (nI a) (nI b))
def lnS (t : Nat → Nat) (n s : Nat) (F : Nat × Nat) (r : Nat → Int32) : LRT := match wdO t n 4 s with
  | none => .inl s
  | some w => num2 t n 0 7 0 7 (nx t n s) (fullF r 0 10 s F) (fun a b => keepR r 0 1 10 (nI w) (nI a) (nI b))
def lnA (k : Nat) (t : Nat → Nat) (n s : Nat) (F : Nat × Nat) (r : Nat → Int32) : LRT := if k = 0 then lnC t n s F r else if k = 1 then lnN t n s F r else if k = 2 then lnT t n s F r else lnS t n s F r
theorem nmF_0 {t : Nat → Nat} {n lo hi s : Nat} {F : Nat × Nat} (h : (nmF t n lo hi s F).1 = 0) : F.1 = 0 ∧ lo ≤ tkV t n s ∧ tkV t n s ≤ hi ∧ nmF t n lo hi s F = F := by
  unfold nmF at h ⊢
  by_cases q : lo ≤ tkV t n s ∧ tkV t n s ≤ hi
  · rw [if_pos q] at h ⊢; exact ⟨h, q.1, q.2, rfl⟩
  · rw [if_neg q] at h
    unfold noteF at h
    split at h
    · cases h
    · rename_i z; exact absurd h z
theorem nmV_le {t : Nat → Nat} {n lo hi s : Nat} (h : lo ≤ hi) : lo ≤ nmV t n lo hi s ∧ nmV t n lo hi s ≤ hi := by
  unfold nmV; split <;> omega
theorem fullF_0 {r : Nat → Int32} {cn most s : Nat} {F : Nat × Nat} (h : (fullF r cn most s F).1 = 0) : F.1 = 0 ∧ gN r cn ≠ most ∧ fullF r cn most s F = F := by
  unfold fullF at h ⊢
  by_cases q : gN r cn = most
  · rw [if_pos q] at h
    unfold noteF at h
    split at h
    · cases h
    · rename_i z; exact absurd h z
  · rw [if_neg q] at h ⊢; exact ⟨h, q, rfl⟩
theorem noteF_n {f p : Nat} {F : Nat × Nat} (h : F.1 ≠ 0) : noteF f p F = F := if_neg h
/-! the class's lines -/
def fD (h : Nat) (mi mi' : pm_I) (ml ml' : pm_L) : Prop := (∀ a, (a < h ∨ a = h + 1 ∨ h + 17 ≤ a) → mi' a = mi a ∧ ml' a = ml a) ∧ ∀ j, j < 2 → mi' h j = mi h j
/-- the draft alone -/
def fE (h : Nat) (mi mi' : pm_I) (ml ml' : pm_L) : Prop := ∀ a, (a ≤ h + 1 ∨ h + 17 ≤ a) → mi' a = mi a ∧ ml' a = ml a
theorem fD.rf {h : Nat} {mi : pm_I} {ml : pm_L} : fD h mi mi ml ml := ⟨fun _ _ => ⟨rfl, rfl⟩, fun _ _ => rfl⟩
theorem fE.rf {h : Nat} {mi : pm_I} {ml : pm_L} : fE h mi mi ml ml := fun _ _ => ⟨rfl, rfl⟩
theorem fD.tr {h : Nat} {mi mi1 mi2 : pm_I} {ml ml1 ml2 : pm_L} (h1 : fD h mi mi1 ml ml1) (h2 : fD h mi1 mi2 ml1 ml2) : fD h mi mi2 ml ml2 := ⟨fun a g => ⟨(h2.1 a g).1.trans (h1.1 a g).1, (h2.1 a g).2.trans (h1.1 a g).2⟩, fun j g => (h2.2 j g).trans (h1.2 j g)⟩
theorem fE.tr {h : Nat} {mi mi1 mi2 : pm_I} {ml ml1 ml2 : pm_L} (h1 : fE h mi mi1 ml ml1) (h2 : fE h mi1 mi2 ml1 ml2) : fE h mi mi2 ml ml2 := fun a g => ⟨(h2 a g).1.trans (h1 a g).1, (h2 a g).2.trans (h1 a g).2⟩
theorem fE.D {h : Nat} {mi mi' : pm_I} {ml ml' : pm_L} (f : fE h mi mi' ml ml') : fD h mi mi' ml ml' := ⟨fun a g => f a (by omega), fun j _ => by rw [(f h (by omega)).1]⟩
theorem fH.D {h : Nat} {mi mi' : pm_I} {ml : pm_L} (f : fH h mi mi') : fD h mi mi' ml ml := ⟨fun a g => ⟨f.1 a (by omega), rfl⟩, fun j g => f.2 j (by omega)⟩
theorem fE.up {h c j : Nat} {mi mi' : pm_I} {ml ml' : pm_L} {v : Int32} (f : fE h mi mi' ml ml') (hc : h + 2 ≤ c ∧ c < h + 17) : fE h mi (pm_up mi' c j v) ml ml' := fun a g => ⟨(pm_up_row _ _ (by omega)).trans (f a g).1, (f a g).2⟩
theorem fE.upL {h c j : Nat} {mi mi' : pm_I} {ml ml' : pm_L} {v : Int64} (f : fE h mi mi' ml ml') (hc : h + 2 ≤ c ∧ c < h + 17) : fE h mi mi' ml (pm_up ml' c j v) := fun a g => ⟨(f a g).1, (pm_up_row _ _ (by omega)).trans (f a g).2⟩
theorem tpX.fD {mi mi' : pm_I} {ml ml' : pm_L} {h n : Nat} {t : Nat → Nat} (P : tpX mi h t n) (f : fD h mi mi' ml ml') : tpX mi' h t n := by
  unfold tpX at P ⊢
  rw [f.2 1 (by omega), (f.1 (h + 1) (by omega)).1]; exact P
theorem stX.row {mi mi' : pm_I} {h n s : Nat} {t : Nat → Nat} {F : Nat × Nat} (X : stX mi h t n s F) (e : mi' h = mi h) : stX mi' h t n s F := by
  unfold stX tkX at X ⊢; rw [e]; exact X
theorem skX.row {mi mi' : pm_I} {h p : Nat} (X : skX mi h p) (e : mi' h = mi h) : skX mi' h p := by
  unfold skX at X ⊢; rw [e]; exact X
/-- counts of the draft are never too great -/
def DwX (mi : pm_I) (h : Nat) : Prop := (∃ p, p ≤ 6 ∧ mi (h + 2) 4 = nI p) ∧ (∃ p, p ≤ 6 ∧ mi (h + 2) 5 = nI p) ∧ (∃ p, p ≤ 40 ∧ mi (h + 8) 3 = nI p) ∧ ∃ p, p ≤ 40 ∧ mi (h + 13) 3 = nI p
def DrX (k : Nat) (mi : pm_I) (ml : pm_L) (h : Nat) (r : Nat → Int32) : Prop := if k = 0 then CC mi ml (h + 2) r else if k = 2 then mi (h + 12) 0 = r 0 ∧ mi (h + 12) 1 = r 1 ∧ RR mi (h + 13) 2 r else RR mi (h + 8) 0 r
theorem DwX.fH {mi mi' : pm_I} {h : Nat} (W : DwX mi h) (f : fH h mi mi') : DwX mi' h := by
  unfold DwX at W ⊢
  rw [f.1 (h + 2) (by omega), f.1 (h + 8) (by omega), f.1 (h + 13) (by omega)]; exact W
theorem DrX.fH {k : Nat} {mi mi' : pm_I} {ml : pm_L} {h : Nat} {r : Nat → Int32} (D : DrX k mi ml h r) (f : fH h mi mi') : DrX k mi' ml h r := by
  unfold DrX at D ⊢
  by_cases k0 : k = 0
  · rw [if_pos k0] at D ⊢
    exact D.same (fun a g1 g2 => f.1 a (by omega)) rfl
  · rw [if_neg k0] at D ⊢
    by_cases k2 : k = 2
    · rw [if_pos k2] at D ⊢
      obtain ⟨d1, d2, d3⟩ := D
      rw [f.1 (h + 12) (by omega)]
      exact ⟨d1, d2, d3.same (f.1 _ (by omega)) (f.1 _ (by omega)) (f.1 _ (by omega)) (f.1 _ (by omega))⟩
    · rw [if_neg k2] at D ⊢
      exact D.same (f.1 _ (by omega)) (f.1 _ (by omega)) (f.1 _ (by omega)) (f.1 _ (by omega))
/-- the class behind a line -/
def outX (k : Nat) (mi : pm_I) (ml : pm_L) (h : Nat) (t : Nat → Nat) (n : Nat) (R : LRT) : Prop := DwX mi h ∧ (match R with
  | .inl p => skX mi h p
  | .inr (s, F, r) => stX mi h t n s F ∧ (F.1 = 0 → DrX k mi ml h r))
section LNX
variable {l : Launch} {d h k : Nat} {kd : pm_K} {mr : pm_R} {mi : pm_I} {ml : pm_L} {t : Nat → Nat} {n s p : Nat} {F : Nat × Nat} {r : Nat → Int32}
/-- a number, and what is done with it -/
theorem X_num1 {lo hi : Nat} {u v : Int32} {g : Nat → Nat → Int32} {C : Int32 → pm_I → pm_L → Prop} {K : pm_I → pm_L → Prop} (th : TX5s kd mr h) (P : tpX mi h t n) (X : stX mi h t n s F) (W : DwX mi h) (D : F.1 = 0 → DrX k mi ml h r) (hu : u = nI lo) (hv : v = nI hi) (hlo : lo ≤ hi ∧ hi < 100)
    (tail : ∀ x mi1 ml1, lo ≤ x → x ≤ hi → DwX mi1 h → (∀ mi2 ml2, fE h mi1 mi2 ml1 ml2 → DwX mi2 h → (F.1 = 0 → DrX k mi1 ml1 h r → DrX k mi2 ml2 h (g x)) → K mi2 ml2) → C (nI x) mi1 ml1)
    (k9 : ∀ mi' ml', fD h mi mi' ml ml' → outX k mi' ml' h t n (num1 t n lo hi s F g) → K mi' ml') : wI l M_X5_takeNumber (d + 3) [.ref h, .int u, .int v] kd mr mi ml C := by
  refine s_takeNumber th P X hu hv (by omega) (fun mi1 hk f1 X1 => ?_) (fun mi1 hk f1 X1 => ?_)
  · obtain ⟨v1, v2⟩ := nmV_le (t := t) (n := n) (s := s) hlo.1
    refine tail _ mi1 ml v1 v2 (W.fH f1) fun mi2 ml2 f2 W2 D2 => k9 mi2 ml2 (f1.D.tr f2.D) ⟨W2, ?_⟩
    unfold num1
    rw [if_pos hk]
    refine ⟨X1.row (f2 h (by omega)).1, fun h0 => ?_⟩
    obtain ⟨e0, e1, e2, -⟩ := nmF_0 h0
    exact D2 e0 ((D e0).fH f1)
  · refine tail lo mi1 ml (Nat.le_refl _) hlo.1 (W.fH f1) fun mi2 ml2 f2 W2 D2 => k9 mi2 ml2 (f1.D.tr f2.D) ⟨W2, ?_⟩
    unfold num1
    rw [if_neg hk]
    exact X1.row (f2 h (by omega)).1
theorem X_num1_sk {lo hi : Nat} {u v : Int32} {C : Int32 → pm_I → pm_L → Prop} {K : pm_I → pm_L → Prop} (th : TX5s kd mr h) (X : skX mi h p) (W : DwX mi h) (hu : u = nI lo) (hlo : lo ≤ hi)
    (tail : ∀ x mi1 ml1, lo ≤ x → x ≤ hi → DwX mi1 h → (∀ mi2 ml2, fE h mi1 mi2 ml1 ml2 → DwX mi2 h → K mi2 ml2) → C (nI x) mi1 ml1)
    (k9 : ∀ mi' ml', fD h mi mi' ml ml' → outX k mi' ml' h t n (.inl p) → K mi' ml') : wI l M_X5_takeNumber (d + 3) [.ref h, .int u, .int v] kd mr mi ml C := by
  subst hu
  exact s_takeNumber_sk th X (tail lo mi ml (Nat.le_refl _) hlo W fun mi2 ml2 f2 W2 => k9 mi2 ml2 f2.D ⟨W2, X.row (f2 h (by omega)).1⟩)
theorem X_num2 {lo hi lo2 hi2 : Nat} {u v u2 v2 : Int32} {g : Nat → Nat → Nat → Int32} {C : Int32 → Int32 → pm_I → pm_L → Prop} {K : pm_I → pm_L → Prop} (th : TX5s kd mr h) (P : tpX mi h t n) (X : stX mi h t n s F) (W : DwX mi h) (D : F.1 = 0 → DrX k mi ml h r) (hu : u = nI lo) (hv : v = nI hi) (hlo : lo ≤ hi ∧ hi < 100) (hu2 : u2 = nI lo2) (hv2 : v2 = nI hi2) (hlo2 : lo2 ≤ hi2 ∧ hi2 < 100)
    (tail : ∀ x y mi1 ml1, lo ≤ x → x ≤ hi → lo2 ≤ y → y ≤ hi2 → DwX mi1 h → (∀ mi2 ml2, fE h mi1 mi2 ml1 ml2 → DwX mi2 h → (F.1 = 0 → DrX k mi1 ml1 h r → DrX k mi2 ml2 h (g x y)) → K mi2 ml2) → C (nI x) (nI y) mi1 ml1)
    (k9 : ∀ mi' ml', fD h mi mi' ml ml' → outX k mi' ml' h t n (num2 t n lo hi lo2 hi2 s F g) → K mi' ml') : wI l M_X5_takeNumber (d + 3) [.ref h, .int u, .int v] kd mr mi ml (fun x mi1 ml1 => wI l M_X5_takeNumber (d + 3) [.ref h, .int u2, .int v2] kd mr mi1 ml1 fun y mi2 ml2 => C x y mi2 ml2) := by
  refine s_takeNumber th P X hu hv (by omega) (fun mi1 hk f1 X1 => ?_) (fun mi1 hk f1 X1 => ?_)
  · obtain ⟨v1, v2⟩ := nmV_le (t := t) (n := n) (s := s) hlo.1
    refine X_num1 (k := k) (r := r) (g := g (nmV t n lo hi s)) (K := K) th (P.fH f1) X1 (W.fH f1) (fun h0 => (D (nmF_0 h0).1).fH f1) hu2 hv2 hlo2 (fun y mi2 ml2 y1 y2 W2 kk => tail _ y mi2 ml2 v1 v2 y1 y2 W2 fun mi3 ml3 f3 W3 D3 => kk mi3 ml3 f3 W3 fun h0 => D3 (nmF_0 h0).1) fun mi' ml' f o => k9 mi' ml' (f1.D.tr f) ?_
    unfold num2
    rw [if_pos hk]; exact o
  · refine X_num1_sk (k := k) (t := t) (n := n) (K := K) th X1 (W.fH f1) hu2 hlo2.1 (fun y mi2 ml2 y1 y2 W2 kk => tail lo y mi2 ml2 (Nat.le_refl _) hlo.1 y1 y2 W2 fun mi3 ml3 f3 W3 _ => kk mi3 ml3 f3 W3) fun mi' ml' f o => k9 mi' ml' (f1.D.tr f) ?_
    unfold num2
    rw [if_neg hk]; exact o
theorem fullF_n {r : Nat → Int32} {cn most s : Nat} {F : Nat × Nat} (h : F.1 ≠ 0) : fullF r cn most s F = F := by
  unfold fullF; rw [noteF_n h]; split <;> rfl
end LNX
/-! what a draft is, while no FAULT is told -/
def farR (r : Nat → Int32) (i : Nat) (ok : Nat → Prop) : Prop := ∃ m, m ≤ 8 ∧ r i = nI m - 1 ∧ ok m ∧ ∀ w, ok w → m ≤ w
def inC (r : Nat → Int32) (m : Nat) : Prop := (∀ p, p < gN r 3 → gN r (15 + p) < m) ∧ (∀ p, p < gN r 4 → gN r (33 + p) < m) ∧ ∀ y x, y < 8 → (gN r (45 + y)).testBit x = true → x < m
def inR (r : Nat → Int32) (m : Nat) : Prop := (∀ p, p < gN r 3 → gN r (21 + p) < m) ∧ (∀ p, p < gN r 4 → gN r (39 + p) < m) ∧ ∀ y x, y < 8 → (gN r (45 + y)).testBit x = true → y < m
def prC (r : Nat → Int32) : Prop := (∀ j, j < 53 → r j = nI (gN r j) ∧ gN r j < 256) ∧ (2 ≤ gN r 0 ∧ gN r 0 ≤ 8) ∧ (2 ≤ gN r 1 ∧ gN r 1 ≤ 8) ∧ gN r 2 ≤ 4 ∧ gN r 3 ≤ 6 ∧ gN r 4 ≤ 6 ∧ (∀ c, c < 4 → gN r (5 + c) ≤ 9) ∧
  (∀ p, p < gN r 3 → gN r (9 + p) < 4 ∧ gN r (15 + p) < 8 ∧ gN r (21 + p) < 8) ∧ (∀ p, p < gN r 4 → gN r (27 + p) < 4 ∧ gN r (33 + p) < 8 ∧ gN r (39 + p) < 8) ∧ farR r 200 (inC r) ∧ farR r 201 (inR r)
def prN (r : Nat → Int32) : Prop := r 0 = nI (gN r 0) ∧ okN r
def prS (r : Nat → Int32) : Prop := r 0 = nI (gN r 0) ∧ okS r
def inV (r : Nat → Int32) (m : Nat) : Prop := ∀ i, i < gN r 2 → gN r (4 + 3 * i) < m ∧ gN r (5 + 3 * i) < m
def prT (r : Nat → Int32) : Prop := r 2 = nI (gN r 2) ∧ gN r 2 ≤ 12 ∧ r 0 = nI (gN r 0) ∧ 1 ≤ gN r 0 ∧ gN r 0 ≤ 8 ∧ (r 1 = -1 ∨ (r 1 = nI (gN r 1) ∧ gN r 1 ≤ 8)) ∧ (∀ i, i < gN r 2 → ∃ a b c, a < 2 ∧ b < 8 ∧ c < 8 ∧ r (3 + 3 * i) = nI a ∧ r (4 + 3 * i) = nI b ∧ r (5 + 3 * i) = nI c) ∧ farR r 202 (inV r)
def prA (k : Nat) (r : Nat → Int32) : Prop := if k = 0 then prC r else if k = 1 then prN r else if k = 2 then prT r else prS r
theorem gN_up1 {r : Nat → Int32} {i j : Nat} {v : Int32} (h : i ≠ j) : gN (up1 r j v) i = gN r i := by unfold gN; rw [up1_n r v h]
theorem gN_up1s {r : Nat → Int32} {j m : Nat} (h : m < 2147483648) : gN (up1 r j (nI m)) j = m := by unfold gN; rw [up1_s, z_cl h]
