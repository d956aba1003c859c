/-! the law's loop -/
theorem z_neg6 : ∀ N, N < 6 → nI N - 6 < 0 := by decide
theorem z_six6 {N i : Nat} (h : N < i + 6) (hN : N ≤ 3072) (hi : i < 4000) : Int32.ofNat N - 6 < nI i := by
  by_cases q : N < 6
  · exact z_ltm (z_neg6 N q) (by omega)
  · have e6 : Int32.ofNat N - 6 = nI (N - 6) := z_sub (a := N) (b := 6) (by omega)
    rw [e6, z_lt (by omega) (by omega)]
    omega
section TIE
variable {l : Launch} {x z : Nat} {kd : pm_K} {mr : pm_R}
def tyT (l : Launch) (kd : pm_K) (mr : pm_R) (x z : Nat) : Prop := ∀ (a b : Int32) (mi : pm_I) (ml : pm_L), IV x z mi ml → wI l M_X11_text 13 [.ref x, .int a, .int b] kd mr mi ml fun r mi1 ml1 => wI l M_X12_text 13 [.ref z, .int a, .int b] kd mr mi1 ml1 fun r2 mi2 ml2 => r = r2 ∧ IV x z mi2 ml2
def tyC (l : Launch) (kd : pm_K) (mr : pm_R) (x z : Nat) : Prop := ∀ (a b c : Int32) (mi : pm_I) (ml : pm_L), IV x z mi ml → wI l M_X11_cordon 13 [.ref x, .int a, .int b, .int c] kd mr mi ml fun r mi1 ml1 => wI l M_X12_cordon 13 [.ref z, .int a, .int b, .int c] kd mr mi1 ml1 fun r2 mi2 ml2 => r = r2 ∧ IV x z mi2 ml2
theorem law_loop (tx : TX11s kd mr x) (tz : TX12s kd mr z) (hT : tyT l kd mr x z) (hC : tyC l kd mr x z) {N : Nat} {scr : Nat → Int32} {cs ss : Nat} (hN : N ≤ 3072) (hc : cs ≤ 600000 ∧ ss ≤ 7302250) : ∀ (u i : Nat) (mi : pm_I) (ml : pm_L), N ≤ i + 6 * u → i ≤ N + 6 → IV x z mi ml → c_L_law_18 l N scr cs ss kd mr x z (nI i) mi ml := by
  intro u
  induction u with
  | zero =>
    intro i mi ml hi hi2 I
    exact w_L_law_18 tx tz hc ⟨fun _ => trivial, fun h => absurd (z_six6 (by omega) (by omega) (by omega)) h⟩
  | succ u ih =>
    intro i mi ml hi hi2 I
    by_cases h6 : N < i + 6
    · exact w_L_law_18 tx tz hc ⟨fun _ => trivial, fun h => absurd (z_six6 h6 (by omega) (by omega)) h⟩
    · have e6 : Int32.ofNat N - 6 = nI (N - 6) := z_sub (a := N) (b := 6) (by omega)
      have nx : ∀ (mi' : pm_I) (ml' : pm_L), IV x z mi' ml' → c_L_law_1352 l N scr cs ss kd mr x z (nI i) mi' ml' := fun mi' ml' I' => w_L_law_1352 tx tz hc (by
        have e : nI i + 6 = nI (i + 6) := nI_add i 6
        rw [e]; exact ih (i + 6) mi' ml' (by omega) (by omega) I')
      have fin : ∀ {r r2 : Int32} (mi2 : pm_I) (ml2 : pm_L), (r = r2 ∧ IV x z mi2 ml2) → ((r = r2 → c_L_law_1352 l N scr cs ss kd mr x z (nI i) mi2 ml2) ∧ (¬ r = r2 → False)) := fun mi2 ml2 e => ⟨fun _ => nx mi2 ml2 e.2, fun q => q e.1⟩
      have finB : ∀ {r r2 : Bool} (mi2 : pm_I) (ml2 : pm_L), (r = r2 ∧ IV x z mi2 ml2) → ((b2i r = b2i r2 → c_L_law_1352 l N scr cs ss kd mr x z (nI i) mi2 ml2) ∧ (¬ b2i r = b2i r2 → False)) := fun mi2 ml2 e => ⟨fun _ => nx mi2 ml2 e.2, fun q => q (by rw [e.1])⟩
      have v0 : vp_in (nI i) N := by
        exact z_in (by omega) (by omega)
      have v1 : vp_in (nI i + 1) N := by
        rw [show nI i + 1 = nI (i + 1) from nI_add i 1]; exact z_in (by omega) (by omega)
      have v2 : vp_in (nI i + 2) N := by
        rw [show nI i + 2 = nI (i + 2) from nI_add i 2]; exact z_in (by omega) (by omega)
      have v3 : vp_in (nI i + 3) N := by
        rw [show nI i + 3 = nI (i + 3) from nI_add i 3]; exact z_in (by omega) (by omega)
      have v4 : vp_in (nI i + 4) N := by
        rw [show nI i + 4 = nI (i + 4) from nI_add i 4]; exact z_in (by omega) (by omega)
      have v5 : vp_in (nI i + 5) N := by
        rw [show nI i + 5 = nI (i + 5) from nI_add i 5]; exact z_in (by omega) (by omega)
      refine w_L_law_18 tx tz hc ⟨fun _ => trivial, fun _ => ⟨v0, fun _ => nx mi ml I, fun _ => ?c0, fun _ => ?c1, fun _ => ?c2, fun _ => ?c3, fun _ => ?c4, fun _ => ?c5, fun _ => ?c6, fun _ => ?c7, fun _ => ?c8, fun _ => ?c9, fun _ => ?c10, fun _ => ?c11, fun _ => ?c12, fun _ => ?c13, fun _ => ?c14, fun _ => ?c15, fun _ => ?c16, fun _ => ?c17, fun _ => ?c18, fun _ => ?c19, fun _ => ?c20, fun _ => ?c21, fun _ => ?c22, fun _ => ?c23, fun _ => ?c24, fun _ => ?c25, fun _ => ?c26, fun _ => ?c27, fun _ => ?c28, fun _ => ?c29⟩⟩
      case c0 => exact ⟨v1, v2, v3, v4, v5, wI.mono (fun r mi1 ml1 h => ⟨v1, v2, v3, v4, v5, wI.mono (fun r2 mi2 ml2 e => fin mi2 ml2 e) h⟩) (c_feed (d := 12) tx tz I)⟩
      case c1 => exact ⟨v1, wI.mono (fun r mi1 ml1 h => ⟨v1, wI.mono (fun r2 mi2 ml2 e => fin mi2 ml2 e) h⟩) (c_end (d := 12) tx tz I)⟩
      case c2 => exact ⟨v1, v2, wI.mono (fun r mi1 ml1 h => ⟨v1, v2, wI.mono (fun r2 mi2 ml2 e => fin mi2 ml2 e) h⟩) (hT _ _ mi ml I)⟩
      case c3 => exact ⟨v1, wI.mono (fun r mi1 ml1 h => ⟨v1, wI.mono (fun r2 mi2 ml2 e => fin mi2 ml2 e) h⟩) (c_fault (d := 13) tx tz I)⟩
      case c4 => exact ⟨v1, v2, wI.mono (fun r mi1 ml1 h => ⟨v1, v2, wI.mono (fun r2 mi2 ml2 e => fin mi2 ml2 e) h⟩) (c_city (d := 9) tx tz I)⟩
      case c5 => exact ⟨v1, v2, v3, wI.mono (fun r mi1 ml1 h => ⟨v1, v2, v3, wI.mono (fun r2 mi2 ml2 e => fin mi2 ml2 e) h⟩) (c_deed (d := 9) tx tz I)⟩
      case c6 => exact ⟨v1, v2, wI.mono (fun r mi1 ml1 h => ⟨v1, v2, wI.mono (fun r2 mi2 ml2 e => fin mi2 ml2 e) h⟩) (c_stop (d := 5) tx tz I)⟩
      case c7 => exact ⟨v1, v2, v3, v4, wI.mono (fun r mi1 ml1 h => ⟨v1, v2, v3, v4, wI.mono (fun r2 mi2 ml2 e => fin mi2 ml2 e) h⟩) (c_state (d := 5) tx tz I)⟩
      case c8 => exact ⟨v1, v2, v3, wI.mono (fun r mi1 ml1 h => ⟨v1, v2, v3, wI.mono (fun r2 mi2 ml2 e => fin mi2 ml2 e) h⟩) (c_hears (d := 9) tx tz I)⟩
      case c9 => exact ⟨v1, wI.mono (fun r mi1 ml1 h => ⟨v1, wI.mono (fun r2 mi2 ml2 e => fin mi2 ml2 e) h⟩) (c_enough (d := 7) tx tz I)⟩
      case c10 => exact ⟨v1, v2, v3, v4, wI.mono (fun r mi1 ml1 h => ⟨v1, v2, v3, v4, wI.mono (fun r2 mi2 ml2 e => fin mi2 ml2 e) h⟩) (c_fresh (d := 6) tx tz I)⟩
      case c11 => exact ⟨v1, v2, v3, v4, v5, wI.mono (fun r mi1 ml1 h => ⟨v1, v2, v3, v4, v5, wI.mono (fun r2 mi2 ml2 e => fin mi2 ml2 e) h⟩) (c_gather (d := 7) tx tz I)⟩
      case c12 => exact ⟨v1, v2, v3, wI.mono (fun r mi1 ml1 h => ⟨v1, v2, v3, wI.mono (fun r2 mi2 ml2 e => fin mi2 ml2 e) h⟩) (c_chase (d := 7) tx tz I)⟩
      case c13 => exact ⟨v1, v2, v3, wI.mono (fun r mi1 ml1 h => ⟨v1, v2, v3, wI.mono (fun r2 mi2 ml2 e => fin mi2 ml2 e) h⟩) (c_programme (d := 7) tx tz I)⟩
      case c14 => exact ⟨v1, v2, v3, wI.mono (fun r mi1 ml1 h => ⟨v1, v2, v3, wI.mono (fun r2 mi2 ml2 e => fin mi2 ml2 e) h⟩) (c_part (d := 9) tx tz I)⟩
      case c15 => exact ⟨v1, wI.mono (fun r mi1 ml1 h => ⟨v1, wI.mono (fun r2 mi2 ml2 e => fin mi2 ml2 e) h⟩) (c_line (d := 9) tx tz I)⟩
      case c16 => exact ⟨v1, v2, wI.mono (fun r mi1 ml1 h => ⟨v1, v2, wI.mono (fun r2 mi2 ml2 e => fin mi2 ml2 e) h⟩) (c_trial (d := 9) tx tz I)⟩
      case c17 => exact ⟨v1, v2, wI.mono (fun r mi1 ml1 h => ⟨v1, v2, wI.mono (fun r2 mi2 ml2 e => fin mi2 ml2 e) h⟩) (c_thieves (d := 8) tx tz I)⟩
      case c18 => exact ⟨v1, v2, v3, wI.mono (fun r mi1 ml1 h => ⟨v1, v2, v3, wI.mono (fun r2 mi2 ml2 e => fin mi2 ml2 e) h⟩) (c_fact (d := 9) tx tz I)⟩
      case c19 => exact ⟨v1, v2, v3, wI.mono (fun r mi1 ml1 h => ⟨v1, v2, v3, wI.mono (fun r2 mi2 ml2 e => fin mi2 ml2 e) h⟩) (c_seen (d := 6) tx tz I)⟩
      case c20 => exact ⟨v1, v2, v3, v4, wI.mono (fun r mi1 ml1 h => ⟨v1, v2, v3, v4, wI.mono (fun r2 mi2 ml2 e => fin mi2 ml2 e) h⟩) (c_drawn (d := 5) tx tz I)⟩
      case c21 => exact ⟨v1, v2, v3, wI.mono (fun r mi1 ml1 h => ⟨v1, v2, v3, wI.mono (fun r2 mi2 ml2 e => fin mi2 ml2 e) h⟩) (c_steps (d := 9) tx tz I)⟩
      case c22 => exact ⟨v1, v2, wI.mono (fun r mi1 ml1 h => ⟨v1, v2, wI.mono (fun r2 mi2 ml2 e => fin mi2 ml2 e) h⟩) (c_blocks (d := 9) tx tz I)⟩
      case c23 => exact ⟨v1, v2, v3, wI.mono (fun r mi1 ml1 h => ⟨v1, v2, v3, wI.mono (fun r2 mi2 ml2 e => fin mi2 ml2 e) h⟩) (hC _ _ _ mi ml I)⟩
      case c24 => exact ⟨v1, v2, wI.mono (fun r mi1 ml1 h => ⟨v1, v2, wI.mono (fun r2 mi2 ml2 e => fin mi2 ml2 e) h⟩) (c_square (d := 7) tx tz I)⟩
      case c25 => exact ⟨v1, wI.mono (fun r mi1 ml1 h => ⟨v1, wI.mono (fun r2 mi2 ml2 e => fin mi2 ml2 e) h⟩) (c_silent (d := 7) tx tz I)⟩
      case c26 => exact ⟨v1, v2, wI.mono (fun r mi1 ml1 h => ⟨v1, v2, wI.mono (fun r2 mi2 ml2 e => fin mi2 ml2 e) h⟩) (c_round (d := 7) tx tz I)⟩
      case c27 => exact ⟨v1, wI.mono (fun r mi1 ml1 h => ⟨v1, wI.mono (fun r2 mi2 ml2 e => fin mi2 ml2 e) h⟩) (c_count (d := 12) tx tz I)⟩
      case c28 => exact ⟨v1, wB.mono (fun r mi1 ml1 h => ⟨v1, wB.mono (fun r2 mi2 ml2 e => finB mi2 ml2 e) h⟩) (c_image (d := 9) tx tz I)⟩
      case c29 => exact ⟨v1, wB.mono (fun r mi1 ml1 h => ⟨v1, wB.mono (fun r2 mi2 ml2 e => finB mi2 ml2 e) h⟩) (c_again (d := 9) tx tz I)⟩
end TIE
