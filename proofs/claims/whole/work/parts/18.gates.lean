/-! gate and next, each side -/
theorem nd_in_c {p : Int32} {n : Nat} (hn : n < 2 ^ 31) (h : nd_in p n = true) : p.toNatClampNeg < n ∧ p = nI p.toNatClampNeg := by
  obtain ⟨j, hj, rfl⟩ := (nd_in_iff hn).mp h
  rw [nI_clamp (by omega)]
  exact ⟨hj, rfl⟩
theorem nd_lg_f {n j : Nat} {p1 p2 p3 : Int32} (hn : n ≤ 32) (hj : j < 10) (h : nd_lg n j p1 p2 p3 = true) :
    (p1.toNatClampNeg < n ∧ p1 = nI p1.toNatClampNeg) ∧ (1 ≤ j → j < 6 → p2.toNatClampNeg < n ∧ p2 = nI p2.toNatClampNeg) ∧ (6 ≤ j → p2.toNatClampNeg < 7 ∧ p2 = nI p2.toNatClampNeg) ∧ (j = 4 ∨ j = 5 ∨ j = 8 → p3.toNatClampNeg < n ∧ p3 = nI p3.toNatClampNeg) ∧ (j = 9 → p3.toNatClampNeg < 2 ∧ p3 = nI p3.toNatClampNeg) := by
  have hn' : n < 2 ^ 31 := by omega
  have two : (decide (p3 = 0) || decide (p3 = 1)) = true → p3.toNatClampNeg < 2 ∧ p3 = nI p3.toNatClampNeg := by
    intro z
    rw [Bool.or_eq_true] at z
    rcases z with z | z
    · rw [of_decide_eq_true z]; exact ⟨by decide, by decide⟩
    · rw [of_decide_eq_true z]; exact ⟨by decide, by decide⟩
  rcases nd_10 hj with rfl | rfl | rfl | rfl | rfl | rfl | rfl | rfl | rfl | rfl
  · have h : nd_in p1 n = true := h
    exact ⟨nd_in_c hn' h, fun y => by omega, fun y => by omega, fun y => by omega, fun y => by omega⟩
  · have h : (nd_in p1 n && nd_in p2 n) = true := h
    rw [Bool.and_eq_true] at h
    exact ⟨nd_in_c hn' h.1, fun _ _ => nd_in_c hn' h.2, fun y => by omega, fun y => by omega, fun y => by omega⟩
  · have h : (nd_in p1 n && nd_in p2 n) = true := h
    rw [Bool.and_eq_true] at h
    exact ⟨nd_in_c hn' h.1, fun _ _ => nd_in_c hn' h.2, fun y => by omega, fun y => by omega, fun y => by omega⟩
  · have h : (nd_in p1 n && nd_in p2 n) = true := h
    rw [Bool.and_eq_true] at h
    exact ⟨nd_in_c hn' h.1, fun _ _ => nd_in_c hn' h.2, fun y => by omega, fun y => by omega, fun y => by omega⟩
  · have h : (nd_in p1 n && (nd_in p2 n && nd_in p3 n)) = true := h
    rw [Bool.and_eq_true, Bool.and_eq_true] at h
    exact ⟨nd_in_c hn' h.1, fun _ _ => nd_in_c hn' h.2.1, fun y => by omega, fun _ => nd_in_c hn' h.2.2, fun y => by omega⟩
  · have h : (nd_in p1 n && (nd_in p2 n && nd_in p3 n)) = true := h
    rw [Bool.and_eq_true, Bool.and_eq_true] at h
    exact ⟨nd_in_c hn' h.1, fun _ _ => nd_in_c hn' h.2.1, fun y => by omega, fun _ => nd_in_c hn' h.2.2, fun y => by omega⟩
  · have h : (nd_in p1 n && nd_in p2 7) = true := h
    rw [Bool.and_eq_true] at h
    exact ⟨nd_in_c hn' h.1, fun y z => by omega, fun _ => nd_in_c (by omega) h.2, fun y => by omega, fun y => by omega⟩
  · have h : (nd_in p1 n && nd_in p2 7) = true := h
    rw [Bool.and_eq_true] at h
    exact ⟨nd_in_c hn' h.1, fun y z => by omega, fun _ => nd_in_c (by omega) h.2, fun y => by omega, fun y => by omega⟩
  · have h : (nd_in p1 n && (nd_in p2 7 && nd_in p3 n)) = true := h
    rw [Bool.and_eq_true, Bool.and_eq_true] at h
    exact ⟨nd_in_c hn' h.1, fun y z => by omega, fun _ => nd_in_c (by omega) h.2.1, fun _ => nd_in_c hn' h.2.2, fun y => by omega⟩
  · have h : (nd_in p1 n && (nd_in p2 7 && (decide (p3 = 0) || decide (p3 = 1)))) = true := h
    rw [Bool.and_eq_true, Bool.and_eq_true] at h
    exact ⟨nd_in_c hn' h.1, fun y z => by omega, fun _ => nd_in_c (by omega) h.2.1, fun y => by omega, fun _ => two h.2.2⟩
/-- whether the gate can be made; its function -/
def nd_ok (n : Nat) (p0 p1 p2 p3 : Int32) : Bool := nd_in p0 10 && nd_lg n p0.toNatClampNeg p1 p2 p3
def nd_M (T : Nat → Nat → Bool) (p0 p1 p2 p3 : Int32) (x : Nat) : Bool := nd_gt T p0.toNatClampNeg p1.toNatClampNeg p2.toNatClampNeg p3.toNatClampNeg x
section NDX
variable {xn xr xm xc xl : Int32} {xT xM xN xI xP xC xH xL xD xR xK xF : Nat → Int32}
theorem xh_gate {T : Nat → Nat → Bool} {n : Nat} {p0 p1 p2 p3 : Int32} (hT : nd_T xT T n) (hn : n ≤ 32) {post : Int32 → SX → Prop}
    (h0 : nd_ok n p0 p1 p2 p3 = false → post (-1) (nI n, xr, xm, xc, xl, xT, xM, xN, xI, xP, xC, xH, xL, xD, xR, xK, xF))
    (h1 : nd_ok n p0 p1 p2 p3 = true → ∀ g, nd_fn T (nd_M T p0 p1 p2 p3) n < n → post (nI (nd_fn T (nd_M T p0 p1 p2 p3) n)) (nI n, xr, xm, xc, xl, xT, g, xN, xI, xP, xC, xH, xL, xD, xR, xK, xF))
    (h2 : nd_ok n p0 p1 p2 p3 = true → ∀ g, nd_fn T (nd_M T p0 p1 p2 p3) n = n → n = 32 → post (-1) (nI n, xr, xm, xc, xl, xT, g, xN, xI, xP, xC, xH, xL, xD, xR, xK, xF))
    (h3 : nd_ok n p0 p1 p2 p3 = true → ∀ g, nd_fn T (nd_M T p0 p1 p2 p3) n = n → n < 32 → ∀ t : Nat → Int32, (∀ x, x < 128 → t (n * 128 + x) = nd_b (nd_M T p0 p1 p2 p3 x)) → (∀ j, j < n * 128 → t j = xT j) → post (nI n) (nI (n + 1), xr, xm, xc, xl, t, g, xN, xI, xP, xC, xH, xL, xD, xR, xK, xF)) : wpX_gate post (nI n, xr, xm, xc, xl, xT, xM, xN, xI, xP, xC, xH, xL, xD, xR, xK, xF) p0 p1 p2 p3 := by
  unfold wpX_gate
  dsimp only
  refine xc_fits hn ?_
  cases z : (nd_in p0 10 && nd_lg n p0.toNatClampNeg p1 p2 p3)
  · exact br_t rfl (h0 z)
  · refine br_f (by decide) ?_
    have y := Bool.and_eq_true_iff.mp z
    obtain ⟨hj, ej⟩ := nd_in_c (by omega) y.1
    obtain ⟨⟨a1, a2⟩, b1, b2, c1, c2⟩ := nd_lg_f hn hj y.2
    have key : ∃ m, wX_gate_17 post (nI p0.toNatClampNeg) p1 p2 p3 (nI n) xr xm xc xl m 0 xT xM xN xI xP xC xH xL xD xR xK xF := by
      refine xc_gate (M := nd_M T p0 p1 p2 p3) hT hn hj (fun g x post hx hp => ⟨fun h6 => ?_, fun h6 => ?_⟩) (h1 z) (h2 z) (h3 z)
      · rw [a2, (b2 h6).2]
        refine xc_moved hT hn h6 hj a1 (b2 h6).1 (c := p3.toNatClampNeg) (fun h8 => ⟨?_, fun e => (c1 (by omega)).1, fun e => (c2 e).1⟩) hx hp
        by_cases e : p0.toNatClampNeg = 8
        · exact (c1 (by omega)).2
        · exact (c2 (by omega)).2
      · rw [a2]
        exact xc_joined hT hn h6 a1 (fun w => b1 w h6) (fun w => c1 (by omega)) hx hp
    rw [← ej] at key
    exact key
theorem xh_cp {T : Nat → Nat → Bool} {n a j : Nat} (hT : nd_T xT T n) (hn : n ≤ 32) (ha : a < n) (h3 : 3 ≤ j) (h7 : j < 7) {post : Int32 → SX → Prop}
    (h : ∀ t : Nat → Int32, (∀ x, x < 128 → t ((j - 3) * 128 + x) = nd_b (T a x)) → (∀ i, i < (j - 3) * 128 ∨ (j - 3) * 128 + 128 ≤ i → t i = xN i) → post 1 (xn, xr, xm, xc, xl, xT, xM, t, xI, xP, xC, xH, xL, xD, xR, xK, xF)) : wX_next_38 post (nI j) (nI a) xn xr xm xc xl xT xM xN xI xP xC xH xL xD xR xK xF := by
  unfold wX_next_38
  rw [show nI j - 3 = nI (j - 3) from pk_sub (b := 3) h3]
  exact xa_cpy hT hn ha (by omega) (fun t h1 h2 => h t h1 h2)
end NDX
section NDY
variable {yn ys yt ye : Int32} {yl yh : Nat → Int64} {yI yP yC yF yA yQ yR : Nat → Int32}
theorem yh_gate {T : Nat → Nat → Bool} {n : Nat} {p0 p1 p2 p3 : Int32} (hY : nd_Y yl yh T) (hn : n ≤ 32) {post : Int32 → SY → Prop}
    (h0 : nd_ok n p0 p1 p2 p3 = false → post (-1) (nI n, ys, yt, ye, yl, yh, yI, yP, yC, yF, yA, yQ, yR))
    (h1 : nd_ok n p0 p1 p2 p3 = true → ∀ l w, nd_Y l w T → nd_fn T (nd_M T p0 p1 p2 p3) n < n → post (nI (nd_fn T (nd_M T p0 p1 p2 p3) n)) (nI n, ys, yt, ye, l, w, yI, yP, yC, yF, yA, yQ, yR))
    (h2 : nd_ok n p0 p1 p2 p3 = true → ∀ l w, nd_Y l w T → nd_fn T (nd_M T p0 p1 p2 p3) n = n → n = 32 → post (-1) (nI n, ys, yt, ye, l, w, yI, yP, yC, yF, yA, yQ, yR))
    (h3 : nd_ok n p0 p1 p2 p3 = true → ∀ l w, nd_fn T (nd_M T p0 p1 p2 p3) n = n → n < 32 → (∀ a x, a < 36 → x < 128 → nd_yb l w a x = if a = n then nd_M T p0 p1 p2 p3 x else T a x) → post (nI n) (nI (n + 1), ys, yt, ye, l, w, yI, yP, yC, yF, yA, yQ, yR)) : wpY_gate post (nI n, ys, yt, ye, yl, yh, yI, yP, yC, yF, yA, yQ, yR) p0 p1 p2 p3 := by
  unfold wpY_gate
  dsimp only
  refine yc_legal hn ?_
  cases z : (nd_in p0 10 && nd_lg n p0.toNatClampNeg p1 p2 p3)
  · exact br_t rfl (h0 z)
  · refine br_f (by decide) (nm_e (nm_e ?_))
    have y := Bool.and_eq_true_iff.mp z
    obtain ⟨hj, ej⟩ := nd_in_c (by omega) y.1
    obtain ⟨⟨a1, a2⟩, b1, b2, c1, c2⟩ := nd_lg_f hn hj y.2
    have hY' : nd_Y (vp_updL yl 36 0) (vp_updL yh 36 0) T := by
      intro a x ha hx
      rw [← hY a x ha hx]
      unfold nd_yb
      rw [pk_uLn (by omega), pk_uLn (by omega)]
    have h36 : ∀ x, x < 128 → nd_yb (vp_updL yl 36 0) (vp_updL yh 36 0) 36 x = false := by
      intro x _
      unfold nd_yb
      rw [pk_uLs, pk_uLs]
      split
      · exact BitVec.getLsbD_zero
      · exact BitVec.getLsbD_zero
    have key : ∃ m, wY_gate_33 post (nI p0.toNatClampNeg) p1 p2 p3 m 0 (nI n) ys yt ye (vp_updL yl 36 0) (vp_updL yh 36 0) yI yP yC yF yA yQ yR := by
      refine yc_gate (M := nd_M T p0 p1 p2 p3) hY' hn h36 (fun l w x post hYl hx hp => ?_) (h1 z) (h2 z) (h3 z)
      rw [a2]
      refine yc_made hYl hj (by omega) (b := p2.toNatClampNeg) (c := p3.toNatClampNeg) (fun w => ?_) (fun w => ?_) hx hp
      · by_cases e : 6 ≤ p0.toNatClampNeg
        · exact ⟨by have := (b2 e).1; omega, (b2 e).2, fun _ => (b2 e).1⟩
        · exact ⟨by have := (b1 w (by omega)).1; omega, (b1 w (by omega)).2, fun e2 => absurd e2 e⟩
      · by_cases e : p0.toNatClampNeg = 9
        · exact ⟨by have := (c2 e).1; omega, (c2 e).2, fun _ => (c2 e).1⟩
        · exact ⟨by have := (c1 (by omega)).1; omega, (c1 (by omega)).2, fun e2 => absurd e2 e⟩
    rw [← ej] at key
    exact key
theorem yh_cp {a j : Nat} (ha : a < 37) (h7 : j < 7) {post : Int32 → SY → Prop}
    (h : ∀ l w : Nat → Int64, (∀ a' x', nd_yb l w a' x' = if a' = 29 + j then nd_yb yl yh a x' else nd_yb yl yh a' x') → post 1 (yn, ys, yt, ye, l, w, yI, yP, yC, yF, yA, yQ, yR)) : wY_next_36 post (nI j) (nI a) yn ys yt ye yl yh yI yP yC yF yA yQ yR := by
  unfold wY_next_36
  rw [show (29 : Int32) + nI j = nI (29 + j) from nI_add 29 j]
  exact ya_copy ha (by omega) (fun l w hw => h l w hw)
end NDY
