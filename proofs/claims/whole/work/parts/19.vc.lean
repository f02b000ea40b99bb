/-! the relation, and what is owed -/
/-- n nets with the same functions, the same NEXT functions, RESET state, state and row of inputs; all else is scratch -/
def nd_RR (n s0 st L : Nat) (xT xN xR : Nat → Int32) (yl yh : Nat → Int64) (yR : Nat → Int32) : Prop :=
  9 ≤ n ∧ n ≤ 32 ∧ s0 < 16 ∧ st < 16 ∧ L ≤ 16 ∧ nd_T xT (nd_yb yl yh) n ∧ nd_T xN (fun k => nd_yb yl yh (32 + k)) 4 ∧ ∀ k, k < L → xR k = yR k
def i_Rel (k : Nat) (u : SX) (v : SY) : Prop := 
  ∃ (n s0 st L : Nat) (xc : Int32) (xT xM xN xI xP xC xH xL xD xR xK xF : Nat → Int32) (yl yh : Nat → Int64) (yI yP yC yF yA yQ yR : Nat → Int32),
    u = (nI n, nI s0, nI st, xc, nI L, xT, xM, xN, xI, xP, xC, xH, xL, xD, xR, xK, xF) ∧ v = (nI n, nI s0, nI st, nI L - 1, yl, yh, yI, yP, yC, yF, yA, yQ, yR) ∧ nd_RR n s0 st L xT xN xR yl yh yR
section NDR
variable {xn xr xm xc xl : Int32} {xT xM xN xI xP xC xH xL xD xR xK xF : Nat → Int32}
variable {yn ys yt ye : Int32} {yl yh : Nat → Int64} {yI yP yC yF yA yQ yR : Nat → Int32}
theorem nd_mk {k n s0 st L : Nat} {e : Int32} (he : e = nI L - 1) (R : nd_RR n s0 st L xT xN xR yl yh yR) : i_Rel k (nI n, nI s0, nI st, xc, nI L, xT, xM, xN, xI, xP, xC, xH, xL, xD, xR, xK, xF) (nI n, nI s0, nI st, e, yl, yh, yI, yP, yC, yF, yA, yQ, yR) := by
  subst he
  exact ⟨n, s0, st, L, xc, xT, xM, xN, xI, xP, xC, xH, xL, xD, xR, xK, xF, yl, yh, yI, yP, yC, yF, yA, yQ, yR, rfl, rfl, R⟩
theorem nd_RY {n s0 st L : Nat} {l w : Nat → Int64} (R : nd_RR n s0 st L xT xN xR yl yh yR) (h : nd_Y l w (nd_yb yl yh)) : nd_RR n s0 st L xT xN xR l w yR := by
  obtain ⟨h9, hn, h0, hst, hL, hT, hN, hR⟩ := R
  refine ⟨h9, hn, h0, hst, hL, ?_, ?_, hR⟩
  · intro a x ha hx
    rw [h a x (by omega) hx]; exact hT a x ha hx
  · intro k x hk hx
    show _ = nd_b (nd_yb l w (32 + k) x)
    rw [h (32 + k) x (by omega) hx]; exact hN k x hk hx
theorem nd_RN {n s0 st L : Nat} {l w : Nat → Int64} {t : Nat → Int32} {M : Nat → Bool} (R : nd_RR n s0 st L xT xN xR yl yh yR) (h32 : n < 32) (h : ∀ a x, a < 36 → x < 128 → nd_yb l w a x = if a = n then M x else nd_yb yl yh a x)
    (h1 : ∀ x, x < 128 → t (n * 128 + x) = nd_b (M x)) (h2 : ∀ j, j < n * 128 → t j = xT j) : nd_RR (n + 1) s0 st L t xN xR l w yR := by
  obtain ⟨h9, hn, h0, hst, hL, hT, hN, hR⟩ := R
  refine ⟨by omega, by omega, h0, hst, hL, ?_, ?_, hR⟩
  · intro a x ha hx
    rw [h a x (by omega) hx]
    by_cases z : a = n
    · rw [if_pos z, z]; exact h1 x hx
    · rw [if_neg z, h2 _ (by omega)]; exact hT a x (by omega) hx
  · intro k x hk hx
    show _ = nd_b (nd_yb l w (32 + k) x)
    rw [h (32 + k) x (by omega) hx, if_neg (by omega)]; exact hN k x hk hx
theorem nd_RX {n s0 st L a j : Nat} {l w : Nat → Int64} {t : Nat → Int32} (R : nd_RR n s0 st L xT xN xR yl yh yR) (h3 : 3 ≤ j) (h7 : j < 7) (h : ∀ a' x', nd_yb l w a' x' = if a' = 29 + j then nd_yb yl yh a x' else nd_yb yl yh a' x')
    (h1 : ∀ x, x < 128 → t ((j - 3) * 128 + x) = nd_b (nd_yb yl yh a x)) (h2 : ∀ i, i < (j - 3) * 128 ∨ (j - 3) * 128 + 128 ≤ i → t i = xN i) : nd_RR n s0 st L xT t xR l w yR := by
  obtain ⟨h9, hn, h0, hst, hL, hT, hN, hR⟩ := R
  refine ⟨h9, hn, h0, hst, hL, ?_, ?_, hR⟩
  · intro a' x ha hx
    rw [h a' x, if_neg (by omega)]; exact hT a' x ha hx
  · intro k x hk hx
    show _ = nd_b (nd_yb l w (32 + k) x)
    rw [h (32 + k) x]
    by_cases z : k = j - 3
    · rw [if_pos (by omega), z]; exact h1 x hx
    · rw [if_neg (by omega), h2 _ (by omega)]; exact hN k x hk hx
end NDR
theorem i_up {k : Nat} {u : SX} {v : SY} (h : i_Rel k u v) : i_Rel (k + 5) u v := h
theorem i_vc0 : wpX_init (fun u => wpY_init (fun v => i_Rel 0 u v)) := by
  refine xi_init (fun t w ht hw => yi_init (fun l h h1 h2 => nd_mk (by decide) ⟨by omega, by omega, by omega, by omega, by omega, ?_, ?_, fun k hk => absurd hk (by omega)⟩))
  · intro a x ha hx
    rw [ht a x ha hx, h1 a x ha hx]
  · intro k x hk hx
    rw [hw k x hk hx]
    show _ = nd_b (nd_yb l h (32 + k) x)
    rw [h2 k x hk hx]
theorem i_vc_gate {k : Nat} {u : SX} {v : SY} (I : i_Rel k u v) (hk : k + 5 ≤ 2560) (v1 : Int32) (v2 : Int32) (v3 : Int32) (v4 : Int32) : wpX_gate (fun r u' => wpY_gate (fun r' v' => r' = r ∧ i_Rel (k + 5) u' v') v v1 v2 v3 v4) u v1 v2 v3 v4 := by
  obtain ⟨n, s0, st, L, xc, xT, xM, xN, xI, xP, xC, xH, xL, xD, xR, xK, xF, yl, yh, yI, yP, yC, yF, yA, yQ, yR, rfl, rfl, R⟩ := I
  have R' := R
  obtain ⟨h9, hn, h0, hst, hL, hT, hN, hR⟩ := R'
  have hY : nd_Y yl yh (nd_yb yl yh) := fun _ _ _ _ => rfl
  refine xh_gate hT hn (fun z => ?_) (fun z g e => ?_) (fun z g e e2 => ?_) (fun z g e e2 t h1 h2 => ?_)
  · exact yh_gate hY hn (fun _ => ⟨rfl, nd_mk rfl R⟩) (fun y => by rw [z] at y; cases y) (fun y => by rw [z] at y; cases y) (fun y => by rw [z] at y; cases y)
  · exact yh_gate hY hn (fun y => by rw [z] at y; cases y) (fun _ l w h3 _ => ⟨rfl, nd_mk rfl (nd_RY R h3)⟩) (fun _ l w h3 e3 => by omega) (fun _ l w e3 => by omega)
  · exact yh_gate hY hn (fun y => by rw [z] at y; cases y) (fun _ l w h3 e3 => by omega) (fun _ l w h3 _ _ => ⟨rfl, nd_mk rfl (nd_RY R h3)⟩) (fun _ l w e3 e4 => by omega)
  · exact yh_gate hY hn (fun y => by rw [z] at y; cases y) (fun _ l w h3 e3 => by omega) (fun _ l w h3 _ e4 => by omega) (fun _ l w _ _ h3 => ⟨rfl, nd_mk rfl (nd_RN R e2 h3 h1 h2)⟩)
theorem i_vc_undo {k : Nat} {u : SX} {v : SY} (I : i_Rel k u v) (hk : k + 5 ≤ 2560) (v1 : Int32) : wpX_undo (fun r u' => wpY_undo (fun r' v' => r' = r ∧ i_Rel (k + 5) u' v') v v1) u v1 := by
  obtain ⟨n, s0, st, L, xc, xT, xM, xN, xI, xP, xC, xH, xL, xD, xR, xK, xF, yl, yh, yI, yP, yC, yF, yA, yQ, yR, rfl, rfl, R⟩ := I
  have R' := R
  obtain ⟨h9, hn, h0, hst, hL, hT, hN, hR⟩ := R'
  have hY : nd_Y yl yh (nd_yb yl yh) := fun _ _ _ _ => rfl
  by_cases z : v1 < 9
  · exact br_t z (br_t z ⟨rfl, nd_mk rfl R⟩)
  · obtain ⟨j, h1, h2, rfl⟩ := nd_big (n := 9) (by omega) (Int32.not_lt.mp z)
    by_cases y : j ≤ n
    · have e : nI j ≤ nI n := nI_le y (by omega)
      refine br_f z (br_t e (nm_r (pk_sub y) (br_f z (br_t e (nm_r (pk_sub y) ⟨rfl, nd_mk rfl ?_⟩)))))
      exact ⟨h1, by omega, h0, hst, hL, fun a x ha hx => hT a x (by omega) hx, hN, hR⟩
    · have e : ¬ nI j ≤ nI n := nI_ge (by omega) h2
      exact br_f z (br_f e (br_f z (br_f e ⟨rfl, nd_mk rfl R⟩)))
theorem i_vc_next {k : Nat} {u : SX} {v : SY} (I : i_Rel k u v) (hk : k + 5 ≤ 2560) (v1 : Int32) (v2 : Int32) : wpX_next (fun r u' => wpY_next (fun r' v' => r' = r ∧ i_Rel (k + 5) u' v') v v1 v2) u v1 v2 := by
  obtain ⟨n, s0, st, L, xc, xT, xM, xN, xI, xP, xC, xH, xL, xD, xR, xK, xF, yl, yh, yI, yP, yC, yF, yA, yQ, yR, rfl, rfl, R⟩ := I
  have R' := R
  obtain ⟨h9, hn, h0, hst, hL, hT, hN, hR⟩ := R'
  have hY : nd_Y yl yh (nd_yb yl yh) := fun _ _ _ _ => rfl
  by_cases z : v1 < 3
  · exact br_t z (br_t z ⟨rfl, nd_mk rfl R⟩)
  · obtain ⟨j, h1, h2, rfl⟩ := nd_big (n := 3) (by omega) (Int32.not_lt.mp z)
    by_cases y : j < 7
    · have e1 : nI j < 7 := nI_lt (b := 7) y (by omega)
      have e2 : ¬ (6 : Int32) < nI j := nI_nlt (a := 6) (by omega) (by omega)
      have both : ∀ a, a < n → wX_next_38 (fun r u' => wY_next_36 (fun r' v' => r' = r ∧ i_Rel (k + 5) u' v') (nI j) (nI a) (nI n) (nI s0) (nI st) (nI L - 1) yl yh yI yP yC yF yA yQ yR) (nI j) (nI a) (nI n) (nI s0) (nI st) xc (nI L) xT xM xN xI xP xC xH xL xD xR xK xF := by
        intro a ha
        exact xh_cp hT hn ha h1 y (fun t t1 t2 => yh_cp (by omega) y (fun l w hw => ⟨rfl, nd_mk rfl (nd_RX R h1 y hw t1 t2)⟩))
      by_cases e3 : v2 = -1
      · subst e3
        have hb := both j (by omega)
        refine br_f z (br_t e1 (br_t rfl (br_t rfl ?_)))
        unfold wX_next_38 at hb ⊢
        rw [show nI j - 3 = nI (j - 3) from pk_sub (b := 3) h1] at hb ⊢
        refine xa_cpy hT hn (by omega) (by omega) (fun t t1 t2 => ?_)
        refine br_f z (br_f e2 (br_t rfl (br_f (by decide) ?_)))
        exact yh_cp (by omega) y (fun l w hw => ⟨rfl, nd_mk rfl (nd_RX R h1 y hw t1 t2)⟩)
      · refine br_f z (br_t e1 (br_f e3 (xa_net hn (nd_br (fun w => ?_) (fun w => ?_)))))
        · refine br_f z (br_f e2 (br_f e3 (ya_net hn ?_)))
          rw [w]
          exact br_t rfl ⟨rfl, nd_mk rfl R⟩
        · obtain ⟨a, ha, rfl⟩ := (nd_in_iff (by omega)).mp w
          refine br_f e3 ?_
          unfold wX_next_38
          rw [show nI j - 3 = nI (j - 3) from pk_sub (b := 3) h1]
          refine xa_cpy hT hn ha (by omega) (fun t t1 t2 => ?_)
          refine br_f z (br_f e2 (br_f e3 (ya_net hn ?_)))
          rw [w]
          refine br_f (by decide) (br_t (nI_pos' (by omega)) ?_)
          exact yh_cp (by omega) y (fun l w hw => ⟨rfl, nd_mk rfl (nd_RX R h1 y hw t1 t2)⟩)
    · have e1 : ¬ nI j < 7 := nI_nlt (b := 7) (by omega) h2
      have e2 : (6 : Int32) < nI j := nI_lt (a := 6) (by omega) h2
      exact br_f z (br_f e1 (br_f z (br_t e2 ⟨rfl, nd_mk rfl R⟩)))
theorem i_vc_reset {k : Nat} {u : SX} {v : SY} (I : i_Rel k u v) (hk : k + 5 ≤ 2560) (v1 : Int32) : wpX_reset (fun r u' => wpY_reset (fun r' v' => r' = r ∧ i_Rel (k + 5) u' v') v v1) u v1 := by
  obtain ⟨n, s0, st, L, xc, xT, xM, xN, xI, xP, xC, xH, xL, xD, xR, xK, xF, yl, yh, yI, yP, yC, yF, yA, yQ, yR, rfl, rfl, R⟩ := I
  have R' := R
  obtain ⟨h9, hn, h0, hst, hL, hT, hN, hR⟩ := R'
  have hY : nd_Y yl yh (nd_yb yl yh) := fun _ _ _ _ => rfl
  unfold wpX_reset
  dsimp only
  refine xa_sta (nd_br (fun z => ?_) (fun z => ?_))
  · unfold wpY_reset
    dsimp only
    refine ya_amo 16 rfl (by omega) ?_
    rw [z]
    exact br_t rfl ⟨rfl, nd_mk rfl R⟩
  · unfold wpY_reset
    dsimp only
    refine ya_amo 16 rfl (by omega) ?_
    rw [z]
    obtain ⟨s, hs, rfl⟩ := (nd_in_iff (by omega)).mp z
    exact br_f (by decide) ⟨rfl, nd_mk rfl ⟨h9, hn, hs, hst, hL, hT, hN, hR⟩⟩
theorem i_vc_ask {k : Nat} {u : SX} {v : SY} (I : i_Rel k u v) (hk : k + 5 ≤ 2560) (v1 : Int32) (v2 : Int32) : wpX_ask (fun r u' => wpY_ask (fun r' v' => r' = r ∧ i_Rel (k + 5) u' v') v v1 v2) u v1 v2 := by
  obtain ⟨n, s0, st, L, xc, xT, xM, xN, xI, xP, xC, xH, xL, xD, xR, xK, xF, yl, yh, yI, yP, yC, yF, yA, yQ, yR, rfl, rfl, R⟩ := I
  have R' := R
  obtain ⟨h9, hn, h0, hst, hL, hT, hN, hR⟩ := R'
  have hY : nd_Y yl yh (nd_yb yl yh) := fun _ _ _ _ => rfl
  exact xh_ask hT hn (fun c i p co => yh_ask hY hn (fun i' p' co' => ⟨rfl, nd_mk rfl R⟩))
theorem i_vc_shape {k : Nat} {u : SX} {v : SY} (I : i_Rel k u v) (hk : k + 5 ≤ 2560) (v1 : Int32) (v2 : Int32) : wpX_shape (fun r => wpY_shape (fun r' => r' = r ∧ i_Rel (k + 5) u v) v v1 v2) u v1 v2 := by
  obtain ⟨n, s0, st, L, xc, xT, xM, xN, xI, xP, xC, xH, xL, xD, xR, xK, xF, yl, yh, yI, yP, yC, yF, yA, yQ, yR, rfl, rfl, R⟩ := I
  have R' := R
  obtain ⟨h9, hn, h0, hst, hL, hT, hN, hR⟩ := R'
  have hY : nd_Y yl yh (nd_yb yl yh) := fun _ _ _ _ => rfl
  exact xh_shape hT hn (yh_shape hY hn ⟨rfl, nd_mk rfl R⟩)
theorem i_vc_same {k : Nat} {u : SX} {v : SY} (I : i_Rel k u v) (hk : k + 5 ≤ 2560) (v1 : Int32) (v2 : Int32) (v3 : Int32) : wpX_same (fun r => wpY_same (fun r' => r' = r ∧ i_Rel (k + 5) u v) v v1 v2 v3) u v1 v2 v3 := by
  obtain ⟨n, s0, st, L, xc, xT, xM, xN, xI, xP, xC, xH, xL, xD, xR, xK, xF, yl, yh, yI, yP, yC, yF, yA, yQ, yR, rfl, rfl, R⟩ := I
  have R' := R
  obtain ⟨h9, hn, h0, hst, hL, hT, hN, hR⟩ := R'
  have hY : nd_Y yl yh (nd_yb yl yh) := fun _ _ _ _ => rfl
  exact xh_same hT hn (yh_same hY hn ⟨rfl, nd_mk rfl R⟩)
theorem i_vc_holds {k : Nat} {u : SX} {v : SY} (I : i_Rel k u v) (hk : k + 5 ≤ 2560) (v1 : Int32) (v2 : Int32) : wpX_holds (fun r => wpY_holds (fun r' => r' = r ∧ i_Rel (k + 5) u v) v v1 v2) u v1 v2 := by
  obtain ⟨n, s0, st, L, xc, xT, xM, xN, xI, xP, xC, xH, xL, xD, xR, xK, xF, yl, yh, yI, yP, yC, yF, yA, yQ, yR, rfl, rfl, R⟩ := I
  have R' := R
  obtain ⟨h9, hn, h0, hst, hL, hT, hN, hR⟩ := R'
  have hY : nd_Y yl yh (nd_yb yl yh) := fun _ _ _ _ => rfl
  exact xh_holds hT hn (yh_holds hY hn ⟨rfl, nd_mk rfl R⟩)
theorem i_vc_prime {k : Nat} {u : SX} {v : SY} (I : i_Rel k u v) (hk : k + 5 ≤ 2560) (v1 : Int32) (v2 : Int32) : wpX_prime (fun r u' => wpY_prime (fun r' v' => r' = r ∧ i_Rel (k + 5) u' v') v v1 v2) u v1 v2 := by
  obtain ⟨n, s0, st, L, xc, xT, xM, xN, xI, xP, xC, xH, xL, xD, xR, xK, xF, yl, yh, yI, yP, yC, yF, yA, yQ, yR, rfl, rfl, R⟩ := I
  have R' := R
  obtain ⟨h9, hn, h0, hst, hL, hT, hN, hR⟩ := R'
  have hY : nd_Y yl yh (nd_yb yl yh) := fun _ _ _ _ => rfl
  exact xh_prime hT hn (fun c i p => yh_prime hY hn (fun i' p' => ⟨rfl, nd_mk rfl R⟩))
theorem i_vc_step {k : Nat} {u : SX} {v : SY} (I : i_Rel k u v) (hk : k + 5 ≤ 2560) (v1 : Int32) : wpX_step (fun r u' => wpY_step (fun r' v' => r' = r ∧ i_Rel (k + 5) u' v') v v1) u v1 := by
  obtain ⟨n, s0, st, L, xc, xT, xM, xN, xI, xP, xC, xH, xL, xD, xR, xK, xF, yl, yh, yI, yP, yC, yF, yA, yQ, yR, rfl, rfl, R⟩ := I
  have R' := R
  obtain ⟨h9, hn, h0, hst, hL, hT, hN, hR⟩ := R'
  have hY : nd_Y yl yh (nd_yb yl yh) := fun _ _ _ _ => rfl
  rcases nd_m1c v1 with z | rfl | ⟨j, hj, rfl⟩
  · exact br_t z (br_t z ⟨rfl, nd_mk rfl R⟩)
  · exact br_f Int32.lt_irrefl (br_t (by decide) (br_t rfl (br_f Int32.lt_irrefl (br_t (by decide) (br_f (by decide) ⟨rfl, nd_mk rfl ⟨h9, hn, h0, h0, hL, hT, hN, hR⟩⟩)))))
  · have e1 := nd_nm1 hj
    by_cases y : j < 8
    · have e2 : nI j < 8 := nI_lt (b := 8) y (by omega)
      have e3 : nI j ≤ 7 := nI_le (b := 7) (by omega) (by omega)
      refine br_f e1 (br_t e2 (br_f (nd_m1 hj) (xe_suc hN hst y ?_)))
      refine br_f e1 (br_t e3 (br_t (nI_pos' hj) (yf_beh hY hst y ⟨rfl, nd_mk rfl ⟨h9, hn, h0, nd_nxl _ _ _, hL, hT, hN, hR⟩⟩)))
    · have e2 : ¬ nI j < 8 := nI_nlt (b := 8) (by omega) hj
      have e3 : ¬ nI j ≤ 7 := nI_ge (a := 7) (by omega) hj
      exact br_f e1 (br_f e2 (br_f e1 (br_f e3 ⟨rfl, nd_mk rfl R⟩)))
theorem i_vc_reach {k : Nat} {u : SX} {v : SY} (I : i_Rel k u v) (hk : k + 5 ≤ 2560) (v1 : Int32) : wpX_reach (fun r u' => wpY_reach (fun r' v' => r' = r ∧ i_Rel (k + 5) u' v') v v1) u v1 := by
  obtain ⟨n, s0, st, L, xc, xT, xM, xN, xI, xP, xC, xH, xL, xD, xR, xK, xF, yl, yh, yI, yP, yC, yF, yA, yQ, yR, rfl, rfl, R⟩ := I
  have R' := R
  obtain ⟨h9, hn, h0, hst, hL, hT, hN, hR⟩ := R'
  have hY : nd_Y yl yh (nd_yb yl yh) := fun _ _ _ _ => rfl
  refine xh_reach hT hN hn h0 (fun w v h => ?_) (fun a k' ha e hk' h1 w v t ht => ?_)
  · refine yh_reach hY hn h0 (fun w' _ => ⟨rfl, nd_mk rfl R⟩) (fun a k' ha e hk' h1 => ?_)
    rcases h with h | ⟨a', ha', e', h2⟩
    · rw [e, nd_in_nI ha (by omega)] at h
      cases h
    · rw [e] at e'
      have e2 := (nI_eq (by omega) (by omega)).mp e'
      subst e2
      omega
  · refine yh_reach hY hn h0 (fun w' h => ?_) (fun a' k2 ha' e' hk2 h2 w' c t' ht' => ?_)
    · rcases h with h | ⟨a', ha', e', h2⟩
      · rw [e, nd_in_nI ha (by omega)] at h
        cases h
      · rw [e] at e'
        have e2 := (nI_eq (by omega) (by omega)).mp e'
        subst e2
        omega
    · rw [e] at e'
      have e2 := (nI_eq (by omega) (by omega)).mp e'
      subst e2
      have e3 : k2 = k' := by omega
      subst e3
      refine ⟨rfl, nd_mk (nI_pred k2).symm ⟨h9, hn, h0, hst, by omega, hT, hN, fun j hj => ?_⟩⟩
      rw [ht j hj, ht' j hj]
theorem i_vc_witness {k : Nat} {u : SX} {v : SY} (I : i_Rel k u v) (hk : k + 5 ≤ 2560) (v1 : Int32) : wpX_witness (fun r => wpY_witness (fun r' => r' = r ∧ i_Rel (k + 5) u v) v v1) u v1 := by
  obtain ⟨n, s0, st, L, xc, xT, xM, xN, xI, xP, xC, xH, xL, xD, xR, xK, xF, yl, yh, yI, yP, yC, yF, yA, yQ, yR, rfl, rfl, R⟩ := I
  have R' := R
  obtain ⟨h9, hn, h0, hst, hL, hT, hN, hR⟩ := R'
  have hY : nd_Y yl yh (nd_yb yl yh) := fun _ _ _ _ => rfl
  by_cases z : v1 < 0
  · exact br_t z (br_t z ⟨rfl, nd_mk rfl R⟩)
  · obtain ⟨j, hj, rfl⟩ := nI_of z
    by_cases y : j < L
    · have e1 : nI j < nI L := nI_lt y (by omega)
      have e2 : nI j ≤ nI L - 1 := by
        rw [show (1 : Int32) = nI 1 from rfl, pk_sub (by omega)]
        exact nI_le (by omega) (by omega)
      refine br_f z (br_t e1 ⟨vp_in_nI (by omega) (by omega), br_f z (br_t e2 ⟨vp_in_nI (by omega) (by omega), ?_, nd_mk rfl R⟩)⟩)
      rw [nI_clamp hj]
      exact (hR j y).symm
    · have e1 : ¬ nI j < nI L := nI_nlt (by omega) hj
      have e2 : ¬ nI j ≤ nI L - 1 := by
        by_cases w : L = 0
        · subst w
          intro h
          exact absurd (Int32.lt_of_le_of_lt h (show nI 0 - 1 < 0 by decide)) z
        · rw [show (1 : Int32) = nI 1 from rfl, pk_sub (by omega)]
          exact nI_ge (by omega) hj
      exact br_f z (br_f e1 (br_f z (br_f e2 ⟨rfl, nd_mk rfl R⟩)))
theorem i_vc_states {k : Nat} {u : SX} {v : SY} (I : i_Rel k u v) (hk : k + 5 ≤ 2560) (v1 : Int32) : wpX_states (fun r u' => wpY_states (fun r' v' => r' = r ∧ i_Rel (k + 5) u' v') v v1) u v1 := by
  obtain ⟨n, s0, st, L, xc, xT, xM, xN, xI, xP, xC, xH, xL, xD, xR, xK, xF, yl, yh, yI, yP, yC, yF, yA, yQ, yR, rfl, rfl, R⟩ := I
  have R' := R
  obtain ⟨h9, hn, h0, hst, hL, hT, hN, hR⟩ := R'
  have hY : nd_Y yl yh (nd_yb yl yh) := fun _ _ _ _ => rfl
  refine xh_states hN h0 (fun w t e hD => yh_states hY h0 (fun w' e' h => ⟨?_, nd_mk rfl R⟩))
  rcases h with h | h
  · rw [h]; rfl
  · rw [nd_sv_congr (nd_D_eq h hD)]
theorem i_vc_check {k : Nat} {u : SX} {v : SY} (I : i_Rel k u v) (hk : k + 5 ≤ 2560) (v1 : Int32) (v2 : Int32) (v3 : Int32) : wpX_check (fun r u' => wpY_check (fun r' => r' = r ∧ i_Rel (k + 5) u' v) v v1 v2 v3) u v1 v2 v3 := by
  obtain ⟨n, s0, st, L, xc, xT, xM, xN, xI, xP, xC, xH, xL, xD, xR, xK, xF, yl, yh, yI, yP, yC, yF, yA, yQ, yR, rfl, rfl, R⟩ := I
  have R' := R
  obtain ⟨h9, hn, h0, hst, hL, hT, hN, hR⟩ := R'
  have hY : nd_Y yl yh (nd_yb yl yh) := fun _ _ _ _ => rfl
  exact xh_check hT hN hn (fun w => yh_check hY hn ⟨rfl, nd_mk rfl R⟩)
theorem i_vc_alike {k : Nat} {u : SX} {v : SY} (I : i_Rel k u v) (hk : k + 5 ≤ 2560) (v1 : Int32) (v2 : Int32) : wpX_alike (fun r u' => wpY_alike (fun r' v' => r' = r ∧ i_Rel (k + 5) u' v') v v1 v2) u v1 v2 := by
  obtain ⟨n, s0, st, L, xc, xT, xM, xN, xI, xP, xC, xH, xL, xD, xR, xK, xF, yl, yh, yI, yP, yC, yF, yA, yQ, yR, rfl, rfl, R⟩ := I
  have R' := R
  obtain ⟨h9, hn, h0, hst, hL, hT, hN, hR⟩ := R'
  have hY : nd_Y yl yh (nd_yb yl yh) := fun _ _ _ _ => rfl
  refine xh_alike hT hN hn (fun t w h => ?_) (fun a s ha hs e1 e2 t w => ?_) (fun a ha e1 e2 t w => ?_)
  · refine yh_alike hY hn (fun t' _ => ⟨rfl, nd_mk rfl R⟩) (fun a s ha hs e1 e2 t' => ?_) (fun a ha e1 e2 t' => ?_)
    · rcases h with h | ⟨_, h⟩
      · rw [e1, nd_in_nI ha (by omega)] at h; cases h
      · rw [e2, nd_in_nI hs (by omega)] at h; cases h
    · rcases h with h | ⟨h, _⟩
      · rw [e1, nd_in_nI ha (by omega)] at h; cases h
      · exact absurd e2 h
  · refine yh_alike hY hn (fun t' h => ?_) (fun a' s' ha' hs' e1' e2' t' => ?_) (fun a' ha' e1' e2' t' => ?_)
    · rcases h with h | ⟨_, h⟩
      · rw [e1, nd_in_nI ha (by omega)] at h; cases h
      · rw [e2, nd_in_nI hs (by omega)] at h; cases h
    · rw [e1] at e1'
      rw [e2] at e2'
      have e3 := (nI_eq (by omega) (by omega)).mp e1'
      have e4 := (nI_eq (by omega) (by omega)).mp e2'
      subst e3 e4
      exact ⟨rfl, nd_mk rfl R⟩
    · rw [e2] at e2'
      exact absurd e2' (nd_m1 (by omega))
  · refine yh_alike hY hn (fun t' h => ?_) (fun a' s' ha' hs' e1' e2' t' => ?_) (fun a' ha' e1' e2' t' => ?_)
    · rcases h with h | ⟨h, _⟩
      · rw [e1, nd_in_nI ha (by omega)] at h; cases h
      · exact absurd e2 h
    · rw [e2] at e2'
      exact absurd e2'.symm (nd_m1 (by omega))
    · rw [e1] at e1'
      have e3 := (nI_eq (by omega) (by omega)).mp e1'
      subst e3
      exact ⟨rfl, nd_mk rfl R⟩
