/-! whole methods, each side by itself, to one value -/
theorem nd_an {b c : Bool} {post : Int32 → Prop} {A : Prop} (hp : post (nd_b (b && c))) (f : b = true → post (nd_b c) → A) : (nd_b b = 0 → post 0) ∧ (¬ nd_b b = 0 → A) := by
  cases b
  · exact br_t rfl hp
  · exact br_f (by decide) (f rfl hp)
theorem nd_m1c (p : Int32) : p < -1 ∨ p = -1 ∨ ∃ j, j < 2 ^ 31 ∧ p = nI j := by
  by_cases h : p < 0
  · have e1 : (-1 : Int32).toInt = -1 := by decide
    have e0 : (0 : Int32).toInt = 0 := by decide
    rw [Int32.lt_iff_toInt_lt, e0] at h
    by_cases h2 : p.toInt = -1
    · exact Or.inr (Or.inl (Int32.toInt_inj.mp (h2.trans e1.symm)))
    · refine Or.inl ?_
      rw [Int32.lt_iff_toInt_lt, e1]
      omega
  · obtain ⟨j, hj, e⟩ := nI_of h
    exact Or.inr (Or.inr ⟨j, hj, e⟩)
theorem nd_lt_m1 {p : Int32} (h : p < -1) : p < 0 := Int32.lt_of_lt_of_le h (by decide)
theorem nd_nm1 {j : Nat} (hj : j < 2 ^ 31) : ¬ nI j < -1 := fun h => nI_pos hj (nd_lt_m1 h)
section NDX
variable {xn xr xm xc xl : Int32} {xT xM xN xI xP xC xH xL xD xR xK xF : Nat → Int32}
theorem xh_holds {T : Nat → Nat → Bool} {n : Nat} {p q : Int32} (hT : nd_T xT T n) (hn : n ≤ 32) {post : Int32 → Prop} (hp : post (nd_b (nd_in p n && (nd_in q 128 && T p.toNatClampNeg q.toNatClampNeg)))) : wpX_holds post (nI n, xr, xm, xc, xl, xT, xM, xN, xI, xP, xC, xH, xL, xD, xR, xK, xF) p q := by
  unfold wpX_holds
  dsimp only
  refine xa_net hn (nd_an hp (fun z hq => ?_))
  obtain ⟨a, ha, rfl⟩ := (nd_in_iff (by omega)).mp z
  rcases pk_ix q (n := 128) (by omega) with h | h | ⟨x, hx, rfl⟩
  · rw [nd_in_f (by omega) (Or.inl h), Bool.false_and] at hq
    exact br_t h hq
  · rw [nd_in_f (by omega) (Or.inr h), Bool.false_and] at hq
    obtain ⟨x, h1, h2, rfl⟩ := nd_big (by omega) h
    exact br_f (nI_pos h2) (br_f (nI_nlt (b := 128) h1 h2) hq)
  · rw [nd_in_nI hx (by omega), Bool.true_and, nI_clamp (by omega), nI_clamp (by omega)] at hq
    exact br_f (nI_pos (by omega)) (br_t (nI_lt (b := 128) hx (by omega)) (xa_T hT hn ha hx ⟨nd_bn _, hq⟩))
theorem xh_shape {T : Nat → Nat → Bool} {n : Nat} {p q : Int32} (hT : nd_T xT T n) (hn : n ≤ 32) {post : Int32 → Prop} (hp : post (if nd_in p n && nd_in q 7 then nI (nd_sh (T p.toNatClampNeg) q.toNatClampNeg 128) else -1)) : wpX_shape post (nI n, xr, xm, xc, xl, xT, xM, xN, xI, xP, xC, xH, xL, xD, xR, xK, xF) p q := by
  unfold wpX_shape
  dsimp only
  refine xa_net hn (nd_br (fun z => ?_) (fun z => xa_var (nd_br (fun z2 => ?_) (fun z2 => ?_))))
  · rw [z, Bool.false_and, if_neg Bool.false_ne_true] at hp
    exact hp
  · rw [z2, Bool.and_false, if_neg Bool.false_ne_true] at hp
    exact hp
  · rw [z, z2, Bool.true_and, if_pos rfl] at hp
    obtain ⟨a, ha, rfl⟩ := (nd_in_iff (by omega)).mp z
    obtain ⟨v, hv, rfl⟩ := (nd_in_iff (by omega)).mp z2
    rw [nI_clamp (by omega), nI_clamp (by omega)] at hp
    exact xb_shape hT hn ha hv hp
theorem xh_same {T : Nat → Nat → Bool} {n : Nat} {p q r : Int32} (hT : nd_T xT T n) (hn : n ≤ 32) {post : Int32 → Prop} (hp : post (nd_b (nd_in p n && (nd_in q 7 && (nd_in r 7 && nd_all (fun x => T p.toNatClampNeg x == T p.toNatClampNeg (nd_sw x q.toNatClampNeg r.toNatClampNeg)) 128))))) : wpX_same post (nI n, xr, xm, xc, xl, xT, xM, xN, xI, xP, xC, xH, xL, xD, xR, xK, xF) p q r := by
  unfold wpX_same
  dsimp only
  refine xa_net hn (nd_an hp (fun z hp => xa_var (nd_an hp (fun z2 hp => xa_var (nd_an hp (fun z3 hp => ?_))))))
  obtain ⟨a, ha, rfl⟩ := (nd_in_iff (by omega)).mp z
  obtain ⟨v, hv, rfl⟩ := (nd_in_iff (by omega)).mp z2
  obtain ⟨w, hw, rfl⟩ := (nd_in_iff (by omega)).mp z3
  rw [nI_clamp (by omega), nI_clamp (by omega), nI_clamp (by omega)] at hp
  exact xb_same hT hn ha hv hw hp
theorem xh_ask {T : Nat → Nat → Bool} {n : Nat} {p q : Int32} (hT : nd_T xT T n) (hn : n ≤ 32) {post : Int32 → SX → Prop}
    (h : ∀ (c : Int32) (i pr co : Nat → Int32), post (if nd_in p n && nd_in q 6 then nd_ak (T p.toNatClampNeg) q.toNatClampNeg else -1) (nI n, xr, xm, c, xl, xT, xM, xN, i, pr, co, xH, xL, xD, xR, xK, xF)) : wpX_ask post (nI n, xr, xm, xc, xl, xT, xM, xN, xI, xP, xC, xH, xL, xD, xR, xK, xF) p q := by
  unfold wpX_ask
  dsimp only
  refine xa_net hn (nd_br (fun z => ?_) (fun z => ?_))
  · rw [z, Bool.false_and, if_neg Bool.false_ne_true] at h
    exact h xc xI xP xC
  · rw [z, Bool.true_and] at h
    obtain ⟨a, ha, rfl⟩ := (nd_in_iff (by omega)).mp z
    rcases pk_ix q (n := 6) (by omega) with y | y | ⟨j, hj, rfl⟩
    · rw [nd_in_f (by omega) (Or.inl y), if_neg Bool.false_ne_true] at h
      exact br_t y (h xc xI xP xC)
    · rw [nd_in_f (by omega) (Or.inr y), if_neg Bool.false_ne_true] at h
      obtain ⟨x, h1, h2, rfl⟩ := nd_big (by omega) y
      exact br_f (nI_pos h2) (br_t (nI_lt (a := 5) (by omega) h2) (h xc xI xP xC))
    · rw [nd_in_nI hj (by omega), if_pos rfl, nI_clamp (by omega), nI_clamp (by omega)] at h
      rcases nd_6 hj with rfl | rfl | rfl | rfl | rfl | rfl
      · rw [nd_ak_0] at h
        exact br_f (by decide) (br_f (by decide) (br_t (by decide) (xb_cnt hT hn ha (h xc xI xP xC))))
      · rw [nd_ak_1] at h
        exact br_f (by decide) (br_f (by decide) (br_f (by decide) (br_t (by decide) (xb_least hT hn ha (h xc xI xP xC)))))
      · rw [nd_ak_2] at h
        exact br_f (by decide) (br_f (by decide) (br_f (by decide) (br_f (by decide) (br_t (by decide) (xb_sup hT hn ha (h xc xI xP xC))))))
      · rw [nd_ak_3] at h
        exact br_f (by decide) (br_f (by decide) (br_f (by decide) (br_f (by decide) (br_f (by decide) (br_t (by decide) (xb_dc hT hn ha (h xc xI xP xC)))))))
      · rw [nd_ak_4] at h
        exact br_f (by decide) (br_f (by decide) (br_f (by decide) (br_f (by decide) (br_f (by decide) (br_f (by decide) (br_t (by decide) (xd_find hT hn ha (fun i p _ => h _ i p xC))))))))
      · rw [nd_ak_5] at h
        exact br_f (by decide) (br_f (by decide) (br_f (by decide) (br_f (by decide) (br_f (by decide) (br_f (by decide) (br_f (by decide) (br_t (by decide) (xd_find hT hn ha (fun i p hp => xd_ess hp (fun c => h _ i p c))))))))))
theorem xh_prime {T : Nat → Nat → Bool} {n : Nat} {p q : Int32} (hT : nd_T xT T n) (hn : n ≤ 32) {post : Int32 → SX → Prop}
    (h : ∀ (c : Int32) (i pr : Nat → Int32), post (if nd_in p n && decide (¬ q < 0) then nd_kp (nd_q (T p.toNatClampNeg)) q.toNatClampNeg else -1) (nI n, xr, xm, c, xl, xT, xM, xN, i, pr, xC, xH, xL, xD, xR, xK, xF)) : wpX_prime post (nI n, xr, xm, xc, xl, xT, xM, xN, xI, xP, xC, xH, xL, xD, xR, xK, xF) p q := by
  unfold wpX_prime
  dsimp only
  refine xa_net hn (nd_br (fun z => ?_) (fun z => ?_))
  · rw [z, Bool.false_and, if_neg Bool.false_ne_true] at h
    exact h xc xI xP
  · rw [z, Bool.true_and] at h
    obtain ⟨a, ha, rfl⟩ := (nd_in_iff (by omega)).mp z
    rw [nI_clamp (by omega)] at h
    refine xd_find hT hn ha (fun i pr hP => ?_)
    have hle := nd_cnt_le (nd_q (T a)) 2187
    by_cases y : q < 0
    · rw [decide_eq_false (fun w => w y), if_neg Bool.false_ne_true] at h
      exact br_t y (h _ i pr)
    · rw [decide_eq_true y, if_pos rfl] at h
      obtain ⟨k, hk, rfl⟩ := nI_of y
      rw [nI_clamp hk] at h
      refine br_f y (pk_lt k (nd_cnt (nd_q (T a)) 2187) (fun w => ?_) (fun w => ?_))
      · obtain ⟨c, c1, c2, c3, c4⟩ := nd_P_kth hP w
        refine ⟨vp_in_nI (by omega) (by omega), ?_⟩
        show post (pr (nI k).toNatClampNeg) (nI n, xr, xm, nI (nd_cnt (nd_q (T a)) 2187), xl, xT, xM, xN, i, pr, xC, xH, xL, xD, xR, xK, xF)
        rw [nI_clamp hk, c4]
        rw [← c3, nd_kp_t c1 c2] at h
        exact h _ i pr
      · rw [nd_kp_f w] at h
        exact h _ i pr
theorem xh_reach {T N : Nat → Nat → Bool} {n s0 : Nat} {p : Int32} (hT : nd_T xT T n) (hN : nd_T xN N 4) (hn : n ≤ 32) (h0 : s0 < 16) {post : Int32 → SX → Prop}
    (h1 : ∀ w v : Nat → Int32, (nd_in p n = false ∨ ∃ a, a < n ∧ p = nI a ∧ nd_fst (fun k => nd_L (nd_nx N) (nd_so (T a)) k s0) 16 = 16) → post (-1) (nI n, nI s0, xm, xc, xl, xT, xM, xN, xI, xP, xC, w, v, xD, xR, xK, xF))
    (h2 : ∀ a k, a < n → p = nI a → k < 16 → nd_fst (fun k => nd_L (nd_nx N) (nd_so (T a)) k s0) 16 = k → ∀ w v t : Nat → Int32, (∀ j, j < k + 1 → t j = nI (nd_row (nd_nx N) (T a) s0 k j)) → post (nI k) (nI n, nI s0, xm, xc, nI (k + 1), xT, xM, xN, xI, xP, xC, w, v, xD, t, xK, xF)) : wpX_reach post (nI n, nI s0, xm, xc, xl, xT, xM, xN, xI, xP, xC, xH, xL, xD, xR, xK, xF) p := by
  unfold wpX_reach
  dsimp only
  refine xa_net hn (nd_br (fun z => h1 xH xL (Or.inl z)) (fun z => ?_))
  obtain ⟨a, ha, rfl⟩ := (nd_in_iff (by omega)).mp z
  refine xe_heirs hN (fun w hH => xe_layers hT hn ha (nd_nxF N) hH (fun v hA => ?_))
  refine loop_0 (fun m k (_ : Unit) => wX_reach_21 post (nI a) (nI n) (nI s0) xm xc xl xT xM xN xI xP xC w v xD xR xK xF m (nI k)) (fun i _ => ∀ k, k < i → nd_L (nd_nx N) (nd_so (T a)) k s0 = false) 16 () (fun u hu => absurd hu (by omega)) ?_ ?_
  · intro m _ y
    exact br_t nd_16 (h1 w v (Or.inr ⟨a, ha, rfl, nd_fst_eq (Nat.le_refl _) y (fun u => absurd u (Nat.lt_irrefl _))⟩))
  · intro m k _ hk y ih
    have hm := nd_m16 (nd_L (nd_nx N) (nd_so (T a)) k)
    refine br_f (nd_n16 hk) ⟨vp_in_nI hk (by omega), ?_⟩
    rw [nI_clamp (show k < 2 ^ 31 by omega), hA k hk]
    refine xa_bit (by omega) (by omega) ?_
    rw [nd_m_in h0]
    refine nd_br (fun u => nm_r (nI_1 k) (ih () (nd_lts y u))) (fun u => ?_)
    exact xe_keep hT hN hn ha h0 hk u hA (fun t ht => h2 a k ha rfl hk (nd_fst_eq (by omega) y (fun _ => u)) w v t ht)
theorem xh_check {T N : Nat → Nat → Bool} {n : Nat} {p q r : Int32} (hT : nd_T xT T n) (hN : nd_T xN N 4) (hn : n ≤ 32) {post : Int32 → SX → Prop}
    (h : ∀ w : Nat → Int32, post (if nd_in p 8 && (nd_in q n && (decide (p.toNatClampNeg < 6) || nd_in r n)) then nI (nd_ck (nd_nx N) p.toNatClampNeg (nd_so (T q.toNatClampNeg)) (nd_so (T r.toNatClampNeg))) else -1) (nI n, xr, xm, xc, xl, xT, xM, xN, xI, xP, xC, w, xL, xD, xR, xK, xF)) : wpX_check post (nI n, xr, xm, xc, xl, xT, xM, xN, xI, xP, xC, xH, xL, xD, xR, xK, xF) p q r := by
  rcases pk_ix p (n := 8) (by omega) with y | y | ⟨j, hj, rfl⟩
  · rw [nd_in_f (by omega) (Or.inl y), Bool.false_and, if_neg Bool.false_ne_true] at h
    exact br_t y (h xH)
  · rw [nd_in_f (by omega) (Or.inr y), Bool.false_and, if_neg Bool.false_ne_true] at h
    obtain ⟨x, h1, h2, rfl⟩ := nd_big (by omega) y
    exact br_f (nI_pos h2) (br_t (nI_lt (a := 7) (by omega) h2) (h xH))
  · rw [nd_in_nI hj (by omega), Bool.true_and, nI_clamp (show j < 2 ^ 31 by omega)] at h
    refine br_f (nI_pos (by omega)) (br_f (nI_nlt (a := 7) (b := j) (by omega) (by omega)) ?_)
    refine xa_net hn (nd_br (fun z => ?_) (fun z => ?_))
    · rw [z, Bool.false_and, if_neg Bool.false_ne_true] at h
      exact h xH
    · rw [z, Bool.true_and] at h
      obtain ⟨a, ha, rfl⟩ := (nd_in_iff (by omega)).mp z
      rw [nI_clamp (show a < 2 ^ 31 by omega)] at h
      have c36 : (6 ≤ j → r.toNatClampNeg < n ∧ r = nI r.toNatClampNeg) → (decide (j < 6) || nd_in r n) = true → wX_check_36 post (nI j) (nI a) r (nI n) xr xm xc xl xT xM xN xI xP xC xH xL xD xR xK xF := by
        intro hb hc
        rw [hc, if_pos rfl] at h
        unfold wX_check_36
        refine xe_heirs hN (fun w hH => ⟨by decide, ?_⟩)
        have e : nI j - nI j / 2 * 2 = nI (j % 2) := pk_rem (d := 2) (by omega) (by omega) (by omega)
        rw [e]
        have key := xf_check (xm := xm) (xr := xr) (xc := xc) (xl := xl) (xn := nI n) (xM := xM) (xN := xN) (xI := xI) (xP := xP) (xC := xC) (xL := xL) (xD := xD) (xR := xR) (xK := xK) (xF := xF) (b := r.toNatClampNeg) (p3 := r) hT hn ha hj hb (nd_nxF N) hH (h w)
        refine pk_eq (j % 2) 1 (fun y => ?_) (fun y => ?_)
        · rw [decide_eq_true y] at key
          exact key
        · rw [decide_eq_false y] at key
          exact key
      refine pk_lt j 6 (fun y => c36 (fun w => by omega) (by rw [decide_eq_true y, Bool.true_or])) (fun y => ?_)
      refine xa_net hn (nd_br (fun z2 => ?_) (fun z2 => c36 (fun _ => ?_) (by rw [z2, Bool.or_true])))
      · rw [z2, decide_eq_false (show ¬ j < 6 by omega), Bool.false_or, if_neg Bool.false_ne_true] at h
        exact h xH
      · obtain ⟨b, hb, rfl⟩ := (nd_in_iff (by omega)).mp z2
        rw [nI_clamp (by omega)]
        exact ⟨hb, rfl⟩
theorem xh_states {N : Nat → Nat → Bool} {s0 : Nat} {p : Int32} (hN : nd_T xN N 4) (h0 : s0 < 16) {post : Int32 → SX → Prop}
    (h : ∀ (w t : Nat → Int32) (e : Nat → Nat), nd_D (nd_nx N) s0 e → post (if nd_in p 3 then nI (nd_sv e p.toNatClampNeg) else -1) (xn, nI s0, xm, xc, xl, xT, xM, xN, xI, xP, xC, w, xL, t, xR, xK, xF)) : wpX_states post (xn, nI s0, xm, xc, xl, xT, xM, xN, xI, xP, xC, xH, xL, xD, xR, xK, xF) p := by
  unfold wpX_states
  dsimp only
  exact xf_dist h0 hN (fun w t e h1 h2 => xf_states h2 (h w t e h1))
theorem xh_alike {T N : Nat → Nat → Bool} {n : Nat} {p q : Int32} (hT : nd_T xT T n) (hN : nd_T xN N 4) (hn : n ≤ 32) {post : Int32 → SX → Prop}
    (h1 : ∀ t w : Nat → Int32, nd_in p n = false ∨ (¬ q = -1 ∧ nd_in q 16 = false) → post (-1) (nI n, xr, xm, xc, xl, xT, xM, xN, xI, xP, xC, xH, xL, xD, xR, t, w))
    (h2 : ∀ a s, a < n → s < 16 → p = nI a → q = nI s → ∀ t w : Nat → Int32, post (nI (nd_lk (nd_nx N) (fun s i => T a (s * 8 + i)) 16 s)) (nI n, xr, xm, xc, xl, xT, xM, xN, xI, xP, xC, xH, xL, xD, xR, t, w))
    (h3 : ∀ a, a < n → p = nI a → q = -1 → ∀ t w : Nat → Int32, post (nI (nd_cnt (fun s => nd_lk (nd_nx N) (fun s i => T a (s * 8 + i)) 16 s == s) 16)) (nI n, xr, xm, xc, xl, xT, xM, xN, xI, xP, xC, xH, xL, xD, xR, t, w)) : wpX_alike post (nI n, xr, xm, xc, xl, xT, xM, xN, xI, xP, xC, xH, xL, xD, xR, xK, xF) p q := by
  unfold wpX_alike
  dsimp only
  refine xa_net hn (nd_br (fun z => h1 xK xF (Or.inl z)) (fun z => ?_))
  obtain ⟨a, ha, rfl⟩ := (nd_in_iff (by omega)).mp z
  refine br_c (fun y => ?_) (fun y => xa_sta (nd_br (fun z2 => h1 xK xF (Or.inr ⟨y, z2⟩)) (fun z2 => ?_)))
  · unfold wX_alike_24
    refine xf_looks hT hN hn ha (fun t w ht => br_t y ?_)
    exact xf_cnt (fun s _ => nd_lk_le 16 s) ht (h3 a ha rfl y t w)
  · obtain ⟨s, hs, rfl⟩ := (nd_in_iff (by omega)).mp z2
    unfold wX_alike_24
    refine xf_looks hT hN hn ha (fun t w ht => br_f y ⟨vp_in_nI hs (by omega), ?_⟩)
    rw [nI_clamp (show s < 2 ^ 31 by omega), ht s hs]
    exact h2 a s ha hs rfl rfl t w
end NDX
section NDY
variable {yn ys yt ye : Int32} {yl yh : Nat → Int64} {yI yP yC yF yA yQ yR : Nat → Int32}
theorem yh_holds {T : Nat → Nat → Bool} {n : Nat} {p q : Int32} (hY : nd_Y yl yh T) (hn : n ≤ 32) {post : Int32 → Prop} (hp : post (nd_b (nd_in p n && (nd_in q 128 && T p.toNatClampNeg q.toNatClampNeg)))) : wpY_holds post (nI n, ys, yt, ye, yl, yh, yI, yP, yC, yF, yA, yQ, yR) p q := by
  unfold wpY_holds
  dsimp only
  refine ya_net hn (nd_an hp (fun z hp => ya_amo 128 rfl (by omega) (nd_an hp (fun z2 hp => ?_))))
  obtain ⟨a, ha, rfl⟩ := (nd_in_iff (by omega)).mp z
  obtain ⟨x, hx, rfl⟩ := (nd_in_iff (by omega)).mp z2
  rw [nI_clamp (by omega), nI_clamp (by omega)] at hp
  exact ya_bit hY (by omega) hx (nd_b01 hp)
theorem yh_shape {T : Nat → Nat → Bool} {n : Nat} {p q : Int32} (hY : nd_Y yl yh T) (hn : n ≤ 32) {post : Int32 → Prop} (hp : post (if nd_in p n && nd_in q 7 then nI (nd_sh (T p.toNatClampNeg) q.toNatClampNeg 128) else -1)) : wpY_shape post (nI n, ys, yt, ye, yl, yh, yI, yP, yC, yF, yA, yQ, yR) p q := by
  unfold wpY_shape
  dsimp only
  refine ya_net hn (nd_br (fun z => ?_) (fun z => ya_amo 7 rfl (by omega) (nd_br (fun z2 => ?_) (fun z2 => ?_))))
  · rw [z, Bool.false_and, if_neg Bool.false_ne_true] at hp
    exact hp
  · rw [z2, Bool.and_false, if_neg Bool.false_ne_true] at hp
    exact hp
  · rw [z, z2, Bool.true_and, if_pos rfl] at hp
    obtain ⟨a, ha, rfl⟩ := (nd_in_iff (by omega)).mp z
    obtain ⟨v, hv, rfl⟩ := (nd_in_iff (by omega)).mp z2
    rw [nI_clamp (by omega), nI_clamp (by omega)] at hp
    exact ye_shape hY (by omega) hv hp
theorem yh_same {T : Nat → Nat → Bool} {n : Nat} {p q r : Int32} (hY : nd_Y yl yh T) (hn : n ≤ 32) {post : Int32 → Prop} (hp : post (nd_b (nd_in p n && (nd_in q 7 && (nd_in r 7 && nd_all (fun x => T p.toNatClampNeg x == T p.toNatClampNeg (nd_sw x q.toNatClampNeg r.toNatClampNeg)) 128))))) : wpY_same post (nI n, ys, yt, ye, yl, yh, yI, yP, yC, yF, yA, yQ, yR) p q r := by
  unfold wpY_same
  dsimp only
  refine ya_net hn (nd_an hp (fun z hp => ya_amo 7 rfl (by omega) (nd_an hp (fun z2 hp => ya_amo 7 rfl (by omega) (nd_an hp (fun z3 hp => ?_))))))
  obtain ⟨a, ha, rfl⟩ := (nd_in_iff (by omega)).mp z
  obtain ⟨v, hv, rfl⟩ := (nd_in_iff (by omega)).mp z2
  obtain ⟨w, hw, rfl⟩ := (nd_in_iff (by omega)).mp z3
  rw [nI_clamp (by omega), nI_clamp (by omega), nI_clamp (by omega)] at hp
  exact ye_same hY (by omega) hv hw hp
theorem yh_ask {T : Nat → Nat → Bool} {n : Nat} {p q : Int32} (hY : nd_Y yl yh T) (hn : n ≤ 32) {post : Int32 → SY → Prop}
    (h : ∀ i pr co : Nat → Int32, post (if nd_in p n && nd_in q 6 then nd_ak (T p.toNatClampNeg) q.toNatClampNeg else -1) (nI n, ys, yt, ye, yl, yh, i, pr, co, yF, yA, yQ, yR)) : wpY_ask post (nI n, ys, yt, ye, yl, yh, yI, yP, yC, yF, yA, yQ, yR) p q := by
  refine ye_ask hY hn (fun i pr co => ⟨fun a j ha hj e1 e2 => ?_, fun z => ?_⟩)
  · have h := h i pr co
    subst e1 e2
    rw [nd_in_nI ha (by omega), nd_in_nI hj (by omega), Bool.true_and, if_pos rfl, nI_clamp (by omega), nI_clamp (by omega)] at h
    exact h
  · have h := h i pr co
    rw [z, if_neg Bool.false_ne_true] at h
    exact h
theorem yh_prime {T : Nat → Nat → Bool} {n : Nat} {p q : Int32} (hY : nd_Y yl yh T) (hn : n ≤ 32) {post : Int32 → SY → Prop}
    (h : ∀ i pr : Nat → Int32, post (if nd_in p n && decide (¬ q < 0) then nd_kp (nd_q (T p.toNatClampNeg)) q.toNatClampNeg else -1) (nI n, ys, yt, ye, yl, yh, i, pr, yC, yF, yA, yQ, yR)) : wpY_prime post (nI n, ys, yt, ye, yl, yh, yI, yP, yC, yF, yA, yQ, yR) p q := by
  unfold wpY_prime
  dsimp only
  refine ya_net hn (nd_br (fun z => ?_) (fun z => ?_))
  · rw [z, Bool.false_and, if_neg Bool.false_ne_true] at h
    exact h yI yP
  · rw [z, Bool.true_and] at h
    obtain ⟨a, ha, rfl⟩ := (nd_in_iff (by omega)).mp z
    rw [nI_clamp (by omega)] at h
    by_cases y : q < 0
    · rw [decide_eq_false (fun w => w y), if_neg Bool.false_ne_true] at h
      exact br_f (Int32.not_le.mpr y) (h yI yP)
    · rw [decide_eq_true y, if_pos rfl] at h
      obtain ⟨k, hk, rfl⟩ := nI_of y
      rw [nI_clamp hk] at h
      exact br_t (nI_pos' hk) (yd_cubes hY (by omega) (fun i pr hP => ye_prime hk hP (h i pr)))
theorem yh_reach {T : Nat → Nat → Bool} {n s0 : Nat} {p : Int32} (hY : nd_Y yl yh T) (hn : n ≤ 32) (h0 : s0 < 16) {post : Int32 → SY → Prop}
    (h1 : ∀ w : Nat → Int32, (nd_in p n = false ∨ ∃ a, a < n ∧ p = nI a ∧ nd_fst (fun k => nd_L (nd_nx (fun k => T (32 + k))) (nd_so (T a)) k s0) 16 = 16) → post (-1) (nI n, nI s0, yt, ye, yl, yh, yI, yP, yC, w, yA, yQ, yR))
    (h2 : ∀ a k, a < n → p = nI a → k < 16 → nd_fst (fun k => nd_L (nd_nx (fun k => T (32 + k))) (nd_so (T a)) k s0) 16 = k → ∀ w c t : Nat → Int32, (∀ j, j < k + 1 → t j = nI (nd_row (nd_nx (fun k => T (32 + k))) (T a) s0 k j)) → post (nI k) (nI n, nI s0, yt, nI k, yl, yh, yI, yP, yC, w, c, yQ, t)) : wpY_reach post (nI n, nI s0, yt, ye, yl, yh, yI, yP, yC, yF, yA, yQ, yR) p := by
  unfold wpY_reach
  dsimp only
  refine ya_net hn (nd_br (fun z => h1 yF (Or.inl z)) (fun z => ?_))
  obtain ⟨a, ha, rfl⟩ := (nd_in_iff (by omega)).mp z
  refine yf_walk h0 hY (fun w e hD hF => yf_set hY (by omega) ?_)
  exact yf_reach hY (by omega) h0 hD hF (fun y => h1 w (Or.inr ⟨a, ha, rfl, y⟩)) (fun k hk y c t ht => h2 a k ha rfl hk y w c t ht)
theorem yh_check {T : Nat → Nat → Bool} {n : Nat} {p q r : Int32} (hY : nd_Y yl yh T) (hn : n ≤ 32) {post : Int32 → Prop}
    (h : post (if nd_in p 8 && (nd_in q n && (decide (p.toNatClampNeg < 6) || nd_in r n)) then nI (nd_ck (nd_nx (fun k => T (32 + k))) p.toNatClampNeg (nd_so (T q.toNatClampNeg)) (nd_so (T r.toNatClampNeg))) else -1)) : wpY_check post (nI n, ys, yt, ye, yl, yh, yI, yP, yC, yF, yA, yQ, yR) p q r := by
  unfold wpY_check
  dsimp only
  refine ya_amo 8 rfl (by omega) (nd_br (fun z => ?_) (fun z => ya_net hn (nd_br (fun z2 => ?_) (fun z2 => ?_))))
  · rw [z, Bool.false_and, if_neg Bool.false_ne_true] at h
    exact h
  · rw [z2, Bool.false_and, Bool.and_false, if_neg Bool.false_ne_true] at h
    exact h
  · rw [z, z2, Bool.true_and, Bool.true_and] at h
    obtain ⟨j, hj, rfl⟩ := (nd_in_iff (by omega)).mp z
    obtain ⟨a, ha, rfl⟩ := (nd_in_iff (by omega)).mp z2
    rw [nI_clamp (show j < 2 ^ 31 by omega), nI_clamp (show a < 2 ^ 31 by omega)] at h
    refine pk_le j 5 (fun y => ?_) (fun y => ?_)
    · rw [decide_eq_true (show j < 6 by omega), Bool.true_or, if_pos rfl] at h
      exact yg_33 (b := r.toNatClampNeg) hY hj (by omega) (fun w => by omega) h
    · refine ya_net hn (nd_br (fun z3 => ?_) (fun z3 => ?_))
      · rw [z3, decide_eq_false (show ¬ j < 6 by omega), Bool.false_or, if_neg Bool.false_ne_true] at h
        exact h
      · rw [z3, Bool.or_true, if_pos rfl] at h
        obtain ⟨b, hb, rfl⟩ := (nd_in_iff (by omega)).mp z3
        rw [nI_clamp (by omega)] at h
        exact yg_33 hY hj (by omega) (fun _ => ⟨by omega, rfl⟩) h
theorem yh_states {T : Nat → Nat → Bool} {s0 : Nat} {p : Int32} (hY : nd_Y yl yh T) (h0 : s0 < 16) {post : Int32 → SY → Prop}
    (h : ∀ (w : Nat → Int32) (e : Nat → Nat), nd_in p 3 = false ∨ nd_D (nd_nx (fun k => T (32 + k))) s0 e → post (if nd_in p 3 then nI (nd_sv e p.toNatClampNeg) else -1) (yn, nI s0, yt, ye, yl, yh, yI, yP, yC, w, yA, yQ, yR)) : wpY_states post (yn, nI s0, yt, ye, yl, yh, yI, yP, yC, yF, yA, yQ, yR) p := by
  unfold wpY_states
  dsimp only
  refine ya_amo 3 rfl (by omega) (nd_br (fun z => ?_) (fun z => ?_))
  · have h := h yF (fun _ => 0) (Or.inl z)
    rw [z, if_neg Bool.false_ne_true] at h
    exact h
  · refine yf_walk h0 hY (fun w e hD hF => ?_)
    have h := h w e (Or.inr hD)
    rw [z, if_pos rfl] at h
    obtain ⟨j, hj, rfl⟩ := (nd_in_iff (by omega)).mp z
    rw [nI_clamp (by omega)] at h
    exact yf_states hj hF (fun s hs => (hD s hs).2) h
theorem yh_alike {T : Nat → Nat → Bool} {n : Nat} {p q : Int32} (hY : nd_Y yl yh T) (hn : n ≤ 32) {post : Int32 → SY → Prop}
    (h1 : ∀ t : Nat → Int32, nd_in p n = false ∨ (¬ q = -1 ∧ nd_in q 16 = false) → post (-1) (nI n, ys, yt, ye, yl, yh, yI, yP, yC, yF, yA, t, yR))
    (h2 : ∀ a s, a < n → s < 16 → p = nI a → q = nI s → ∀ t : Nat → Int32, post (nI (nd_lk (nd_nx (fun k => T (32 + k))) (fun s i => T a (s * 8 + i)) 16 s)) (nI n, ys, yt, ye, yl, yh, yI, yP, yC, yF, yA, t, yR))
    (h3 : ∀ a, a < n → p = nI a → q = -1 → ∀ t : Nat → Int32, post (nI (nd_cnt (fun s => nd_lk (nd_nx (fun k => T (32 + k))) (fun s i => T a (s * 8 + i)) 16 s == s) 16)) (nI n, ys, yt, ye, yl, yh, yI, yP, yC, yF, yA, t, yR)) : wpY_alike post (nI n, ys, yt, ye, yl, yh, yI, yP, yC, yF, yA, yQ, yR) p q := by
  unfold wpY_alike
  dsimp only
  refine ya_net hn (nd_br (fun z => h1 yQ (Or.inl z)) (fun z => ?_))
  obtain ⟨a, ha, rfl⟩ := (nd_in_iff (by omega)).mp z
  have go : (q = -1 ∨ ∃ s, s < 16 ∧ q = nI s) → ∃ m, wY_alike_23 post (nI a) q (nI n) ys yt ye m 0 yl yh yI yP yC yF yA yQ yR := by
    intro hq
    refine yg_init (f := nd_nx (fun k => T (32 + k))) hY (by omega) (fun t ht => ?_)
    refine yg_rounds hY ht (nd_A_0 (fun _ _ => rfl)) (fun t' ht' => yg_fin ht' (fun s hs e => h2 a s ha hs rfl e t') (fun y => h3 a ha rfl ?_ t'))
    rcases hq with hq | ⟨s, hs, e⟩
    · exact hq
    · exact absurd e (y s hs)
  rcases nd_m1c q with y | y | ⟨j, hj, rfl⟩
  · refine br_t y (h1 yQ (Or.inr ⟨?_, nd_in_f (by omega) (Or.inl (nd_lt_m1 y))⟩))
    intro e
    rw [e] at y
    exact absurd y Int32.lt_irrefl
  · rw [y] at go ⊢
    exact br_f Int32.lt_irrefl (br_t (by decide) (go (Or.inl rfl)))
  · refine br_f (nd_nm1 hj) (pk_le j 15 (fun w => go (Or.inr ⟨j, by omega, rfl⟩)) (fun w => h1 yQ (Or.inr ⟨nd_m1 hj, nd_in_f (by omega) (Or.inr (nI_le (by omega) hj))⟩)))
end NDY
