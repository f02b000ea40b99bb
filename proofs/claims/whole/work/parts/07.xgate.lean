/-! the component: gate -/
section NDX
variable {xn xr xm xc xl : Int32} {xT xM xN xI xP xC xH xL xD xR xK xF : Nat → Int32}
theorem nd_big {p : Int32} {n : Nat} (hn : n < 2 ^ 31) (h : nI n ≤ p) : ∃ j, n ≤ j ∧ j < 2 ^ 31 ∧ p = nI j := by
  have h0 : ¬ p < 0 := by
    intro z
    have := Int32.lt_of_lt_of_le z (nI_pos' (n := n) hn)
    exact absurd (Int32.lt_of_lt_of_le this h) Int32.lt_irrefl
  obtain ⟨j, hj, rfl⟩ := nI_of h0
  exact ⟨j, (nI_leI hn hj).mp h, hj, rfl⟩
theorem nd_and {b c : Bool} {post : Int32 → Prop} {A : Prop} (hp : post (nd_b (b && c))) (f : post (nd_b c) → A) : (nd_b b = 0 → post 0) ∧ (¬ nd_b b = 0 → A) := by
  cases b
  · exact br_t rfl hp
  · exact br_f (by decide) (f hp)
def nd_lg (n j : Nat) (p1 p2 p3 : Int32) : Bool :=
  if j = 0 then nd_in p1 n
  else if j ≤ 3 then nd_in p1 n && nd_in p2 n
  else if j ≤ 5 then nd_in p1 n && (nd_in p2 n && nd_in p3 n)
  else if j ≤ 7 then nd_in p1 n && nd_in p2 7
  else if j = 8 then nd_in p1 n && (nd_in p2 7 && nd_in p3 n)
  else nd_in p1 n && (nd_in p2 7 && (decide (p3 = 0) || decide (p3 = 1)))
theorem nd_p01 {p : Int32} {post : Int32 → Prop} (hp : post (nd_b (decide (p = 0) || decide (p = 1)))) : (p = 0 → post 1) ∧ (¬ p = 0 → ((p = 1 → post 1) ∧ (¬ p = 1 → post 0))) := by
  by_cases h : p = 0
  · rw [decide_eq_true h, Bool.true_or] at hp
    exact br_t h hp
  · rw [decide_eq_false h, Bool.false_or] at hp
    by_cases h1 : p = 1
    · rw [decide_eq_true h1] at hp
      exact br_f h (br_t h1 hp)
    · rw [decide_eq_false h1] at hp
      exact br_f h (br_f h1 hp)
theorem nd_10 {j : Nat} (h : j < 10) : j = 0 ∨ j = 1 ∨ j = 2 ∨ j = 3 ∨ j = 4 ∨ j = 5 ∨ j = 6 ∨ j = 7 ∨ j = 8 ∨ j = 9 := by omega
theorem xc_62 {n : Nat} {p q : Int32} (hn : n ≤ 32) {post : Int32 → Prop} (hp : post (nd_b (nd_in p n && nd_in q n))) : wX_fitsGate_62 post p q (nI n) xr xm xc xl xT xM xN xI xP xC xH xL xD xR xK xF :=
  xa_net hn (nd_and hp (fun hp => xa_net hn (nd_b01 hp)))
theorem xc_84 {n : Nat} {p q r : Int32} (hn : n ≤ 32) {post : Int32 → Prop} (hp : post (nd_b (nd_in p n && (nd_in q n && nd_in r n)))) : wX_fitsGate_84 post p q r (nI n) xr xm xc xl xT xM xN xI xP xC xH xL xD xR xK xF :=
  xa_net hn (nd_and hp (fun hp => xa_net hn (nd_and hp (fun hp => xa_net hn (nd_b01 hp)))))
theorem xc_115 {n : Nat} {p q : Int32} (hn : n ≤ 32) {post : Int32 → Prop} (hp : post (nd_b (nd_in p n && nd_in q 7))) : wX_fitsGate_115 post p q (nI n) xr xm xc xl xT xM xN xI xP xC xH xL xD xR xK xF :=
  xa_net hn (nd_and hp (fun hp => xa_var (nd_b01 hp)))
theorem xc_fits {n : Nat} {p0 p1 p2 p3 : Int32} (hn : n ≤ 32) {post : Int32 → Prop} (hp : post (nd_b (nd_in p0 10 && nd_lg n p0.toNatClampNeg p1 p2 p3))) : wpX_fitsGate post (nI n, xr, xm, xc, xl, xT, xM, xN, xI, xP, xC, xH, xL, xD, xR, xK, xF) p0 p1 p2 p3 := by
  rcases pk_ix p0 (n := 10) (by omega) with h | h | ⟨j, hj, rfl⟩
  · rw [nd_in_f (by omega) (Or.inl h), Bool.false_and] at hp
    exact br_t h hp
  · rw [nd_in_f (by omega) (Or.inr h), Bool.false_and] at hp
    obtain ⟨j, h1, h2, rfl⟩ := nd_big (by omega) h
    exact br_f (nI_pos h2) (br_t (nI_lt (a := 9) (by omega) h2) hp)
  · rw [nd_in_nI hj (by omega), Bool.true_and, nI_clamp (by omega)] at hp
    rcases nd_10 hj with rfl | rfl | rfl | rfl | rfl | rfl | rfl | rfl | rfl | rfl
    · exact br_f (by decide) (br_f (by decide) (br_t (by decide) (xa_net hn ⟨nd_bn _, hp⟩)))
    · exact br_f (by decide) (br_f (by decide) (br_f (by decide) (br_t (by decide) (xc_62 hn hp))))
    · exact br_f (by decide) (br_f (by decide) (br_f (by decide) (br_f (by decide) (br_t (by decide) (xc_62 hn hp)))))
    · exact br_f (by decide) (br_f (by decide) (br_f (by decide) (br_f (by decide) (br_f (by decide) (br_t (by decide) (xc_62 hn hp))))))
    · exact br_f (by decide) (br_f (by decide) (br_f (by decide) (br_f (by decide) (br_f (by decide) (br_f (by decide) (br_t (by decide) (xc_84 hn hp)))))))
    · exact br_f (by decide) (br_f (by decide) (br_f (by decide) (br_f (by decide) (br_f (by decide) (br_f (by decide) (br_f (by decide) (br_t (by decide) (xc_84 hn hp))))))))
    · exact br_f (by decide) (br_f (by decide) (br_f (by decide) (br_f (by decide) (br_f (by decide) (br_f (by decide) (br_f (by decide) (br_f (by decide) (br_t (by decide) (xc_115 hn hp)))))))))
    · exact br_f (by decide) (br_f (by decide) (br_f (by decide) (br_f (by decide) (br_f (by decide) (br_f (by decide) (br_f (by decide) (br_f (by decide) (br_f (by decide) (br_t (by decide) (xc_115 hn hp))))))))))
    · exact br_f (by decide) (br_f (by decide) (br_f (by decide) (br_f (by decide) (br_f (by decide) (br_f (by decide) (br_f (by decide) (br_f (by decide) (br_f (by decide) (br_f (by decide) (br_t (by decide) (xa_net hn (nd_and hp (fun hp => xa_var (nd_and hp (fun hp => xa_net hn (nd_b01 hp))))))))))))))))
    · exact br_f (by decide) (br_f (by decide) (br_f (by decide) (br_f (by decide) (br_f (by decide) (br_f (by decide) (br_f (by decide) (br_f (by decide) (br_f (by decide) (br_f (by decide) (br_f (by decide) (br_t (by decide) (xa_net hn (nd_and hp (fun hp => xa_var (nd_and hp (fun hp => nd_p01 hp))))))))))))))))
theorem xc_joined {T : Nat → Nat → Bool} {n j a b c x : Nat} {p2 p3 : Int32} (hT : nd_T xT T n) (hn : n ≤ 32) (hj : j < 6) (ha : a < n) (hb : 1 ≤ j → b < n ∧ p2 = nI b) (hc : 4 ≤ j → c < n ∧ p3 = nI c) (hx : x < 128) {post : Int32 → Prop} (hp : post (nd_b (nd_gt T j a b c x))) : wpX_joined post (xn, xr, xm, xc, xl, xT, xM, xN, xI, xP, xC, xH, xL, xD, xR, xK, xF) (nI j) (nI a) p2 p3 (nI x) := by
  unfold wpX_joined
  dsimp only
  have hj : j = 0 ∨ j = 1 ∨ j = 2 ∨ j = 3 ∨ j = 4 ∨ j = 5 := by omega
  rcases hj with rfl | rfl | rfl | rfl | rfl | rfl
  · have e : nd_gt T 0 a b c x = !T a x := rfl
    rw [e] at hp
    refine xa_T hT hn ha hx ?_
    refine br_t (by decide) ?_
    revert hp
    generalize T a x = A
    cases A <;> intro hp <;> (repeat (first | exact hp | refine br_t (by decide) ?_ | refine br_f (by decide) ?_))
  · obtain ⟨hb', rfl⟩ := hb (by omega)
    have e : nd_gt T 1 a b c x = (T a x && T b x) := rfl
    rw [e] at hp
    refine xa_T hT hn ha hx ?_
    refine br_f (by decide) ?_
    refine xa_T hT hn hb' hx ?_
    refine br_t (by decide) ?_
    revert hp
    generalize T a x = A
    generalize T b x = B
    cases A <;> cases B <;> intro hp <;> (repeat (first | exact hp | refine br_t (by decide) ?_ | refine br_f (by decide) ?_))
  · obtain ⟨hb', rfl⟩ := hb (by omega)
    have e : nd_gt T 2 a b c x = (T a x || T b x) := rfl
    rw [e] at hp
    refine xa_T hT hn ha hx ?_
    refine br_f (by decide) ?_
    refine xa_T hT hn hb' hx ?_
    refine br_f (by decide) ?_
    refine br_t (by decide) ?_
    revert hp
    generalize T a x = A
    generalize T b x = B
    cases A <;> cases B <;> intro hp <;> (repeat (first | exact hp | refine br_t (by decide) ?_ | refine br_f (by decide) ?_))
  · obtain ⟨hb', rfl⟩ := hb (by omega)
    have e : nd_gt T 3 a b c x = (T a x != T b x) := rfl
    rw [e] at hp
    refine xa_T hT hn ha hx ?_
    refine br_f (by decide) ?_
    refine xa_T hT hn hb' hx ?_
    refine br_f (by decide) ?_
    refine br_f (by decide) ?_
    refine br_t (by decide) ?_
    revert hp
    generalize T a x = A
    generalize T b x = B
    cases A <;> cases B <;> intro hp <;> (repeat (first | exact hp | refine br_t (by decide) ?_ | refine br_f (by decide) ?_))
  · obtain ⟨hb', rfl⟩ := hb (by omega)
    obtain ⟨hc', rfl⟩ := hc (by omega)
    have e : nd_gt T 4 a b c x = (if T a x then T b x else T c x) := rfl
    rw [e] at hp
    refine xa_T hT hn ha hx ?_
    refine br_f (by decide) ?_
    refine xa_T hT hn hb' hx ?_
    refine br_f (by decide) ?_
    refine br_f (by decide) ?_
    refine br_f (by decide) ?_
    refine xa_T hT hn hc' hx ?_
    refine br_t (by decide) ?_
    revert hp
    generalize T a x = A
    generalize T b x = B
    generalize T c x = C
    cases A <;> cases B <;> cases C <;> intro hp <;> (repeat (first | exact hp | refine br_t (by decide) ?_ | refine br_f (by decide) ?_ | refine ⟨by rfl, ?_⟩))
  · obtain ⟨hb', rfl⟩ := hb (by omega)
    obtain ⟨hc', rfl⟩ := hc (by omega)
    have e : nd_gt T 5 a b c x = (if T a x then T b x || T c x else T b x && T c x) := rfl
    rw [e] at hp
    refine xa_T hT hn ha hx ?_
    refine br_f (by decide) ?_
    refine xa_T hT hn hb' hx ?_
    refine br_f (by decide) ?_
    refine br_f (by decide) ?_
    refine br_f (by decide) ?_
    refine xa_T hT hn hc' hx ?_
    refine br_f (by decide) ?_
    revert hp
    generalize T a x = A
    generalize T b x = B
    generalize T c x = C
    cases A <;> cases B <;> cases C <;> intro hp <;> (repeat (first | exact hp | refine br_t (by decide) ?_ | refine br_f (by decide) ?_))
theorem nd_g6 {T : Nat → Nat → Bool} {a v c x : Nat} (hx : x < 128) (hv : v < 7) : nd_gt T 6 a v c x = (T a (nd_on x v) || T a (nd_off x v)) := by
  have e : nd_gt T 6 a v c x = (T a x || T a (x ^^^ 2 ^ v)) := rfl
  rw [e]
  rcases (nd_flip x hx v hv).2.2.2 with ⟨h1, h2⟩ | ⟨h1, h2⟩
  · rw [h1, h2]
  · rw [h1, h2, Bool.or_comm]
theorem nd_g7 {T : Nat → Nat → Bool} {a v c x : Nat} (hx : x < 128) (hv : v < 7) : nd_gt T 7 a v c x = (T a (nd_on x v) && T a (nd_off x v)) := by
  have e : nd_gt T 7 a v c x = (T a x && T a (x ^^^ 2 ^ v)) := rfl
  rw [e]
  rcases (nd_flip x hx v hv).2.2.2 with ⟨h1, h2⟩ | ⟨h1, h2⟩
  · rw [h1, h2]
  · rw [h1, h2, Bool.and_comm]
theorem xc_108 {T : Nat → Nat → Bool} {n a v x : Nat} {b : Bool} (hT : nd_T xT T n) (hn : n ≤ 32) (ha : a < n) (hv : v < 7) (hx : x < 128) {post : Int32 → Prop} (hp : post (nd_b (T a (nd_wi x v b)))) : wX_moved_108 post (nI a) (nI (nd_on x v)) (nI (nd_off x v)) (nd_b b) xn xr xm xc xl xT xM xN xI xP xC xH xL xD xR xK xF := by
  have hf := nd_flip x hx v hv
  cases b
  · exact br_t rfl (xa_T hT hn ha hf.2.1 ⟨nd_bn _, hp⟩)
  · exact br_f (by decide) (xa_T hT hn ha hf.1 ⟨nd_bn _, hp⟩)
theorem xc_moved {T : Nat → Nat → Bool} {n j a v c x : Nat} {p3 : Int32} (hT : nd_T xT T n) (hn : n ≤ 32) (hj : 6 ≤ j) (hj2 : j < 10) (ha : a < n) (hv : v < 7) (hc : 8 ≤ j → p3 = nI c ∧ (j = 8 → c < n) ∧ (j = 9 → c < 2)) (hx : x < 128) {post : Int32 → Prop} (hp : post (nd_b (nd_gt T j a v c x))) : wpX_moved post (xn, xr, xm, xc, xl, xT, xM, xN, xI, xP, xC, xH, xL, xD, xR, xK, xF) (nI j) (nI a) (nI v) p3 (nI x) := by
  have hf := nd_flip x hx v hv
  refine nm_r (e' := nI (nd_on x v)) (by rw [nd_shl v (by omega), nd_or]; rfl) ?_
  refine nm_r (e' := nI (nd_off x v)) (by rw [nd_shl v (by omega), nx_xor]; rfl) ?_
  have hj : j = 6 ∨ j = 7 ∨ j = 8 ∨ j = 9 := by omega
  rcases hj with rfl | rfl | rfl | rfl
  · rw [nd_g6 hx hv] at hp
    refine br_t (by decide) (xa_T hT hn ha hf.1 ?_)
    revert hp
    generalize T a (nd_on x v) = A
    cases A
    · intro hp
      exact br_t rfl (xa_T hT hn ha hf.2.1 (nd_b01 hp))
    · intro hp
      exact br_f (by decide) hp
  · rw [nd_g7 hx hv] at hp
    exact br_f (by decide) (br_t (by decide) (xa_T hT hn ha hf.1 (nd_and hp (fun hp => xa_T hT hn ha hf.2.1 (nd_b01 hp)))))
  · obtain ⟨rfl, hc, _⟩ := hc (by omega)
    exact br_f (by decide) (br_f (by decide) (br_t (by decide) (xa_T hT hn (hc rfl) hx (xc_108 hT hn ha hv hx hp))))
  · obtain ⟨rfl, _, hc⟩ := hc (by omega)
    have hc : c = 0 ∨ c = 1 := by have := hc rfl; omega
    refine br_f (by decide) (br_f (by decide) (br_f (by decide) ?_))
    rcases hc with rfl | rfl
    · exact br_f (by decide) (xc_108 (b := false) hT hn ha hv hx hp)
    · exact br_t (by decide) (xc_108 (b := true) hT hn ha hv hx hp)
/-- the net that has the function M -/
def nd_fn (T : Nat → Nat → Bool) (M : Nat → Bool) (n : Nat) : Nat := nd_fst (fun a => nd_all (fun x => T a x == M x) 128) n
theorem xc_nam1 {T : Nat → Nat → Bool} {M : Nat → Bool} {n a : Nat} (hT : nd_T xT T n) (hn : n ≤ 32) (ha : a < n) (hM : ∀ x, x < 128 → xM x = nd_b (M x)) {post : Int32 → Prop} {J : Int32 → Prop}
    (h0 : nd_all (fun x => T a x == M x) 128 = false → J (nI (a + 1))) (h1 : nd_all (fun x => T a x == M x) 128 = true → post (nI a)) : ∃ m, wX_netAsMade_14 post J (nI a) xn xr xm xc xl xT xM xN xI xP xC xH xL xD xR xK xF m 1 0 := by
  refine loop_0 (fun n i s => wX_netAsMade_14 post J (nI a) xn xr xm xc xl xT xM xN xI xP xC xH xL xD xR xK xF n s (nI i)) (fun i s => s = nd_b (nd_all (fun x => T a x == M x) i)) 128 1 rfl ?_ ?_
  · rintro m s rfl
    exact br_t nd_128 (nd_br (fun z => nm_r (nI_1 a) (h0 z)) h1)
  · rintro m i s hi rfl ih
    refine br_f (nd_n128 hi) (xa_T hT hn ha hi ⟨vp_in_nI hi (by omega), ?_⟩)
    rw [nI_clamp (show i < 2 ^ 31 by omega), hM i hi]
    refine nd_bq (fun w => ?_) (fun w => ?_)
    · refine nm_r (nI_1 i) (ih _ ?_)
      rw [nd_all, w, BEq.rfl, Bool.and_true]
    · refine nm_r (nI_1 i) (ih 0 ?_)
      rw [nd_all, beq_eq_false_iff_ne.mpr w, Bool.and_false]
      rfl
theorem xc_nam {T : Nat → Nat → Bool} {M : Nat → Bool} {n : Nat} (hT : nd_T xT T n) (hn : n ≤ 32) (hM : ∀ x, x < 128 → xM x = nd_b (M x)) {post : Int32 → Prop} (hp : post (nd_ls (fun a => nd_all (fun x => T a x == M x) 128) n)) : wpX_netAsMade post (nI n, xr, xm, xc, xl, xT, xM, xN, xI, xP, xC, xH, xL, xD, xR, xK, xF) := by
  refine loop_0 (fun m i (_ : Unit) => wX_netAsMade_2 post (nI n) xr xm xc xl xT xM xN xI xP xC xH xL xD xR xK xF m (nI i)) (fun i _ => ∀ a, a < i → nd_all (fun x => T a x == M x) 128 = false) n () (fun j hj => absurd hj (by omega)) ?_ ?_
  · intro m _ z
    rw [nd_ls_f z] at hp
    exact br_t (nI_le (Nat.le_refl _) (by omega)) hp
  · intro m i _ hi z ih
    refine br_f (nI_ge hi (by omega)) (xc_nam1 hT hn hi hM (fun w => ih () (nd_lts z w)) (fun w => ?_))
    rw [nd_ls_t (p := fun a => nd_all (fun x => T a x == M x) 128) hi z w] at hp
    exact hp
theorem xc_add {M : Nat → Bool} {n : Nat} (hn : n ≤ 32) (hM : ∀ x, x < 128 → xM x = nd_b (M x)) {post : Int32 → SX → Prop}
    (h1 : n = 32 → post (-1) (nI n, xr, xm, xc, xl, xT, xM, xN, xI, xP, xC, xH, xL, xD, xR, xK, xF))
    (h2 : n < 32 → ∀ t : Nat → Int32, (∀ x, x < 128 → t (n * 128 + x) = nd_b (M x)) → (∀ j, j < n * 128 → t j = xT j) → post (nI n) (nI (n + 1), xr, xm, xc, xl, t, xM, xN, xI, xP, xC, xH, xL, xD, xR, xK, xF)) : wpX_addMade post (nI n, xr, xm, xc, xl, xT, xM, xN, xI, xP, xC, xH, xL, xD, xR, xK, xF) := by
  by_cases hn2 : n < 32
  · refine br_t (nI_lt (b := 32) hn2 (by omega)) ?_
    refine loop_0 (fun m i s => wX_addMade_13 post (nI n) xr xm xc xl m (nI i) s xM xN xI xP xC xH xL xD xR xK xF) (fun i s => (∀ x, x < i → s (n * 128 + x) = nd_b (M x)) ∧ ∀ j, j < n * 128 → s j = xT j) 128 xT ⟨fun x hx => absurd hx (by omega), fun j _ => rfl⟩ ?_ ?_
    · intro m s hs
      refine br_t nd_128 (nm_r (nI_1 n) ?_)
      rw [nI_pred]
      exact h2 hn2 s hs.1 hs.2
    · intro m i s hi hs ih
      refine br_f (nd_n128 hi) ⟨vp_in_nI hi (by omega), by rw [nd_ix]; exact vp_in_nI (by omega) (by omega), ?_⟩
      refine nm_r (e' := upd s (n * 128 + i) (nd_b (M i))) (by rw [nd_ix, nI_clamp (by omega), nI_clamp (by omega), hM i hi, nd_bv]) (nm_r (nI_1 i) (ih _ ⟨?_, ?_⟩))
      · refine nd_lts ?_ pk_us
        intro x hx
        rw [pk_un (by omega)]; exact hs.1 x hx
      · intro j hj
        rw [pk_un (by omega)]; exact hs.2 j hj
  · exact br_f (nI_nlt (b := 32) (by omega) (by omega)) (h1 (by omega))
theorem xc_gate {T : Nat → Nat → Bool} {M : Nat → Bool} {n j : Nat} {p1 p2 p3 : Int32} (hT : nd_T xT T n) (hn : n ≤ 32) (hj : j < 10)
    (hm : ∀ (g : Nat → Int32) (x : Nat) (post : Int32 → Prop), x < 128 → post (nd_b (M x)) → (6 ≤ j → wpX_moved post (nI n, xr, xm, xc, xl, xT, g, xN, xI, xP, xC, xH, xL, xD, xR, xK, xF) (nI j) p1 p2 p3 (nI x)) ∧ (j < 6 → wpX_joined post (nI n, xr, xm, xc, xl, xT, g, xN, xI, xP, xC, xH, xL, xD, xR, xK, xF) (nI j) p1 p2 p3 (nI x))) {post : Int32 → SX → Prop}
    (h0 : ∀ g, nd_fn T M n < n → post (nI (nd_fn T M n)) (nI n, xr, xm, xc, xl, xT, g, xN, xI, xP, xC, xH, xL, xD, xR, xK, xF))
    (h1 : ∀ g, nd_fn T M n = n → n = 32 → post (-1) (nI n, xr, xm, xc, xl, xT, g, xN, xI, xP, xC, xH, xL, xD, xR, xK, xF))
    (h2 : ∀ g, nd_fn T M n = n → n < 32 → ∀ t : Nat → Int32, (∀ x, x < 128 → t (n * 128 + x) = nd_b (M x)) → (∀ j, j < n * 128 → t j = xT j) → post (nI n) (nI (n + 1), xr, xm, xc, xl, t, g, xN, xI, xP, xC, xH, xL, xD, xR, xK, xF)) :
    ∃ m, wX_gate_17 post (nI j) p1 p2 p3 (nI n) xr xm xc xl m 0 xT xM xN xI xP xC xH xL xD xR xK xF := by
  refine loop_0 (fun m i s => wX_gate_17 post (nI j) p1 p2 p3 (nI n) xr xm xc xl m (nI i) xT s xN xI xP xC xH xL xD xR xK xF) (fun i s => ∀ x, x < i → s x = nd_b (M x)) 128 xM (fun x hx => absurd hx (by omega)) ?_ ?_
  · intro m s hs
    refine br_t nd_128 (xc_nam hT hn hs ?_)
    have hle : nd_fn T M n ≤ n := nd_fst_le _ n
    by_cases z : nd_fn T M n < n
    · have e : nd_ls (fun a => nd_all (fun x => T a x == M x) 128) n = nI (nd_fn T M n) := if_pos z
      rw [e]
      exact br_f (nI_pos (by omega)) (h0 s z)
    · have e : nd_ls (fun a => nd_all (fun x => T a x == M x) 128) n = -1 := if_neg z
      rw [e]
      have z2 : nd_fn T M n = n := Nat.le_antisymm hle (Nat.le_of_not_lt z)
      exact br_t (by decide) (xc_add hn hs (h1 s z2) (h2 s z2))
  · intro m i s hi hs ih
    refine br_f (nd_n128 hi) ?_
    have next : ∀ s' : Nat → Int32, s' = upd s (nI i).toNatClampNeg (vp_nar .boolean (nd_b (M i))) → ∀ y, y = nI i + 1 → wX_gate_17 post (nI j) p1 p2 p3 (nI n) xr xm xc xl m y xT s' xN xI xP xC xH xL xD xR xK xF := by
      refine nm_r (e' := upd s i (nd_b (M i))) (by rw [nI_clamp (by omega), nd_bv]) (nm_r (nI_1 i) (ih _ ?_))
      refine nd_lts ?_ pk_us
      intro x hx
      rw [pk_un (by omega)]; exact hs x hx
    by_cases h6 : 6 ≤ j
    · exact br_t (nI_le (a := 6) h6 (by omega)) ((hm s i _ hi ⟨vp_in_nI hi (by omega), next⟩).1 h6)
    · exact br_f (nI_ge (b := 6) (by omega) (by omega)) ((hm s i _ hi ⟨vp_in_nI hi (by omega), next⟩).2 (by omega))
end NDX
