/-! the constructors -/
def nd_t0 (a x : Nat) : Bool := (decide (a < 7) && x.testBit a) || decide (a = 8)
section NDX
variable {xn xr xm xc xl : Int32} {xT xM xN xI xP xC xH xL xD xR xK xF : Nat → Int32}
theorem xi_row {a : Nat} (ha : a < 9) {t : Nat → Int32} (h : ∀ a' x, a' < a → x < 128 → t (a' * 128 + x) = nd_b (nd_t0 a' x)) {post : SX → Prop} {J : Int32 → (Nat → Int32) → (Nat → Int32) → (Nat → Int32) → (Nat → Int32) → (Nat → Int32) → (Nat → Int32) → (Nat → Int32) → (Nat → Int32) → (Nat → Int32) → (Nat → Int32) → (Nat → Int32) → (Nat → Int32) → Prop}
    (hJ : ∀ t' : Nat → Int32, (∀ a' x, a' < a + 1 → x < 128 → t' (a' * 128 + x) = nd_b (nd_t0 a' x)) → J (nI (a + 1)) t' xM xN xI xP xC xH xL xD xR xK xF) : ∃ m, wX_init_116 post J (nI a) xn xr xm xc xl m 0 t xM xN xI xP xC xH xL xD xR xK xF := by
  refine loop_0 (fun m i s => wX_init_116 post J (nI a) xn xr xm xc xl m (nI i) s xM xN xI xP xC xH xL xD xR xK xF) (fun i s => (∀ a' x, a' < a → x < 128 → s (a' * 128 + x) = nd_b (nd_t0 a' x)) ∧ ∀ x, x < i → s (a * 128 + x) = nd_b (nd_t0 a x)) 128 t ⟨h, fun u hu => absurd hu (by omega)⟩ ?_ ?_
  · rintro m s ⟨h1, h2⟩
    refine br_t nd_128 (nm_r (nI_1 a) (hJ s ?_))
    intro a' x ha' hx
    by_cases z : a' = a
    · rw [z]; exact h2 x hx
    · exact h1 a' x (by omega) hx
  · rintro m i s hi ⟨h1, h2⟩ ih
    have put : ∀ z : Int32, z = nd_b (nd_t0 a i) → ∀ w, w = upd s (nI a * 128 + nI i).toNatClampNeg (vp_nar .boolean z) → ∀ y, y = nI i + 1 → wX_init_116 post J (nI a) xn xr xm xc xl m y w xM xN xI xP xC xH xL xD xR xK xF := by
      rintro z rfl
      refine nm_r (e' := upd s (a * 128 + i) (nd_b (nd_t0 a i))) (by rw [nd_ix, nI_clamp (by omega), nd_bv]) (nm_r (nI_1 i) (ih _ ⟨?_, nd_lts ?_ pk_us⟩))
      · intro a' x ha' hx
        rw [pk_un (by omega)]; exact h1 a' x ha' hx
      · intro x hx
        rw [pk_un (by omega)]; exact h2 x hx
    have iv : vp_in (nI a * 128 + nI i) 4096 := by rw [nd_ix]; exact vp_in_nI (by omega) (by omega)
    refine br_f (nd_n128 hi) (pk_le 7 a (fun z => pk_eq a 8 (fun z2 => ⟨iv, put 1 ?_⟩) (fun z2 => ⟨iv, put 0 ?_⟩)) (fun z => xa_bit (by omega) (by omega) ⟨iv, put _ ?_⟩))
    · unfold nd_t0
      rw [decide_eq_true z2, Bool.or_true]; rfl
    · unfold nd_t0
      rw [decide_eq_false z2, decide_eq_false (show ¬ a < 7 by omega)]; rfl
    · unfold nd_t0
      rw [decide_eq_true (show a < 7 by omega), decide_eq_false (show ¬ a = 8 by omega), Bool.true_and, Bool.or_false]
theorem xi_init {post : SX → Prop}
    (h : ∀ t w : Nat → Int32, nd_T t nd_t0 9 → nd_T w (fun k => nd_t0 (3 + k)) 4 → post (nI 9, nI 0, nI 0, 0, nI 0, t, fun _ => 0, w, fun _ => 0, fun _ => 0, fun _ => 0, fun _ => 0, fun _ => 0, fun _ => 0, fun _ => 0, fun _ => 0, fun _ => 0)) : wpX_init post := by
  refine loop_0 (fun m a t => wX_init_108 post 0 0 0 0 0 m (nI a) t (fun _ => 0) (fun _ => 0) (fun _ => 0) (fun _ => 0) (fun _ => 0) (fun _ => 0) (fun _ => 0) (fun _ => 0) (fun _ => 0) (fun _ => 0) (fun _ => 0)) (fun a t => ∀ a' x, a' < a → x < 128 → t (a' * 128 + x) = nd_b (nd_t0 a' x)) 9 (fun _ => 0) (fun a' x ha' => absurd ha' (by omega)) ?_ ?_
  · intro m t ht
    refine br_t (nI_le (a := 9) (b := 9) (by omega) (by omega)) ?_
    refine loop_0 (fun m k w => wX_init_180 post m (nI k) 9 0 0 0 0 t (fun _ => 0) w (fun _ => 0) (fun _ => 0) (fun _ => 0) (fun _ => 0) (fun _ => 0) (fun _ => 0) (fun _ => 0) (fun _ => 0) (fun _ => 0)) (fun k w => ∀ k' x, k' < k → x < 128 → w (k' * 128 + x) = nd_b (nd_t0 (3 + k') x)) 4 (fun _ => 0) (fun a' x ha' => absurd ha' (by omega)) ?_ ?_
    · intro m w hw
      exact br_t nd_4 (h t w ht hw)
    · intro m k w hk hw ih
      refine br_f (nd_n4 hk) ?_
      rw [show (3 : Int32) + nI k = nI (3 + k) from nI_add 3 k]
      refine xa_cpy ht (by omega) (by omega) hk (fun w' h1 h2 => nm_r (nI_1 k) (ih w' ?_))
      intro k' x hk' hx
      by_cases z : k' = k
      · rw [z]; exact h1 x hx
      · rw [h2 _ (by omega)]; exact hw k' x (by omega) hx
  · intro m a t ha ht ih
    exact br_f (nI_ge (b := 9) ha (by omega)) (xi_row ha ht (fun t' h' => ih t' h'))
end NDX
section NDY
variable {yn ys yt ye : Int32} {yl yh : Nat → Int64} {yI yP yC yF yA yQ yR : Nat → Int32}
theorem yi_165 {post : SY → Prop} (hb : ∀ a x, x < 128 → nd_yb yl yh a x = nd_t0 a x)
    (h : ∀ l w : Nat → Int64, (∀ a x, a < 9 → x < 128 → nd_yb l w a x = nd_t0 a x) → (∀ k x, k < 4 → x < 128 → nd_yb l w (32 + k) x = nd_t0 (3 + k) x) → post (yn, ys, yt, ye, l, w, yI, yP, yC, yF, yA, yQ, yR)) : ∃ m, wY_init_165 post m 3 yn ys yt ye yl yh yI yP yC yF yA yQ yR := by
  refine pk_loop (fun m v (s : (Nat → Int64) × (Nat → Int64)) => wY_init_165 post m (nI v) yn ys yt ye s.1 s.2 yI yP yC yF yA yQ yR) (fun v s => 3 ≤ v ∧ ∀ a x, x < 128 → nd_yb s.1 s.2 a x = if 32 ≤ a ∧ a < 29 + v then nd_t0 (a - 29) x else nd_t0 a x) 7 3 (yl, yh) (by omega) ⟨Nat.le_refl _, fun a x hx => by rw [if_neg (by omega)]; exact hb a x hx⟩ ?_ ?_
  · rintro m ⟨l, w⟩ ⟨_, h1⟩
    refine br_t nd_7 (h l w ?_ ?_)
    · intro a x ha hx
      have := h1 a x hx
      rw [if_neg (by omega)] at this
      exact this
    · intro k x hk hx
      have := h1 (32 + k) x hx
      rw [if_pos (by omega), show 32 + k - 29 = 3 + k by omega] at this
      exact this
  · rintro m v ⟨l, w⟩ hv ⟨h3, h1⟩ ih
    have h1 : ∀ a x, x < 128 → nd_yb l w a x = if 32 ≤ a ∧ a < 29 + v then nd_t0 (a - 29) x else nd_t0 a x := h1
    refine br_f (nd_n7 hv) ?_
    rw [show (29 : Int32) + nI v = nI (29 + v) from nI_add 29 v]
    refine ya_copy (by omega) (by omega) (fun l' w' hw => nm_r (nI_1 v) (ih (l', w') ⟨by omega, ?_⟩))
    intro a x hx
    show nd_yb l' w' a x = _
    rw [hw a x]
    by_cases z : a = 29 + v
    · rw [if_pos z, if_pos (by omega), h1 v x hx, if_neg (by omega), z, show 29 + v - 29 = v by omega]
    · rw [if_neg z, h1 a x hx]
      by_cases y : 32 ≤ a ∧ a < 29 + v
      · rw [if_pos y, if_pos (by omega)]
      · rw [if_neg y, if_neg (by omega)]
theorem yi_142 {post : SY → Prop} (hb : ∀ a x, x < 128 → nd_yb yl yh a x = (decide (a < 7) && x.testBit a))
    (h : ∀ l w : Nat → Int64, (∀ a x, x < 128 → nd_yb l w a x = nd_t0 a x) → ∃ m, wY_init_165 post m 3 yn ys yt ye l w yI yP yC yF yA yQ yR) : ∃ m, wY_init_142 post m 0 yn ys yt ye yl yh yI yP yC yF yA yQ yR := by
  refine loop_0 (fun m i (s : (Nat → Int64) × (Nat → Int64)) => wY_init_142 post m (nI i) yn ys yt ye s.1 s.2 yI yP yC yF yA yQ yR) (fun i s => ∀ a x, x < 128 → nd_yb s.1 s.2 a x = ((decide (a < 7) && x.testBit a) || (decide (a = 8) && decide (x < i)))) 128 (yl, yh) (fun a x hx => by rw [hb a x hx, decide_eq_false (Nat.not_lt_zero x), Bool.and_false, Bool.or_false]) ?_ ?_
  · rintro m ⟨l, w⟩ h1
    refine br_t nd_128 (h l w ?_)
    intro a x hx
    have := h1 a x hx
    rw [decide_eq_true hx, Bool.and_true] at this
    exact this
  · rintro m i ⟨l, w⟩ hi h1 ih
    have h1 : ∀ a x, x < 128 → nd_yb l w a x = ((decide (a < 7) && x.testBit a) || (decide (a = 8) && decide (x < i))) := h1
    refine br_f (nd_n128 hi) (ya_set (a := 8) (b := true) (by omega) hi (fun l' w' hw => nm_r (nI_1 i) (ih (l', w') ?_)))
    intro a x hx
    show nd_yb l' w' a x = _
    rw [hw a x hx, h1 a x hx, Bool.and_true, Bool.or_assoc, ← Bool.and_or_distrib_left]
    by_cases z : x = i
    · rw [decide_eq_true z, decide_eq_true (show x < i + 1 by omega), Bool.or_true]
    · rw [decide_eq_false z, Bool.or_false]
      by_cases y : x < i
      · rw [decide_eq_true y, decide_eq_true (show x < i + 1 by omega)]
      · rw [decide_eq_false y, decide_eq_false (show ¬ x < i + 1 by omega)]
theorem yi_101 {post : SY → Prop} {v : Nat} (hv : v < 7) {J : Int32 → Int32 → Int32 → Int32 → Int32 → (Nat → Int64) → (Nat → Int64) → (Nat → Int32) → (Nat → Int32) → (Nat → Int32) → (Nat → Int32) → (Nat → Int32) → (Nat → Int32) → (Nat → Int32) → Prop} (hb : ∀ a x, x < 128 → nd_yb yl yh a x = (decide (a < v) && x.testBit a))
    (hJ : ∀ l w : Nat → Int64, (∀ a x, x < 128 → nd_yb l w a x = (decide (a < v + 1) && x.testBit a)) → J (nI (v + 1)) yn ys yt ye l w yI yP yC yF yA yQ yR) : ∃ m, wY_init_101 post J (nI v) m 0 yn ys yt ye yl yh yI yP yC yF yA yQ yR := by
  refine loop_0 (fun m i (s : (Nat → Int64) × (Nat → Int64)) => wY_init_101 post J (nI v) m (nI i) yn ys yt ye s.1 s.2 yI yP yC yF yA yQ yR) (fun i s => ∀ a x, x < 128 → nd_yb s.1 s.2 a x = ((decide (a < v) && x.testBit a) || (decide (a = v) && (decide (x < i) && x.testBit v)))) 128 (yl, yh) (fun a x hx => by rw [hb a x hx, decide_eq_false (Nat.not_lt_zero x), Bool.false_and, Bool.and_false, Bool.or_false]) ?_ ?_
  · rintro m ⟨l, w⟩ h1
    refine br_t nd_128 (nm_r (nI_1 v) (hJ l w ?_))
    intro a x hx
    have h2 : nd_yb l w a x = ((decide (a < v) && x.testBit a) || (decide (a = v) && (decide (x < 128) && x.testBit v))) := h1 a x hx
    rw [h2, decide_eq_true hx, Bool.true_and]
    by_cases z : a = v
    · subst z
      rw [decide_eq_true rfl, decide_eq_false (Nat.lt_irrefl a), decide_eq_true (show a < a + 1 by omega), Bool.false_and, Bool.false_or]
    · rw [decide_eq_false z, Bool.false_and, Bool.or_false]
      by_cases y : a < v
      · rw [decide_eq_true y, decide_eq_true (show a < v + 1 by omega)]
      · rw [decide_eq_false y, decide_eq_false (show ¬ a < v + 1 by omega)]
  · rintro m i ⟨l, w⟩ hi h1 ih
    have h1 : ∀ a x, x < 128 → nd_yb l w a x = ((decide (a < v) && x.testBit a) || (decide (a = v) && (decide (x < i) && x.testBit v))) := h1
    have key : wY_init_125 post J (wY_init_101 post J (nI v) m) (nI v) (nI i) (nd_b (i.testBit v)) (nI i) (nI v) yn ys yt ye l w yI yP yC yF yA yQ yR := by
      unfold wY_init_125
      refine ya_set (by omega) hi (fun l' w' hw => nm_r (nI_1 i) (ih (l', w') ?_))
      intro a x hx
      show nd_yb l' w' a x = _
      rw [hw a x hx, h1 a x hx, Bool.or_assoc, ← Bool.and_or_distrib_left]
      by_cases z : x = i
      · subst z
        rw [decide_eq_true rfl, decide_eq_true (show x < x + 1 by omega), decide_eq_false (Nat.lt_irrefl x), Bool.false_and, Bool.false_or]
      · rw [decide_eq_false z, Bool.false_and, Bool.or_false]
        by_cases y : x < i
        · rw [decide_eq_true y, decide_eq_true (show x < i + 1 by omega)]
        · rw [decide_eq_false y, decide_eq_false (show ¬ x < i + 1 by omega)]
    refine br_f (nd_n128 hi) ?_
    rw [nd_bit (show i < 2 ^ 31 by omega) (by omega), nd_b1]
    revert key
    cases i.testBit v
    · intro key; exact br_f (by decide) key
    · intro key; exact br_t rfl key
theorem yi_init {post : SY → Prop}
    (h : ∀ l w : Nat → Int64, (∀ a x, a < 9 → x < 128 → nd_yb l w a x = nd_t0 a x) → (∀ k x, k < 4 → x < 128 → nd_yb l w (32 + k) x = nd_t0 (3 + k) x) → post (nI 9, nI 0, nI 0, -1, l, w, fun _ => 0, fun _ => 0, fun _ => 0, fun _ => 0, fun _ => 0, fun _ => 0, fun _ => 0)) : wpY_init post := by
  refine loop_0 (fun m v (s : (Nat → Int64) × (Nat → Int64)) => wY_init_93 post m (nI v) 9 0 0 (-1) s.1 s.2 (fun _ => 0) (fun _ => 0) (fun _ => 0) (fun _ => 0) (fun _ => 0) (fun _ => 0) (fun _ => 0)) (fun v s => ∀ a x, x < 128 → nd_yb s.1 s.2 a x = (decide (a < v) && x.testBit a)) 7 (fun _ => 0, fun _ => 0) ?_ ?_ ?_
  · intro a x _
    show nd_yb (fun _ => 0) (fun _ => 0) a x = (decide (a < 0) && x.testBit a)
    unfold nd_yb
    rw [decide_eq_false (Nat.not_lt_zero a), Bool.false_and]
    split
    · exact BitVec.getLsbD_zero
    · exact BitVec.getLsbD_zero
  · rintro m ⟨l, w⟩ h1
    exact br_t nd_7 (yi_142 h1 (fun l' w' h2 => yi_165 h2 (fun l'' w'' h3 h4 => h l'' w'' h3 h4)))
  · rintro m v ⟨l, w⟩ hv h1 ih
    exact br_f (nd_n7 hv) (yi_101 hv h1 (fun l' w' h2 => ih (l', w') h2))
end NDY
