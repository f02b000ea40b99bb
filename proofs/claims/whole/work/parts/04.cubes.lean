/-! cubes: pure -/
def nd_dg (c v : Nat) : Nat := c / 3 ^ v % 3
def nd_as (c : Nat) : Nat → Nat
  | 0 => 0
  | v + 1 => nd_as c v + nd_dg c v * 2 ^ v
def nd_v2 (c : Nat) : Nat := nd_fst (fun v => decide (nd_dg c v = 2)) 7
theorem nd_dg_lt (c v : Nat) : nd_dg c v < 3 := Nat.mod_lt _ (by decide)
theorem nd_p3 (v : Nat) : 0 < 3 ^ v := Nat.pow_pos (by decide)
theorem nd_dg2 {c v : Nat} (h : nd_dg c v = 2) : 2 * 3 ^ v ≤ c := by
  have h1 : 2 ≤ c / 3 ^ v := by
    have h2 : c / 3 ^ v % 3 = 2 := h
    revert h2
    generalize c / 3 ^ v = z
    omega
  exact (Nat.le_div_iff_mul_le (nd_p3 v)).mp h1
theorem nd_dgs (c v : Nat) : c / 3 ^ v / 3 = c / 3 ^ (v + 1) := by rw [Nat.div_div_eq_div_mul, Nat.pow_succ]
theorem nd_as_lt {c v : Nat} (h : ∀ u, u < v → nd_dg c u ≠ 2) : nd_as c v < 2 ^ v := by
  induction v with
  | zero => exact Nat.one_pos
  | succ v ih =>
    have h1 := ih (fun u hu => h u (by omega))
    have h2 := h v (by omega)
    have h3 := nd_dg_lt c v
    rw [nd_as, Nat.pow_succ]
    have h4 : nd_dg c v * 2 ^ v ≤ 1 * 2 ^ v := Nat.mul_le_mul_right _ (by omega)
    omega
theorem nd_wide {c v : Nat} (hc : c < 2187) (hv : v < 7) (h : nd_dg c v ≠ 2) : c + (2 - nd_dg c v) * 3 ^ v < 2187 := by
  unfold nd_dg at *
  have hv : v = 0 ∨ v = 1 ∨ v = 2 ∨ v = 3 ∨ v = 4 ∨ v = 5 ∨ v = 6 := by omega
  rcases hv with rfl | rfl | rfl | rfl | rfl | rfl | rfl <;> simp only [Nat.reducePow] at * <;> omega
def nd_impN (T : Nat → Bool) : Nat → Nat → Bool
  | 0, _ => false
  | n + 1, c => if nd_v2 c < 7 then nd_impN T n (c - 3 ^ nd_v2 c) && nd_impN T n (c - 2 * 3 ^ nd_v2 c) else T (nd_as c 7)
def nd_imp (T : Nat → Bool) (c : Nat) : Bool := nd_impN T (c + 1) c
theorem nd_v2_dg {c : Nat} (h : nd_v2 c < 7) : nd_dg c (nd_v2 c) = 2 := of_decide_eq_true (nd_fst_yes _ _ h)
theorem nd_impN_eq {T : Nat → Bool} : ∀ n m c, c < n → c < m → nd_impN T n c = nd_impN T m c := by
  intro n
  induction n with
  | zero => intro m c h; omega
  | succ n ih =>
    intro m c h h2
    obtain ⟨m, rfl⟩ : ∃ k, m = k + 1 := ⟨m - 1, by omega⟩
    rw [nd_impN, nd_impN]
    by_cases z : nd_v2 c < 7
    · have h3 := nd_dg2 (nd_v2_dg z)
      have h4 := nd_p3 (nd_v2 c)
      rw [if_pos z, if_pos z, ih m _ (by omega) (by omega), ih m (c - 2 * 3 ^ nd_v2 c) (by omega) (by omega)]
    · rw [if_neg z, if_neg z]
theorem nd_imp_eq (T : Nat → Bool) (c : Nat) : nd_imp T c = if nd_v2 c < 7 then nd_imp T (c - 3 ^ nd_v2 c) && nd_imp T (c - 2 * 3 ^ nd_v2 c) else T (nd_as c 7) := by
  unfold nd_imp
  rw [nd_impN]
  by_cases z : nd_v2 c < 7
  · have h3 := nd_dg2 (nd_v2_dg z)
    have h4 := nd_p3 (nd_v2 c)
    rw [if_pos z, if_pos z, nd_impN_eq c (c - 3 ^ nd_v2 c + 1) _ (by omega) (by omega), nd_impN_eq c (c - 2 * 3 ^ nd_v2 c + 1) (c - 2 * 3 ^ nd_v2 c) (by omega) (by omega)]
  · rw [if_neg z, if_neg z]
/-- the first digit 2 stands at v -/
theorem nd_imp_2 {T : Nat → Bool} {c v : Nat} (hv : v < 7) (h : ∀ u, u < v → nd_dg c u ≠ 2) (h2 : nd_dg c v = 2) : nd_imp T c = (nd_imp T (c - 3 ^ v) && nd_imp T (c - 2 * 3 ^ v)) := by
  have e : nd_v2 c = v := nd_fst_eq (by omega) (fun u hu => decide_eq_false (h u hu)) (fun _ => decide_eq_true h2)
  rw [nd_imp_eq, e, if_pos hv]
theorem nd_imp_0 {T : Nat → Bool} {c : Nat} (h : ∀ u, u < 7 → nd_dg c u ≠ 2) : nd_imp T c = T (nd_as c 7) := by
  have e : nd_v2 c = 7 := nd_fst_eq (Nat.le_refl _) (fun u hu => decide_eq_false (h u hu)) (fun z => absurd z (by omega))
  rw [nd_imp_eq, e, if_neg (by omega)]
theorem nd_imp_congr {T T' : Nat → Bool} (h : ∀ x, x < 128 → T x = T' x) : ∀ n c, nd_impN T n c = nd_impN T' n c := by
  intro n
  induction n with
  | zero => intro c; rfl
  | succ n ih =>
    intro c
    rw [nd_impN, nd_impN, ih, ih]
    by_cases z : nd_v2 c < 7
    · rw [if_pos z, if_pos z]
    · rw [if_neg z, if_neg z]
      refine h _ (nd_as_lt (v := 7) ?_)
      intro u hu
      have := nd_fst_le (fun v => decide (nd_dg c v = 2)) 7
      exact of_decide_eq_false (nd_fst_no (fun v => decide (nd_dg c v = 2)) 7 u (by unfold nd_v2 at z; omega))
/-- prime, by the implicants -/
def nd_pr (I : Nat → Bool) (c : Nat) : Bool := I c && nd_all (fun v => !(decide (nd_dg c v ≠ 2) && I (c + (2 - nd_dg c v) * 3 ^ v))) 7
def nd_q (T : Nat → Bool) (c : Nat) : Bool := nd_pr (nd_imp T) c
def nd_fit (c x : Nat) : Bool := nd_all (fun v => decide (nd_dg c v = 2) || (x.testBit v == decide (nd_dg c v = 1))) 7
def nd_cov (q : Nat → Bool) (x : Nat) : Nat := nd_cnt (fun c => q c && nd_fit c x) 2187
def nd_alone (q : Nat → Bool) (c : Nat) : Bool := nd_any (fun x => decide (nd_cov q x = 1) && nd_fit c x) 128
def nd_ess (q : Nat → Bool) : Nat := nd_cnt (fun c => q c && nd_alone q c) 2187
/-! the list of the prime cubes -/
theorem nd_cnt_s (q : Nat → Bool) (n : Nat) : nd_cnt q (n + 1) = nd_cnt q n + (if q n then 1 else 0) := rfl
theorem nd_cnt_t {q : Nat → Bool} {n : Nat} (h : q n = true) : nd_cnt q (n + 1) = nd_cnt q n + 1 := by rw [nd_cnt_s, h]; rfl
theorem nd_cnt_f {q : Nat → Bool} {n : Nat} (h : q n = false) : nd_cnt q (n + 1) = nd_cnt q n := by rw [nd_cnt_s, h]; rfl
theorem nd_cnt_up (q : Nat → Bool) {m n : Nat} (h : m ≤ n) : nd_cnt q m ≤ nd_cnt q n := by
  induction h with
  | refl => exact Nat.le_refl _
  | step _ ih => exact Nat.le_trans ih (by rw [nd_cnt]; omega)
theorem nd_cnt_at {q : Nat → Bool} {c n : Nat} (h : c < n) (hq : q c = true) : nd_cnt q c < nd_cnt q n := by
  have h1 := nd_cnt_up q (show c + 1 ≤ n from h)
  rw [nd_cnt_t hq] at h1
  omega
def nd_PL (q : Nat → Bool) (n : Nat) (pl : Nat → Nat) : Prop := ∀ c, c < n → q c = true → pl (nd_cnt q c) = c
theorem nd_pl_cnt {q : Nat → Bool} {pl : Nat → Nat} (h : Nat → Bool) : ∀ n, nd_PL q n pl → nd_cnt (fun k => h (pl k)) (nd_cnt q n) = nd_cnt (fun c => q c && h c) n := by
  intro n
  induction n with
  | zero => intro _; rfl
  | succ n ih =>
    intro hP
    have h1 := ih (fun c hc => hP c (by omega))
    cases hq : q n
    · rw [nd_cnt_f hq, h1, nd_cnt_f (q := fun c => q c && h c) (by rw [hq]; rfl)]
    · rw [nd_cnt_t hq, nd_cnt_s, h1, nd_cnt_s, hP n (by omega) hq, hq, Bool.true_and]
theorem nd_kth {q : Nat → Bool} {k : Nat} : ∀ n, k < nd_cnt q n → ∃ c, c < n ∧ q c = true ∧ nd_cnt q c = k := by
  intro n
  induction n with
  | zero => intro h; exact absurd h (Nat.not_lt_zero _)
  | succ n ih =>
    intro h
    rcases Nat.lt_or_ge k (nd_cnt q n) with z | z
    · obtain ⟨c, hc, h1, h2⟩ := ih z
      exact ⟨c, by omega, h1, h2⟩
    · cases hq : q n
      · rw [nd_cnt_f hq] at h; omega
      · rw [nd_cnt_t hq] at h
        exact ⟨n, by omega, hq, by omega⟩
/-! assignments, one variable set or cleared -/
def nd_on (x v : Nat) : Nat := x ||| 2 ^ v
def nd_off (x v : Nat) : Nat := (x ||| 2 ^ v) ^^^ 2 ^ v
def nd_wi (x v : Nat) (b : Bool) : Nat := if b then nd_on x v else nd_off x v
theorem nd_flip : ∀ x, x < 128 → ∀ v, v < 7 → nd_on x v < 128 ∧ nd_off x v < 128 ∧ x ^^^ 2 ^ v < 128 ∧ ((nd_on x v = x ∧ nd_off x v = x ^^^ 2 ^ v) ∨ (nd_on x v = x ^^^ 2 ^ v ∧ nd_off x v = x)) := by decide +kernel
theorem nd_wi_lt {x v : Nat} {b : Bool} (hx : x < 128) (hv : v < 7) : nd_wi x v b < 128 := by
  have h := nd_flip x hx v hv
  unfold nd_wi
  split
  · exact h.1
  · exact h.2.1
theorem nd_rise : ∀ x, x < 128 → ∀ v, v < 7 → x.testBit v = false → x + 2 ^ v = x ||| 2 ^ v ∧ x + 2 ^ v < 128 := by decide +kernel
def nd_sw (x v w : Nat) : Nat := if x.testBit v = x.testBit w then x else x ^^^ 2 ^ v ^^^ 2 ^ w
theorem nd_swap : ∀ v, v < 7 → ∀ w, w < 7 → ∀ x, x < 128 → nd_wi (nd_wi x v (x.testBit w)) w (x.testBit v) = nd_sw x v w ∧ nd_sw x v w < 128 := by decide +kernel
theorem nd_rest : ∀ k, k < 7 → ∀ p, p < 2 ^ k → ∀ r, r < 128 / 2 ^ k → r * 2 ^ k ||| p = r * 2 ^ k + p ∧ r * 2 ^ k + p < 128 ∧ (r ^^^ 1) * 2 ^ k ||| p = (r * 2 ^ k + p) ^^^ 2 ^ k ∧ (r * 2 ^ k + p) ^^^ 2 ^ k < 128 := by decide +kernel
/-! the function that a gate makes -/
def nd_gt (T : Nat → Nat → Bool) (kind a b c x : Nat) : Bool :=
  if kind = 0 then !T a x
  else if kind = 1 then T a x && T b x
  else if kind = 2 then T a x || T b x
  else if kind = 3 then T a x != T b x
  else if kind = 4 then (if T a x then T b x else T c x)
  else if kind = 5 then (if T a x then T b x || T c x else T b x && T c x)
  else if kind = 6 then T a x || T a (x ^^^ 2 ^ b)
  else if kind = 7 then T a x && T a (x ^^^ 2 ^ b)
  else if kind = 8 then T a (nd_wi x b (T c x))
  else T a (nd_wi x b (decide (c = 1)))
/-! questions -/
def nd_dep (T : Nat → Bool) (v : Nat) : Bool := nd_any (fun x => T x != T (x ^^^ 2 ^ v)) 128
def nd_da (T : Nat → Bool) (k p : Nat) : Bool := nd_any (fun r => T (r * 2 ^ k + p) != T ((r * 2 ^ k + p) ^^^ 2 ^ k)) (128 / 2 ^ k)
def nd_ap (T : Nat → Bool) (k p q : Nat) : Bool := nd_all (fun r => T (r * 2 ^ k + p) == T (r * 2 ^ k + q)) (128 / 2 ^ k)
def nd_pt (T : Nat → Bool) (k : Nat) : Nat := nd_cnt (fun p => nd_da T k p && nd_all (fun q => !nd_ap T k p q) p) (2 ^ k)
def nd_dc (T : Nat → Bool) : Nat := nd_sum (nd_pt T) 7
def nd_ri (T : Nat → Bool) (v n : Nat) : Bool := nd_any (fun x => !x.testBit v && (!T x && T (x ||| 2 ^ v))) n
def nd_fa (T : Nat → Bool) (v n : Nat) : Bool := nd_any (fun x => !x.testBit v && (T x && !T (x ||| 2 ^ v))) n
def nd_sh (T : Nat → Bool) (v n : Nat) : Nat := (if nd_ri T v n then 1 else 0) ||| (if nd_fa T v n then 2 else 0)
