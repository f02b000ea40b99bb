/-! the component: its small methods -/
section NDX
variable {xn xr xm xc xl : Int32} {xT xM xN xI xP xC xH xL xD xR xK xF : Nat → Int32}
def nd_T (t : Nat → Int32) (T : Nat → Nat → Bool) (n : Nat) : Prop := ∀ a x, a < n → x < 128 → t (a * 128 + x) = nd_b (T a x)
theorem nd_ix (a x : Nat) : nI a * 128 + nI x = nI (a * 128 + x) := by
  rw [show (128 : Int32) = nI 128 from rfl, pk_mul, nI_add]
theorem nd_ix8 (s i : Nat) : nI s * 8 + nI i = nI (s * 8 + i) := by
  rw [show (8 : Int32) = nI 8 from rfl, pk_mul, nI_add]
theorem nd_b10 {b : Bool} {post : Int32 → Prop} (hp : post (nd_b b)) : (nd_b b = 1 → post 1) ∧ (¬ nd_b b = 1 → post 0) := by
  cases b
  · exact br_f (by decide) hp
  · exact br_t rfl hp
theorem nd_b01 {b : Bool} {post : Int32 → Prop} (hp : post (nd_b b)) : (nd_b b = 0 → post 0) ∧ (¬ nd_b b = 0 → post 1) := by
  cases b
  · exact br_t rfl hp
  · exact br_f (by decide) hp
theorem nd_bq {b c : Bool} {A B : Prop} (f : b = c → A) (g : b ≠ c → B) : (nd_b b = nd_b c → A) ∧ (¬ nd_b b = nd_b c → B) :=
  ⟨fun z => f (nd_bi z), fun z => g (fun e => z (by rw [e]))⟩
theorem xa_bit {m k : Nat} (hm : m < 2 ^ 31) (hk : k < 32) {post : Int32 → Prop} (hp : post (nd_b (m.testBit k))) : wpX_bit post (nI m) (nI k) := by
  unfold wpX_bit
  rw [nd_bit hm hk]
  exact nd_b10 hp
theorem xa_T {T : Nat → Nat → Bool} {n a x : Nat} (hT : nd_T xT T n) (hn : n ≤ 32) (ha : a < n) (hx : x < 128) {post : Int32 → Prop} (hp : post (nd_b (T a x))) : wpX_isTrue post (xn, xr, xm, xc, xl, xT, xM, xN, xI, xP, xC, xH, xL, xD, xR, xK, xF) (nI a) (nI x) := by
  have c : (nI a * 128 + nI x).toNatClampNeg = a * 128 + x := by rw [nd_ix]; exact nI_clamp (by omega)
  have v : xT (nI a * 128 + nI x).toNatClampNeg = nd_b (T a x) := by rw [c]; exact hT a x ha hx
  refine ⟨by rw [nd_ix]; exact vp_in_nI (by omega) (by omega), ?_, ?_⟩
  · rw [v]; exact nd_bn _
  · rw [v]; exact hp
theorem xa_TI {T : Nat → Nat → Bool} {n a s i : Nat} (hT : nd_T xT T n) (hn : n ≤ 32) (ha : a < n) (hs : s < 16) (hi : i < 8) {post : Int32 → Prop} (hp : post (nd_b (T a (s * 8 + i)))) : wpX_isTrueIn post (xn, xr, xm, xc, xl, xT, xM, xN, xI, xP, xC, xH, xL, xD, xR, xK, xF) (nI a) (nI s) (nI i) := by
  have e : nI a * 128 + nI s * 8 + nI i = nI (a * 128 + (s * 8 + i)) := by
    rw [Int32.add_assoc, nd_ix8, nd_ix]
  have c : (nI a * 128 + nI s * 8 + nI i).toNatClampNeg = a * 128 + (s * 8 + i) := by rw [e]; exact nI_clamp (by omega)
  have v : xT (nI a * 128 + nI s * 8 + nI i).toNatClampNeg = nd_b (T a (s * 8 + i)) := by rw [c]; exact hT a _ ha (by omega)
  refine ⟨by rw [e]; exact vp_in_nI (by omega) (by omega), ?_, ?_⟩
  · rw [v]; exact nd_bn _
  · rw [v]; exact hp
theorem xa_cpy {T : Nat → Nat → Bool} {n a k : Nat} (hT : nd_T xT T n) (hn : n ≤ 32) (ha : a < n) (hk : k < 4) {post : SX → Prop}
    (h : ∀ t : Nat → Int32, (∀ x, x < 128 → t (k * 128 + x) = nd_b (T a x)) → (∀ j, j < k * 128 ∨ k * 128 + 128 ≤ j → t j = xN j) → post (xn, xr, xm, xc, xl, xT, xM, t, xI, xP, xC, xH, xL, xD, xR, xK, xF)) :
    wpX_copyToNext post (xn, xr, xm, xc, xl, xT, xM, xN, xI, xP, xC, xH, xL, xD, xR, xK, xF) (nI k) (nI a) := by
  refine loop_0 (fun n i s => wX_copyToNext_2 post (nI k) (nI a) xn xr xm xc xl n (nI i) xT xM s xI xP xC xH xL xD xR xK xF) (fun i s => (∀ x, x < i → s (k * 128 + x) = nd_b (T a x)) ∧ ∀ j, j < k * 128 ∨ k * 128 + i ≤ j → s j = xN j) 128 xN ⟨fun x hx => absurd hx (by omega), fun j _ => rfl⟩ ?_ ?_
  · intro m s hs
    exact br_t (nI_le (a := 128) (b := 128) (by omega) (by omega)) (h s hs.1 hs.2)
  · intro m i s hi hs ih
    refine br_f (nI_ge (a := i) (b := 128) hi (by omega)) (xa_T hT hn ha hi ?_)
    refine ⟨by rw [nd_ix]; exact vp_in_nI (by omega) (by omega), ?_⟩
    refine nm_r (e' := upd s (k * 128 + i) (nd_b (T a i))) (by rw [nd_ix, nI_clamp (by omega), nd_bv]) ?_
    refine nm_r (nI_1 i) ?_
    refine ih _ ⟨?_, ?_⟩
    · intro x hx
      by_cases z : x = i
      · rw [z]; exact pk_us
      · rw [pk_un (by omega)]; exact hs.1 x (by omega)
    · intro j hj
      rw [pk_un (by omega)]; exact hs.2 j (by omega)
/-- an int that is one of 0 .. n - 1 -/
def nd_in (p : Int32) (n : Nat) : Bool := decide (0 ≤ p.toInt ∧ p.toInt < n)
theorem nd_in_iff {p : Int32} {n : Nat} (hn : n < 2 ^ 31) : nd_in p n = true ↔ ∃ j, j < n ∧ p = nI j := by
  unfold nd_in
  rw [decide_eq_true_iff, ← vp_in_iff]
  constructor
  · intro h; exact vp_in_of h hn
  · rintro ⟨j, hj, rfl⟩; exact vp_in_nI hj hn
theorem nd_in_nI {j n : Nat} (hj : j < n) (hn : n < 2 ^ 31) : nd_in (nI j) n = true := (nd_in_iff hn).mpr ⟨j, hj, rfl⟩
theorem nd_in_f {p : Int32} {n : Nat} (hn : n < 2 ^ 31) (h : p < 0 ∨ nI n ≤ p) : nd_in p n = false := by
  cases z : nd_in p n
  · rfl
  · obtain ⟨j, hj, rfl⟩ := (nd_in_iff hn).mp z
    rcases h with h | h
    · exact absurd h (nI_pos (by omega))
    · exact absurd h (nI_ge hj hn)
/-- the shape of isNet, isVariable, isState, among -/
theorem nd_rng {p q : Int32} {n : Nat} (hq : q = nI n) (hn : n < 2 ^ 31) {post : Int32 → Prop} (hp : post (nd_b (nd_in p n))) :
    (p < 0 → post 0) ∧ (¬ p < 0 → ((q ≤ p → post 0) ∧ (¬ q ≤ p → post 1))) := by
  subst hq
  rcases pk_ix p hn with h | h | ⟨j, hj, rfl⟩
  · rw [nd_in_f hn (Or.inl h)] at hp
    exact br_t h hp
  · rw [nd_in_f hn (Or.inr h)] at hp
    have h0 : ¬ p < 0 := by
      intro z
      have := Int32.lt_of_lt_of_le z (nI_pos' (n := n) hn)
      exact absurd (Int32.lt_of_lt_of_le this h) Int32.lt_irrefl
    exact br_f h0 (br_t h hp)
  · rw [nd_in_nI hj hn] at hp
    exact br_f (nI_pos (by omega)) (br_f (nI_ge hj hn) hp)
theorem xa_net {n : Nat} {p : Int32} (hn : n ≤ 32) {post : Int32 → Prop} (hp : post (nd_b (nd_in p n))) : wpX_isNet post (nI n, xr, xm, xc, xl, xT, xM, xN, xI, xP, xC, xH, xL, xD, xR, xK, xF) p :=
  nd_rng rfl (by omega) hp
theorem xa_var {p : Int32} {post : Int32 → Prop} (hp : post (nd_b (nd_in p 7))) : wpX_isVariable post p :=
  nd_rng (n := 7) rfl (by omega) hp
theorem xa_sta {p : Int32} {post : Int32 → Prop} (hp : post (nd_b (nd_in p 16))) : wpX_isState post p :=
  nd_rng (n := 16) rfl (by omega) hp
end NDX
