/-! booleans as ints, searches, counts, masks: pure -/
def nd_b (b : Bool) : Int32 := if b then 1 else 0
theorem nd_b0 (b : Bool) : nd_b b = 0 ↔ b = false := by cases b <;> decide
theorem nd_b1 (b : Bool) : nd_b b = 1 ↔ b = true := by cases b <;> decide
theorem nd_bn (b : Bool) : narrow .boolean (.int (nd_b b)) = .int (nd_b b) := by cases b <;> rfl
theorem nd_bv (b : Bool) : vp_nar .boolean (nd_b b) = nd_b b := by cases b <;> decide
theorem nd_bi {b c : Bool} (h : nd_b b = nd_b c) : b = c := by revert h; cases b <;> cases c <;> decide
theorem nd_bx {b : Bool} {c : Prop} (h : b = true ↔ c) {A B : Prop} (f : b = true → A) (g : b = false → B) : (c → A) ∧ (¬ c → B) :=
  ⟨fun z => f (h.mpr z), fun z => g (by cases hb : b with | false => rfl | true => exact absurd (h.mp hb) z)⟩
/-- a branch on an int that is a boolean -/
theorem nd_br {b : Bool} {A B : Prop} (f : b = false → A) (g : b = true → B) : (nd_b b = 0 → A) ∧ (¬ nd_b b = 0 → B) := by
  cases b
  · exact br_t rfl (f rfl)
  · exact br_f (by decide) (g rfl)
def nd_all (p : Nat → Bool) : Nat → Bool
  | 0 => true
  | n + 1 => nd_all p n && p n
def nd_any (p : Nat → Bool) : Nat → Bool
  | 0 => false
  | n + 1 => nd_any p n || p n
def nd_cnt (p : Nat → Bool) : Nat → Nat
  | 0 => 0
  | n + 1 => nd_cnt p n + (if p n then 1 else 0)
def nd_sum (h : Nat → Nat) : Nat → Nat
  | 0 => 0
  | n + 1 => nd_sum h n + h n
def nd_m (p : Nat → Bool) : Nat → Nat
  | 0 => 0
  | n + 1 => nd_m p n ||| (if p n then 2 ^ n else 0)
def nd_fst (p : Nat → Bool) : Nat → Nat
  | 0 => 0
  | n + 1 => if nd_fst p n < n then nd_fst p n else if p n then n else n + 1
theorem nd_all_iff {p : Nat → Bool} {n : Nat} : nd_all p n = true ↔ ∀ i, i < n → p i = true := by
  induction n with
  | zero => exact ⟨fun _ i hi => absurd hi (Nat.not_lt_zero i), fun _ => rfl⟩
  | succ n ih =>
    rw [nd_all, Bool.and_eq_true, ih]
    constructor
    · rintro ⟨h, h2⟩ i hi
      rcases Nat.lt_or_ge i n with h3 | h3
      · exact h i h3
      · have : i = n := by omega
        rw [this]; exact h2
    · intro h
      exact ⟨fun i hi => h i (by omega), h n (by omega)⟩
theorem nd_any_iff {p : Nat → Bool} {n : Nat} : nd_any p n = true ↔ ∃ i, i < n ∧ p i = true := by
  induction n with
  | zero => exact ⟨fun h => absurd (show false = true from h) (by decide), fun ⟨i, hi, _⟩ => absurd hi (Nat.not_lt_zero i)⟩
  | succ n ih =>
    rw [nd_any, Bool.or_eq_true, ih]
    constructor
    · rintro (⟨i, hi, h⟩ | h)
      · exact ⟨i, by omega, h⟩
      · exact ⟨n, by omega, h⟩
    · rintro ⟨i, hi, h⟩
      rcases Nat.lt_or_ge i n with h3 | h3
      · exact Or.inl ⟨i, h3, h⟩
      · have : i = n := by omega
        rw [this] at h; exact Or.inr h
theorem nd_all_congr {p q : Nat → Bool} {n : Nat} (h : ∀ i, i < n → p i = q i) : nd_all p n = nd_all q n := by
  induction n with
  | zero => rfl
  | succ n ih => rw [nd_all, nd_all, ih (fun i hi => h i (by omega)), h n (by omega)]
theorem nd_any_congr {p q : Nat → Bool} {n : Nat} (h : ∀ i, i < n → p i = q i) : nd_any p n = nd_any q n := by
  induction n with
  | zero => rfl
  | succ n ih => rw [nd_any, nd_any, ih (fun i hi => h i (by omega)), h n (by omega)]
theorem nd_cnt_congr {p q : Nat → Bool} {n : Nat} (h : ∀ i, i < n → p i = q i) : nd_cnt p n = nd_cnt q n := by
  induction n with
  | zero => rfl
  | succ n ih => rw [nd_cnt, nd_cnt, ih (fun i hi => h i (by omega)), h n (by omega)]
theorem nd_sum_congr {p q : Nat → Nat} {n : Nat} (h : ∀ i, i < n → p i = q i) : nd_sum p n = nd_sum q n := by
  induction n with
  | zero => rfl
  | succ n ih => rw [nd_sum, nd_sum, ih (fun i hi => h i (by omega)), h n (by omega)]
theorem nd_m_congr {p q : Nat → Bool} {n : Nat} (h : ∀ i, i < n → p i = q i) : nd_m p n = nd_m q n := by
  induction n with
  | zero => rfl
  | succ n ih => rw [nd_m, nd_m, ih (fun i hi => h i (by omega)), h n (by omega)]
theorem nd_all_f {p : Nat → Bool} {n : Nat} {i : Nat} (hi : i < n) (h : p i = false) : nd_all p n = false := by
  cases z : nd_all p n with
  | false => rfl
  | true => rw [nd_all_iff.mp z i hi] at h; cases h
theorem nd_any_f {p : Nat → Bool} {n : Nat} (h : ∀ i, i < n → p i = false) : nd_any p n = false := by
  cases z : nd_any p n with
  | false => rfl
  | true =>
    obtain ⟨i, hi, e⟩ := nd_any_iff.mp z
    rw [h i hi] at e; cases e
theorem nd_all_not {p : Nat → Bool} {n : Nat} : nd_all (fun i => !p i) n = !nd_any p n := by
  induction n with
  | zero => rfl
  | succ n ih => rw [nd_all, nd_any, ih, Bool.not_or]
/-! counts -/
theorem nd_cnt_le (p : Nat → Bool) (n : Nat) : nd_cnt p n ≤ n := by
  induction n with
  | zero => exact Nat.le_refl 0
  | succ n ih =>
    rw [nd_cnt]
    split <;> omega
theorem nd_cnt_mono {p q : Nat → Bool} {n : Nat} (h : ∀ i, i < n → p i = true → q i = true) : nd_cnt p n ≤ nd_cnt q n := by
  induction n with
  | zero => exact Nat.le_refl 0
  | succ n ih =>
    have h1 := ih (fun i hi => h i (by omega))
    have h2 := h n (by omega)
    rw [nd_cnt, nd_cnt]
    cases hp : p n
    · simp only [Bool.false_eq_true, if_false]; omega
    · rw [h2 hp]; omega
theorem nd_cnt_strict {p q : Nat → Bool} {n : Nat} (h : ∀ i, i < n → p i = true → q i = true) {s : Nat} (hs : s < n) (hp : p s = false) (hq : q s = true) : nd_cnt p n < nd_cnt q n := by
  induction n with
  | zero => exact absurd hs (Nat.not_lt_zero s)
  | succ n ih =>
    rw [nd_cnt, nd_cnt]
    rcases Nat.lt_or_ge s n with h3 | h3
    · have h1 := ih (fun i hi => h i (by omega)) h3
      have h2 := h n (by omega)
      cases hp : p n
      · simp only [Bool.false_eq_true, if_false]; omega
      · rw [h2 hp]; omega
    · have e : s = n := by omega
      rw [e] at hp hq
      have h1 : nd_cnt p n ≤ nd_cnt q n := nd_cnt_mono (fun i hi => h i (by omega))
      rw [hp, hq]
      simp only [Bool.false_eq_true, if_false, if_true]
      omega
theorem nd_cnt_pos {p : Nat → Bool} {n s : Nat} (hs : s < n) (hp : p s = true) : 1 ≤ nd_cnt p n := by
  have h := nd_cnt_strict (p := fun _ => false) (q := p) (n := n) (fun i _ z => by cases z) hs rfl hp
  omega
/-! the first index -/
theorem nd_fst_le (p : Nat → Bool) (n : Nat) : nd_fst p n ≤ n := by
  induction n with
  | zero => exact Nat.le_refl 0
  | succ n ih =>
    rw [nd_fst]
    split
    · omega
    · split <;> omega
theorem nd_fst_no (p : Nat → Bool) (n : Nat) : ∀ i, i < nd_fst p n → p i = false := by
  induction n with
  | zero => intro i hi; exact absurd hi (Nat.not_lt_zero i)
  | succ n ih =>
    intro i hi
    rw [nd_fst] at hi
    have hle := nd_fst_le p n
    split at hi
    · exact ih i hi
    · split at hi
      · exact ih i (by omega)
      · rename_i h1 h2
        rcases Nat.lt_or_ge i n with h3 | h3
        · exact ih i (by omega)
        · have e : i = n := by omega
          rw [e]
          cases z : p n
          · rfl
          · exact absurd z h2
theorem nd_fst_yes (p : Nat → Bool) (n : Nat) : nd_fst p n < n → p (nd_fst p n) = true := by
  induction n with
  | zero => intro h; exact absurd h (Nat.not_lt_zero _)
  | succ n ih =>
    rw [nd_fst]
    split
    · rename_i h1
      intro _
      exact ih h1
    · split
      · rename_i h2
        intro _
        exact h2
      · intro h
        exact absurd h (Nat.lt_irrefl _)
theorem nd_fst_eq {p : Nat → Bool} {n x : Nat} (h1 : x ≤ n) (h2 : ∀ i, i < x → p i = false) (h3 : x < n → p x = true) : nd_fst p n = x := by
  rcases Nat.lt_trichotomy (nd_fst p n) x with h | h | h
  · have z := nd_fst_yes p n (by omega)
    rw [h2 _ h] at z; cases z
  · exact h
  · have z := nd_fst_no p n x h
    have := nd_fst_le p n
    rw [h3 (by omega)] at z; cases z
theorem nd_fst_congr {p q : Nat → Bool} {n : Nat} (h : ∀ i, i < n → p i = q i) : nd_fst p n = nd_fst q n := by
  induction n with
  | zero => rfl
  | succ n ih => rw [nd_fst, nd_fst, ih (fun i hi => h i (by omega)), h n (by omega)]
theorem nd_fst_lt {p : Nat → Bool} {n i : Nat} (hi : i < n) (h : p i = true) : nd_fst p n ≤ i := by
  rcases Nat.lt_or_ge i (nd_fst p n) with z | z
  · have := nd_fst_no p n i z
    rw [h] at this; cases this
  · exact z
/-! masks -/
theorem nd_m_bit (p : Nat → Bool) (n s : Nat) : (nd_m p n).testBit s = (decide (s < n) && p s) := by
  induction n with
  | zero => simp [nd_m]
  | succ n ih =>
    rw [nd_m, Nat.testBit_or, ih]
    rcases Nat.lt_trichotomy s n with h | h | h
    · have e : (if p n = true then 2 ^ n else 0).testBit s = false := by
        split
        · rw [Nat.testBit_two_pow]; exact decide_eq_false (by omega)
        · exact Nat.zero_testBit s
      rw [e, decide_eq_true h, decide_eq_true (by omega : s < n + 1), Bool.or_false]
    · subst h
      rw [decide_eq_false (Nat.lt_irrefl s), decide_eq_true (by omega : s < s + 1), Bool.false_and, Bool.false_or, Bool.true_and]
      cases hp : p s
      · exact Nat.zero_testBit s
      · exact (Nat.testBit_two_pow).trans (decide_eq_true rfl)
    · have e : (if p n = true then 2 ^ n else 0).testBit s = false := by
        split
        · rw [Nat.testBit_two_pow]; exact decide_eq_false (by omega)
        · exact Nat.zero_testBit s
      rw [e, decide_eq_false (by omega : ¬ s < n), decide_eq_false (by omega : ¬ s < n + 1), Bool.or_false, Bool.false_and]
theorem nd_m_lt (p : Nat → Bool) (n : Nat) : nd_m p n < 2 ^ n := by
  induction n with
  | zero => exact Nat.one_pos
  | succ n ih =>
    rw [nd_m]
    have h2 : 2 ^ n < 2 ^ (n + 1) := Nat.pow_lt_pow_right (by decide) (by omega)
    refine Nat.or_lt_two_pow (by omega) ?_
    split
    · exact h2
    · exact Nat.two_pow_pos _
theorem nd_m16 (p : Nat → Bool) : nd_m p 16 < 65536 := nd_m_lt p 16
theorem nd_m_or (p q : Nat → Bool) (n : Nat) : nd_m p n ||| nd_m q n = nd_m (fun s => p s || q s) n := by
  apply Nat.eq_of_testBit_eq
  intro i
  rw [Nat.testBit_or, nd_m_bit, nd_m_bit, nd_m_bit]
  cases decide (i < n) <;> cases p i <;> cases q i <;> rfl
theorem nd_m_and (p q : Nat → Bool) (n : Nat) : nd_m p n &&& nd_m q n = nd_m (fun s => p s && q s) n := by
  apply Nat.eq_of_testBit_eq
  intro i
  rw [Nat.testBit_and, nd_m_bit, nd_m_bit, nd_m_bit]
  cases decide (i < n) <;> cases p i <;> cases q i <;> rfl
theorem nd_m_inj {p q : Nat → Bool} {n : Nat} (h : nd_m p n = nd_m q n) : ∀ s, s < n → p s = q s := by
  intro s hs
  have e : (nd_m p n).testBit s = (nd_m q n).testBit s := by rw [h]
  rw [nd_m_bit, nd_m_bit, decide_eq_true hs, Bool.true_and, Bool.true_and] at e
  exact e
theorem nd_m_zero {p : Nat → Bool} {n : Nat} : nd_m p n = 0 ↔ ∀ s, s < n → p s = false := by
  constructor
  · intro h s hs
    have e : (nd_m p n).testBit s = false := by rw [h]; exact Nat.zero_testBit s
    rw [nd_m_bit, decide_eq_true hs, Bool.true_and] at e
    exact e
  · intro h
    apply Nat.eq_of_testBit_eq
    intro i
    rw [nd_m_bit, Nat.zero_testBit]
    rcases Nat.lt_or_ge i n with z | z
    · rw [h i z, Bool.and_false]
    · rw [decide_eq_false (by omega), Bool.false_and]
theorem nd_m_all : nd_m (fun _ => true) 16 = 65535 := by decide
/-! ints -/
theorem nd_or (a b : Nat) : nI a ||| nI b = nI (a ||| b) := by
  apply Int32.toBitVec_inj.1
  show BitVec.ofNat 32 a ||| BitVec.ofNat 32 b = BitVec.ofNat 32 (a ||| b)
  apply BitVec.eq_of_getLsbD_eq
  intro i hi
  simp [hi]
theorem nd_bit {m k : Nat} (hm : m < 2 ^ 31) (hk : k < 32) : (nI m >>> (nI k &&& 31)) &&& 1 = nd_b (m.testBit k) := by
  rw [pk_shrN hm _ k (s_l k hk), pk_andN (Nat.lt_of_le_of_lt (Nat.div_le_self _ _) (by omega)) 1 (by decide), Nat.testBit_eq_decide_div_mod_eq]
  generalize m / 2 ^ k = z
  rcases Nat.mod_two_eq_zero_or_one z with h | h <;> rw [show z % 2 ^ 1 = z % 2 from rfl, h] <;> rfl
theorem nd_shl : ∀ k, k < 31 → (1 : Int32) <<< (nI k &&& 31) = nI (2 ^ k) := by decide +kernel
theorem nd_m1 {n : Nat} (h : n < 2 ^ 31) : ¬ nI n = -1 := by
  intro e
  have z := nI_pos (n := n) h
  rw [e] at z
  exact z (by decide)
