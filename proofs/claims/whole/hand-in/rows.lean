section
/-! rows pasted from kit/rows -/
theorem pk_us {f : Nat → Int32} {k : Nat} {x : Int32} : upd f k x k = x := if_pos rfl
theorem pk_un {f : Nat → Int32} {k j : Nat} {x : Int32} (h : j ≠ k) : upd f k x j = f j := if_neg h
theorem pk_uLs {f : Nat → Int64} {k : Nat} {x : Int64} : vp_updL f k x k = x := if_pos rfl
theorem pk_uLn {f : Nat → Int64} {k j : Nat} {x : Int64} (h : j ≠ k) : vp_updL f k x j = f j := if_neg h
theorem pk_sub {a b : Nat} (h : b ≤ a) : nI a - nI b = nI (a - b) := by
  obtain ⟨c, rfl⟩ : ∃ c, a = c + b := ⟨a - b, by omega⟩
  rw [← nI_add, Int32.add_sub_cancel, Nat.add_sub_cancel]
theorem pk_m1 (n : Nat) : nI (n + 1) + (-1) = nI n := by
  rw [← nI_1, Int32.add_assoc, show (1 : Int32) + (-1) = 0 from rfl, Int32.add_zero]
theorem pk_mul (a b : Nat) : nI a * nI b = nI (a * b) := (Int32.ofNat_mul a b).symm
theorem pk_div {a d : Nat} (ha : a < 2 ^ 31) (h0 : 0 < d) (hd : d < 2 ^ 31) : nI a / nI d = nI (a / d) := by
  apply Int32.toInt_inj.mp
  rw [lg_idiv_nonneg (by rw [nI_toInt ha]; omega) (by rw [nI_toInt hd]; omega), nI_toInt ha, nI_toInt hd, nI_toInt (Nat.lt_of_le_of_lt (Nat.div_le_self a d) ha)]
  first | rfl | exact (Int.natCast_ediv _ _).symm
theorem pk_rem {a d : Nat} (ha : a < 2 ^ 31) (h0 : 0 < d) (hd : d < 2 ^ 31) : nI a - nI a / nI d * nI d = nI (a % d) := by
  rw [pk_div ha h0 hd, pk_mul, pk_sub (Nat.div_mul_le_self a d)]
  exact congrArg nI (by have := Nat.div_add_mod' a d; omega)
theorem pk_ix (x : Int32) {n : Nat} (hn : n < 2 ^ 31) : x < 0 ∨ nI n ≤ x ∨ ∃ j : Nat, j < n ∧ x = nI j := by
  by_cases h : x < 0
  · exact Or.inl h
  · obtain ⟨j, hj, rfl⟩ := nI_of h
    by_cases h2 : j < n
    · exact Or.inr (Or.inr ⟨j, h2, rfl⟩)
    · exact Or.inr (Or.inl (nI_le (by omega) hj))
theorem pk_le {x y : Int32} {A B : Prop} (a b : Nat) (f : a ≤ b → A) (g : b < a → B) (hx : x = nI a := by rfl) (hy : y = nI b := by rfl) (ha : a < 2 ^ 31 := by omega) (hb : b < 2 ^ 31 := by omega) : (x ≤ y → A) ∧ (¬ x ≤ y → B) := by
  subst hx hy
  rw [nI_leI ha hb]
  exact ⟨f, fun z => g (by omega)⟩
theorem pk_lt {x y : Int32} {A B : Prop} (a b : Nat) (f : a < b → A) (g : b ≤ a → B) (hx : x = nI a := by rfl) (hy : y = nI b := by rfl) (ha : a < 2 ^ 31 := by omega) (hb : b < 2 ^ 31 := by omega) : (x < y → A) ∧ (¬ x < y → B) := by
  subst hx hy
  rw [nI_ltI ha hb]
  exact ⟨f, fun z => g (by omega)⟩
theorem pk_eq {x y : Int32} {A B : Prop} (a b : Nat) (f : a = b → A) (g : a ≠ b → B) (hx : x = nI a := by rfl) (hy : y = nI b := by rfl) (ha : a < 2 ^ 31 := by omega) (hb : b < 2 ^ 31 := by omega) : (x = y → A) ∧ (¬ x = y → B) := by
  subst hx hy
  rw [nI_eq ha hb]
  exact ⟨f, g⟩
theorem pk_in {x : Int32} (n N : Nat) (h : n < N) (hx : x = nI n := by rfl) (hN : N < 2 ^ 31 := by omega) : vp_in x N := by
  subst hx
  exact vp_in_nI h hN
theorem pk_cl {x : Int32} (n : Nat) (hx : x = nI n := by rfl) (h : n < 2 ^ 31 := by omega) : x.toNatClampNeg = n := by
  subst hx
  exact nI_clamp h
theorem pk_tn {n : Nat} (h : n < 2 ^ 32) : (nI n).toBitVec.toNat = n := Nat.mod_eq_of_lt h
theorem pk_and (x : Int32) {m : Int32} (k : Nat) (hm : m.toBitVec.toNat = 2 ^ k - 1) : x &&& m = nI (x.toBitVec.toNat % 2 ^ k) := by
  apply Int32.toBitVec_inj.mp
  apply BitVec.eq_of_toNat_eq
  rw [Int32.toBitVec_and, BitVec.toNat_and, hm, Nat.and_two_pow_sub_one_eq_mod]
  show _ = (BitVec.ofNat 32 _).toNat
  rw [BitVec.toNat_ofNat]
  exact (Nat.mod_eq_of_lt (Nat.lt_of_le_of_lt (Nat.mod_le _ _) x.toBitVec.isLt)).symm
theorem pk_andN {n : Nat} (h : n < 2 ^ 32) {m : Int32} (k : Nat) (hm : m.toBitVec.toNat = 2 ^ k - 1) : nI n &&& m = nI (n % 2 ^ k) := by
  rw [pk_and _ k hm, pk_tn h]
theorem pk_shl (a s : Int32) (k : Nat) (hs : (s.toBitVec.smod 32).toNat = k) : (a <<< s).toBitVec.toNat = a.toBitVec.toNat * 2 ^ k % 2 ^ 32 := by
  show (a.toBitVec <<< (s.toBitVec.smod 32).toNat).toNat = _
  rw [hs, BitVec.toNat_shiftLeft, Nat.shiftLeft_eq]
theorem pk_shlN {n : Nat} (s : Int32) (k : Nat) (hs : (s.toBitVec.smod 32).toNat = k) (h : n * 2 ^ k < 2 ^ 32) : nI n <<< s = nI (n * 2 ^ k) := by
  apply Int32.toBitVec_inj.mp
  apply BitVec.eq_of_toNat_eq
  have hn : n < 2 ^ 32 := Nat.lt_of_le_of_lt (Nat.le_mul_of_pos_right n (Nat.two_pow_pos k)) h
  rw [pk_shl _ _ k hs, pk_tn hn, pk_tn h, Nat.mod_eq_of_lt h]
theorem pk_shr (a s : Int32) (k : Nat) (hs : (s.toBitVec.smod 32).toNat = k) : (a >>> s).toInt = a.toInt >>> k := by
  show (a.toBitVec.sshiftRight (s.toBitVec.smod 32).toNat).toInt = _
  rw [hs, BitVec.toInt_sshiftRight]
  rfl
theorem pk_shrN {n : Nat} (h : n < 2 ^ 31) (s : Int32) (k : Nat) (hs : (s.toBitVec.smod 32).toNat = k) : nI n >>> s = nI (n / 2 ^ k) := by
  apply Int32.toInt_inj.mp
  have h2 : n / 2 ^ k ≤ n := Nat.div_le_self _ _
  rw [pk_shr _ _ k hs, nI_toInt h, nI_toInt (by omega), Int.shiftRight_eq_div_pow]
  rfl
theorem s_l : ∀ n, n < 32 → ((nI n &&& 31).toBitVec.smod 32).toNat = n := by decide +kernel
theorem nx_and (a b : Nat) : nI a &&& nI b = nI (a &&& b) := by
  apply Int32.toBitVec_inj.1
  show BitVec.ofNat 32 a &&& BitVec.ofNat 32 b = BitVec.ofNat 32 (a &&& b)
  apply BitVec.eq_of_getLsbD_eq
  intro i hi
  simp [hi]
theorem nx_xor (a b : Nat) : nI a ^^^ nI b = nI (a ^^^ b) := by
  apply Int32.toBitVec_inj.1
  show BitVec.ofNat 32 a ^^^ BitVec.ofNat 32 b = BitVec.ofNat 32 (a ^^^ b)
  apply BitVec.eq_of_getLsbD_eq
  intro i hi
  simp [hi]
theorem wb_c : ∀ k, k < 64 → ((nI k).toInt64 &&& 63) = lN k := by decide +kernel
theorem wb_sm : ∀ k, k < 64 → (BitVec.ofNat 64 k).smod 64 = BitVec.ofNat 64 k := by decide +kernel
theorem pk_loop {σ : Type} (W : Nat → Nat → σ → Prop) (I : Nat → σ → Prop) (e i0 : Nat) (s : σ) (hi : i0 ≤ e) (h0 : I i0 s) (hx : ∀ n s, I e s → W (n + 1) e s)
    (hs : ∀ n i s, i < e → I i s → (∀ s', I (i + 1) s' → W n (i + 1) s') → W (n + 1) i s) : ∃ n, W n i0 s :=
  ⟨e + 1, loop_i W I e hx hs (e + 1) i0 s hi (by omega) h0⟩
end
section
/-! booleans as ints, searches, counts, masks: pure -/
def nd_b (b : Bool) : Int32 := if b then 1 else 0
theorem nd_b0 (b : Bool) : nd_b b = 0 ↔ b = false := by cases b <;> decide
theorem nd_b1 (b : Bool) : nd_b b = 1 ↔ b = true := by cases b <;> decide
theorem nd_bn (b : Bool) : narrow .boolean (.int (nd_b b)) = .int (nd_b b) := by cases b <;> rfl
theorem nd_bv (b : Bool) : vp_nar .boolean (nd_b b) = nd_b b := by cases b <;> decide
theorem nd_bi {b c : Bool} (h : nd_b b = nd_b c) : b = c := by revert h; cases b <;> cases c <;> decide
theorem nd_bx {b : Bool} {c : Prop} (h : b = true ↔ c) {A B : Prop} (f : b = true → A) (g : b = false → B) : (c → A) ∧ (¬ c → B) :=
  ⟨fun z => f (h.mpr z), fun z => g (by cases hb : b with | false => rfl | true => exact absurd (h.mp hb) z)⟩
/-- a branch on an int that is a boolean -/
theorem nd_br {b : Bool} {A B : Prop} (f : b = false → A) (g : b = true → B) : (nd_b b = 0 → A) ∧ (¬ nd_b b = 0 → B) := by
  cases b
  · exact br_t rfl (f rfl)
  · exact br_f (by decide) (g rfl)
def nd_all (p : Nat → Bool) : Nat → Bool
  | 0 => true
  | n + 1 => nd_all p n && p n
def nd_any (p : Nat → Bool) : Nat → Bool
  | 0 => false
  | n + 1 => nd_any p n || p n
def nd_cnt (p : Nat → Bool) : Nat → Nat
  | 0 => 0
  | n + 1 => nd_cnt p n + (if p n then 1 else 0)
def nd_sum (h : Nat → Nat) : Nat → Nat
  | 0 => 0
  | n + 1 => nd_sum h n + h n
def nd_m (p : Nat → Bool) : Nat → Nat
  | 0 => 0
  | n + 1 => nd_m p n ||| (if p n then 2 ^ n else 0)
def nd_fst (p : Nat → Bool) : Nat → Nat
  | 0 => 0
  | n + 1 => if nd_fst p n < n then nd_fst p n else if p n then n else n + 1
theorem nd_all_iff {p : Nat → Bool} {n : Nat} : nd_all p n = true ↔ ∀ i, i < n → p i = true := by
  induction n with
  | zero => exact ⟨fun _ i hi => absurd hi (Nat.not_lt_zero i), fun _ => rfl⟩
  | succ n ih =>
    rw [nd_all, Bool.and_eq_true, ih]
    constructor
    · rintro ⟨h, h2⟩ i hi
      rcases Nat.lt_or_ge i n with h3 | h3
      · exact h i h3
      · have : i = n := by omega
        rw [this]; exact h2
    · intro h
      exact ⟨fun i hi => h i (by omega), h n (by omega)⟩
theorem nd_any_iff {p : Nat → Bool} {n : Nat} : nd_any p n = true ↔ ∃ i, i < n ∧ p i = true := by
  induction n with
  | zero => exact ⟨fun h => absurd (show false = true from h) (by decide), fun ⟨i, hi, _⟩ => absurd hi (Nat.not_lt_zero i)⟩
  | succ n ih =>
    rw [nd_any, Bool.or_eq_true, ih]
    constructor
    · rintro (⟨i, hi, h⟩ | h)
      · exact ⟨i, by omega, h⟩
      · exact ⟨n, by omega, h⟩
    · rintro ⟨i, hi, h⟩
      rcases Nat.lt_or_ge i n with h3 | h3
      · exact Or.inl ⟨i, h3, h⟩
      · have : i = n := by omega
        rw [this] at h; exact Or.inr h
theorem nd_all_congr {p q : Nat → Bool} {n : Nat} (h : ∀ i, i < n → p i = q i) : nd_all p n = nd_all q n := by
  induction n with
  | zero => rfl
  | succ n ih => rw [nd_all, nd_all, ih (fun i hi => h i (by omega)), h n (by omega)]
theorem nd_any_congr {p q : Nat → Bool} {n : Nat} (h : ∀ i, i < n → p i = q i) : nd_any p n = nd_any q n := by
  induction n with
  | zero => rfl
  | succ n ih => rw [nd_any, nd_any, ih (fun i hi => h i (by omega)), h n (by omega)]
theorem nd_cnt_congr {p q : Nat → Bool} {n : Nat} (h : ∀ i, i < n → p i = q i) : nd_cnt p n = nd_cnt q n := by
  induction n with
  | zero => rfl
  | succ n ih => rw [nd_cnt, nd_cnt, ih (fun i hi => h i (by omega)), h n (by omega)]
theorem nd_sum_congr {p q : Nat → Nat} {n : Nat} (h : ∀ i, i < n → p i = q i) : nd_sum p n = nd_sum q n := by
  induction n with
  | zero => rfl
  | succ n ih => rw [nd_sum, nd_sum, ih (fun i hi => h i (by omega)), h n (by omega)]
theorem nd_m_congr {p q : Nat → Bool} {n : Nat} (h : ∀ i, i < n → p i = q i) : nd_m p n = nd_m q n := by
  induction n with
  | zero => rfl
  | succ n ih => rw [nd_m, nd_m, ih (fun i hi => h i (by omega)), h n (by omega)]
theorem nd_all_f {p : Nat → Bool} {n : Nat} {i : Nat} (hi : i < n) (h : p i = false) : nd_all p n = false := by
  cases z : nd_all p n with
  | false => rfl
  | true => rw [nd_all_iff.mp z i hi] at h; cases h
theorem nd_any_f {p : Nat → Bool} {n : Nat} (h : ∀ i, i < n → p i = false) : nd_any p n = false := by
  cases z : nd_any p n with
  | false => rfl
  | true =>
    obtain ⟨i, hi, e⟩ := nd_any_iff.mp z
    rw [h i hi] at e; cases e
theorem nd_all_not {p : Nat → Bool} {n : Nat} : nd_all (fun i => !p i) n = !nd_any p n := by
  induction n with
  | zero => rfl
  | succ n ih => rw [nd_all, nd_any, ih, Bool.not_or]
/-! counts -/
theorem nd_cnt_le (p : Nat → Bool) (n : Nat) : nd_cnt p n ≤ n := by
  induction n with
  | zero => exact Nat.le_refl 0
  | succ n ih =>
    rw [nd_cnt]
    split <;> omega
theorem nd_cnt_mono {p q : Nat → Bool} {n : Nat} (h : ∀ i, i < n → p i = true → q i = true) : nd_cnt p n ≤ nd_cnt q n := by
  induction n with
  | zero => exact Nat.le_refl 0
  | succ n ih =>
    have h1 := ih (fun i hi => h i (by omega))
    have h2 := h n (by omega)
    rw [nd_cnt, nd_cnt]
    cases hp : p n
    · simp only [Bool.false_eq_true, if_false]; omega
    · rw [h2 hp]; omega
theorem nd_cnt_strict {p q : Nat → Bool} {n : Nat} (h : ∀ i, i < n → p i = true → q i = true) {s : Nat} (hs : s < n) (hp : p s = false) (hq : q s = true) : nd_cnt p n < nd_cnt q n := by
  induction n with
  | zero => exact absurd hs (Nat.not_lt_zero s)
  | succ n ih =>
    rw [nd_cnt, nd_cnt]
    rcases Nat.lt_or_ge s n with h3 | h3
    · have h1 := ih (fun i hi => h i (by omega)) h3
      have h2 := h n (by omega)
      cases hp : p n
      · simp only [Bool.false_eq_true, if_false]; omega
      · rw [h2 hp]; omega
    · have e : s = n := by omega
      rw [e] at hp hq
      have h1 : nd_cnt p n ≤ nd_cnt q n := nd_cnt_mono (fun i hi => h i (by omega))
      rw [hp, hq]
      simp only [Bool.false_eq_true, if_false, if_true]
      omega
theorem nd_cnt_pos {p : Nat → Bool} {n s : Nat} (hs : s < n) (hp : p s = true) : 1 ≤ nd_cnt p n := by
  have h := nd_cnt_strict (p := fun _ => false) (q := p) (n := n) (fun i _ z => by cases z) hs rfl hp
  omega
/-! the first index -/
theorem nd_fst_le (p : Nat → Bool) (n : Nat) : nd_fst p n ≤ n := by
  induction n with
  | zero => exact Nat.le_refl 0
  | succ n ih =>
    rw [nd_fst]
    split
    · omega
    · split <;> omega
theorem nd_fst_no (p : Nat → Bool) (n : Nat) : ∀ i, i < nd_fst p n → p i = false := by
  induction n with
  | zero => intro i hi; exact absurd hi (Nat.not_lt_zero i)
  | succ n ih =>
    intro i hi
    rw [nd_fst] at hi
    have hle := nd_fst_le p n
    split at hi
    · exact ih i hi
    · split at hi
      · exact ih i (by omega)
      · rename_i h1 h2
        rcases Nat.lt_or_ge i n with h3 | h3
        · exact ih i (by omega)
        · have e : i = n := by omega
          rw [e]
          cases z : p n
          · rfl
          · exact absurd z h2
theorem nd_fst_yes (p : Nat → Bool) (n : Nat) : nd_fst p n < n → p (nd_fst p n) = true := by
  induction n with
  | zero => intro h; exact absurd h (Nat.not_lt_zero _)
  | succ n ih =>
    rw [nd_fst]
    split
    · rename_i h1
      intro _
      exact ih h1
    · split
      · rename_i h2
        intro _
        exact h2
      · intro h
        exact absurd h (Nat.lt_irrefl _)
theorem nd_fst_eq {p : Nat → Bool} {n x : Nat} (h1 : x ≤ n) (h2 : ∀ i, i < x → p i = false) (h3 : x < n → p x = true) : nd_fst p n = x := by
  rcases Nat.lt_trichotomy (nd_fst p n) x with h | h | h
  · have z := nd_fst_yes p n (by omega)
    rw [h2 _ h] at z; cases z
  · exact h
  · have z := nd_fst_no p n x h
    have := nd_fst_le p n
    rw [h3 (by omega)] at z; cases z
theorem nd_fst_congr {p q : Nat → Bool} {n : Nat} (h : ∀ i, i < n → p i = q i) : nd_fst p n = nd_fst q n := by
  induction n with
  | zero => rfl
  | succ n ih => rw [nd_fst, nd_fst, ih (fun i hi => h i (by omega)), h n (by omega)]
theorem nd_fst_lt {p : Nat → Bool} {n i : Nat} (hi : i < n) (h : p i = true) : nd_fst p n ≤ i := by
  rcases Nat.lt_or_ge i (nd_fst p n) with z | z
  · have := nd_fst_no p n i z
    rw [h] at this; cases this
  · exact z
/-! masks -/
theorem nd_m_bit (p : Nat → Bool) (n s : Nat) : (nd_m p n).testBit s = (decide (s < n) && p s) := by
  induction n with
  | zero => simp [nd_m]
  | succ n ih =>
    rw [nd_m, Nat.testBit_or, ih]
    rcases Nat.lt_trichotomy s n with h | h | h
    · have e : (if p n = true then 2 ^ n else 0).testBit s = false := by
        split
        · rw [Nat.testBit_two_pow]; exact decide_eq_false (by omega)
        · exact Nat.zero_testBit s
      rw [e, decide_eq_true h, decide_eq_true (by omega : s < n + 1), Bool.or_false]
    · subst h
      rw [decide_eq_false (Nat.lt_irrefl s), decide_eq_true (by omega : s < s + 1), Bool.false_and, Bool.false_or, Bool.true_and]
      cases hp : p s
      · exact Nat.zero_testBit s
      · exact (Nat.testBit_two_pow).trans (decide_eq_true rfl)
    · have e : (if p n = true then 2 ^ n else 0).testBit s = false := by
        split
        · rw [Nat.testBit_two_pow]; exact decide_eq_false (by omega)
        · exact Nat.zero_testBit s
      rw [e, decide_eq_false (by omega : ¬ s < n), decide_eq_false (by omega : ¬ s < n + 1), Bool.or_false, Bool.false_and]
theorem nd_m_lt (p : Nat → Bool) (n : Nat) : nd_m p n < 2 ^ n := by
  induction n with
  | zero => exact Nat.one_pos
  | succ n ih =>
    rw [nd_m]
    have h2 : 2 ^ n < 2 ^ (n + 1) := Nat.pow_lt_pow_right (by decide) (by omega)
    refine Nat.or_lt_two_pow (by omega) ?_
    split
    · exact h2
    · exact Nat.two_pow_pos _
theorem nd_m16 (p : Nat → Bool) : nd_m p 16 < 65536 := nd_m_lt p 16
theorem nd_m_or (p q : Nat → Bool) (n : Nat) : nd_m p n ||| nd_m q n = nd_m (fun s => p s || q s) n := by
  apply Nat.eq_of_testBit_eq
  intro i
  rw [Nat.testBit_or, nd_m_bit, nd_m_bit, nd_m_bit]
  cases decide (i < n) <;> cases p i <;> cases q i <;> rfl
theorem nd_m_and (p q : Nat → Bool) (n : Nat) : nd_m p n &&& nd_m q n = nd_m (fun s => p s && q s) n := by
  apply Nat.eq_of_testBit_eq
  intro i
  rw [Nat.testBit_and, nd_m_bit, nd_m_bit, nd_m_bit]
  cases decide (i < n) <;> cases p i <;> cases q i <;> rfl
theorem nd_m_inj {p q : Nat → Bool} {n : Nat} (h : nd_m p n = nd_m q n) : ∀ s, s < n → p s = q s := by
  intro s hs
  have e : (nd_m p n).testBit s = (nd_m q n).testBit s := by rw [h]
  rw [nd_m_bit, nd_m_bit, decide_eq_true hs, Bool.true_and, Bool.true_and] at e
  exact e
theorem nd_m_zero {p : Nat → Bool} {n : Nat} : nd_m p n = 0 ↔ ∀ s, s < n → p s = false := by
  constructor
  · intro h s hs
    have e : (nd_m p n).testBit s = false := by rw [h]; exact Nat.zero_testBit s
    rw [nd_m_bit, decide_eq_true hs, Bool.true_and] at e
    exact e
  · intro h
    apply Nat.eq_of_testBit_eq
    intro i
    rw [nd_m_bit, Nat.zero_testBit]
    rcases Nat.lt_or_ge i n with z | z
    · rw [h i z, Bool.and_false]
    · rw [decide_eq_false (by omega), Bool.false_and]
theorem nd_m_all : nd_m (fun _ => true) 16 = 65535 := by decide
/-! ints -/
theorem nd_or (a b : Nat) : nI a ||| nI b = nI (a ||| b) := by
  apply Int32.toBitVec_inj.1
  show BitVec.ofNat 32 a ||| BitVec.ofNat 32 b = BitVec.ofNat 32 (a ||| b)
  apply BitVec.eq_of_getLsbD_eq
  intro i hi
  simp [hi]
theorem nd_bit {m k : Nat} (hm : m < 2 ^ 31) (hk : k < 32) : (nI m >>> (nI k &&& 31)) &&& 1 = nd_b (m.testBit k) := by
  rw [pk_shrN hm _ k (s_l k hk), pk_andN (Nat.lt_of_le_of_lt (Nat.div_le_self _ _) (by omega)) 1 (by decide), Nat.testBit_eq_decide_div_mod_eq]
  generalize m / 2 ^ k = z
  rcases Nat.mod_two_eq_zero_or_one z with h | h <;> rw [show z % 2 ^ 1 = z % 2 from rfl, h] <;> rfl
theorem nd_shl : ∀ k, k < 31 → (1 : Int32) <<< (nI k &&& 31) = nI (2 ^ k) := by decide +kernel
theorem nd_m1 {n : Nat} (h : n < 2 ^ 31) : ¬ nI n = -1 := by
  intro e
  have z := nI_pos (n := n) h
  rw [e] at z
  exact z (by decide)
end
section
/-! sixteen states: growing sets stand still, ways, distances, states that look alike: pure -/
theorem nd_ni {a b : Bool} (h : (!a) = !b) : a = b := by revert h; cases a <;> cases b <;> decide
theorem nd_stab (P : Nat → Nat → Bool) (c : Nat) (hm : ∀ r s, s < 16 → P r s = true → P (r + 1) s = true)
    (hs : ∀ r, (∀ s, s < 16 → P (r + 1) s = P r s) → ∀ s, s < 16 → P (r + 2) s = P (r + 1) s)
    (hc : c ≤ nd_cnt (P 0) 16) : ∀ r, 16 ≤ r + c → ∀ s, s < 16 → P (r + 1) s = P r s := by
  have dich : ∀ r, (∀ s, s < 16 → P (r + 1) s = P r s) ∨ nd_cnt (P r) 16 < nd_cnt (P (r + 1)) 16 := by
    intro r
    by_cases h : ∀ s, s < 16 → P (r + 1) s = P r s
    · exact Or.inl h
    · refine Or.inr ?_
      have ⟨s, h2⟩ := Classical.not_forall.mp h
      have ⟨h3, h4⟩ := Classical.not_imp.mp h2
      have hp : P r s = false := by
        cases z : P r s
        · rfl
        · rw [z, hm r s h3 z] at h4; exact absurd rfl h4
      have hq : P (r + 1) s = true := by
        cases z : P (r + 1) s
        · rw [z, hp] at h4; exact absurd rfl h4
        · rfl
      exact nd_cnt_strict (hm r) h3 hp hq
  have key : ∀ r, (∀ s, s < 16 → P (r + 1) s = P r s) ∨ r + 1 + c ≤ nd_cnt (P (r + 1)) 16 := by
    intro r
    induction r with
    | zero =>
      rcases dich 0 with h | h
      · exact Or.inl h
      · exact Or.inr (by omega)
    | succ r ih =>
      rcases ih with h | h
      · exact Or.inl (hs r h)
      · rcases dich (r + 1) with h2 | h2
        · exact Or.inl h2
        · exact Or.inr (by omega)
  intro r hr
  rcases key r with h | h
  · exact h
  · have := nd_cnt_le (P (r + 1)) 16
    omega
/-! some STEP, all STEPS -/
def nd_ld (f : Nat → Nat → Nat) (all : Bool) (p : Nat → Bool) (s : Nat) : Bool :=
  if all then nd_all (fun i => p (f s i)) 8 else nd_any (fun i => p (f s i)) 8
def nd_F (f : Nat → Nat → Nat) : Prop := ∀ s i, s < 16 → i < 8 → f s i < 16
theorem nd_ld_congr {f : Nat → Nat → Nat} (hf : nd_F f) {all : Bool} {p q : Nat → Bool} (h : ∀ s, s < 16 → p s = q s) : ∀ s, s < 16 → nd_ld f all p s = nd_ld f all q s := by
  intro s hs
  unfold nd_ld
  rw [nd_all_congr (fun i hi => h _ (hf s i hs hi)), nd_any_congr (fun i hi => h _ (hf s i hs hi))]
theorem nd_ld_mono {f : Nat → Nat → Nat} (hf : nd_F f) {all : Bool} {p q : Nat → Bool} (h : ∀ s, s < 16 → p s = true → q s = true) : ∀ s, s < 16 → nd_ld f all p s = true → nd_ld f all q s = true := by
  intro s hs
  unfold nd_ld
  cases all
  · rw [if_neg Bool.false_ne_true, if_neg Bool.false_ne_true, nd_any_iff, nd_any_iff]
    rintro ⟨i, hi, z⟩
    exact ⟨i, hi, h _ (hf s i hs hi) z⟩
  · rw [if_pos rfl, if_pos rfl, nd_all_iff, nd_all_iff]
    intro z i hi
    exact h _ (hf s i hs hi) (z i hi)
/-- B is come to through A -/
def nd_co (f : Nat → Nat → Nat) (all : Bool) (g t : Nat → Bool) : Nat → Nat → Bool
  | 0 => g
  | r + 1 => fun s => g s || (t s && nd_ld f all (nd_co f all g t r) s)
/-- A is never left -/
def nd_st (f : Nat → Nat → Nat) (all : Bool) (g : Nat → Bool) : Nat → Nat → Bool
  | 0 => g
  | r + 1 => fun s => g s && nd_ld f all (nd_st f all g r) s
theorem nd_co_stab {f : Nat → Nat → Nat} (hf : nd_F f) (all : Bool) (g t : Nat → Bool) : ∀ s, s < 16 → nd_co f all g t 17 s = nd_co f all g t 16 s := by
  refine nd_stab (nd_co f all g t) 0 ?_ ?_ (Nat.zero_le _) 16 (by omega)
  · intro r
    induction r with
    | zero =>
      intro s hs h
      show (g s || _) = true
      rw [show g s = true from h, Bool.true_or]
    | succ r ih =>
      intro s hs h
      rw [nd_co, Bool.or_eq_true, Bool.and_eq_true] at h ⊢
      rcases h with h | ⟨h1, h2⟩
      · exact Or.inl h
      · exact Or.inr ⟨h1, nd_ld_mono hf ih s hs h2⟩
  · intro r h s hs
    show (g s || (t s && nd_ld f all (nd_co f all g t (r + 1)) s)) = (g s || (t s && nd_ld f all (nd_co f all g t r) s))
    rw [nd_ld_congr hf h s hs]
theorem nd_st_stab {f : Nat → Nat → Nat} (hf : nd_F f) (all : Bool) (g : Nat → Bool) : ∀ s, s < 16 → nd_st f all g 17 s = nd_st f all g 16 s := by
  have dec : ∀ r s, s < 16 → nd_st f all g (r + 1) s = true → nd_st f all g r s = true := by
    intro r
    induction r with
    | zero =>
      intro s hs h
      rw [nd_st, Bool.and_eq_true] at h
      exact h.1
    | succ r ih =>
      intro s hs h
      rw [nd_st, Bool.and_eq_true] at h ⊢
      exact ⟨h.1, nd_ld_mono hf ih s hs h.2⟩
  have key := nd_stab (fun r s => !nd_st f all g r s) 0 ?_ ?_ (Nat.zero_le _) 16 (by omega)
  · intro s hs
    exact nd_ni (key s hs)
  · intro r s hs h
    simp only [Bool.not_eq_true'] at h ⊢
    cases z : nd_st f all g (r + 1) s
    · rfl
    · rw [dec r s hs z] at h; cases h
  · intro r h s hs
    have h2 : ∀ s, s < 16 → nd_st f all g (r + 1) s = nd_st f all g r s := by
      intro s hs
      exact nd_ni (h s hs)
    show (!(g s && nd_ld f all (nd_st f all g (r + 1)) s)) = !(g s && nd_ld f all (nd_st f all g r) s)
    rw [nd_ld_congr hf h2 s hs]
/-! layers: just n STEPS lead into g -/
def nd_L (f : Nat → Nat → Nat) (g : Nat → Bool) : Nat → Nat → Bool
  | 0 => g
  | n + 1 => nd_ld f false (nd_L f g n)
/-- within n STEPS of s0 -/
def nd_W (f : Nat → Nat → Nat) (s0 : Nat) : Nat → Nat → Bool
  | 0 => fun s => decide (s = s0)
  | n + 1 => fun s => nd_W f s0 n s || nd_any (fun t => nd_W f s0 n t && nd_any (fun i => decide (f t i = s)) 8) 16
theorem nd_W_s {f : Nat → Nat → Nat} {s0 n s : Nat} : nd_W f s0 (n + 1) s = true ↔ nd_W f s0 n s = true ∨ ∃ t i, t < 16 ∧ i < 8 ∧ nd_W f s0 n t = true ∧ f t i = s := by
  rw [nd_W, Bool.or_eq_true, nd_any_iff]
  constructor
  · rintro (h | ⟨t, ht, h⟩)
    · exact Or.inl h
    · rw [Bool.and_eq_true, nd_any_iff] at h
      obtain ⟨h1, i, hi, h2⟩ := h
      exact Or.inr ⟨t, i, ht, hi, h1, of_decide_eq_true h2⟩
  · rintro (h | ⟨t, i, ht, hi, h1, h2⟩)
    · exact Or.inl h
    · refine Or.inr ⟨t, ht, ?_⟩
      rw [Bool.and_eq_true, nd_any_iff]
      exact ⟨h1, i, hi, decide_eq_true h2⟩
theorem nd_W_up {f : Nat → Nat → Nat} {s0 s : Nat} : ∀ {n m : Nat}, n ≤ m → nd_W f s0 n s = true → nd_W f s0 m s = true := by
  intro n m h
  induction h with
  | refl => exact id
  | step _ ih => exact fun z => nd_W_s.mpr (Or.inl (ih z))
theorem nd_W_lt {f : Nat → Nat → Nat} (hf : nd_F f) {s0 : Nat} (h0 : s0 < 16) : ∀ {n s : Nat}, nd_W f s0 n s = true → s < 16 := by
  intro n
  induction n with
  | zero =>
    intro s h
    rw [of_decide_eq_true h]; exact h0
  | succ n ih =>
    intro s h
    rcases nd_W_s.mp h with h | ⟨t, i, ht, hi, _, rfl⟩
    · exact ih h
    · exact hf t i ht hi
theorem nd_W_15 {f : Nat → Nat → Nat} {s0 : Nat} (h0 : s0 < 16) {n s : Nat} (hs : s < 16) (h : nd_W f s0 n s = true) : nd_W f s0 15 s = true := by
  have stab : ∀ r, 16 ≤ r + 1 → ∀ s, s < 16 → nd_W f s0 (r + 1) s = nd_W f s0 r s := by
    refine nd_stab (nd_W f s0) 1 ?_ ?_ ?_
    · intro r s _ h
      exact nd_W_s.mpr (Or.inl h)
    · intro r h s hs
      show (nd_W f s0 (r + 1) s || nd_any (fun t => nd_W f s0 (r + 1) t && nd_any (fun i => decide (f t i = s)) 8) 16) = (nd_W f s0 r s || nd_any (fun t => nd_W f s0 r t && nd_any (fun i => decide (f t i = s)) 8) 16)
      rw [h s hs]
      refine congrArg _ (nd_any_congr ?_)
      intro t ht
      rw [h t ht]
    · exact nd_cnt_pos h0 (decide_eq_true rfl)
  rcases Nat.lt_or_ge n 16 with z | z
  · exact nd_W_up (by omega) h
  · obtain ⟨d, rfl⟩ : ∃ d, n = 15 + d := ⟨n - 15, by omega⟩
    clear z
    induction d with
    | zero => exact h
    | succ d ih =>
      refine ih ?_
      rw [← stab (15 + d) (by omega) s hs]
      exact h
/-- what both sides' distances are -/
def nd_D (f : Nat → Nat → Nat) (s0 : Nat) (e : Nat → Nat) : Prop :=
  ∀ t, t < 16 → (∀ m, m < 16 → (e t ≤ m ↔ nd_W f s0 m t = true)) ∧ (e t < 16 ∨ e t = 99)
theorem nd_D_eq {f : Nat → Nat → Nat} {s0 : Nat} {e e' : Nat → Nat} (h : nd_D f s0 e) (h' : nd_D f s0 e') : ∀ t, t < 16 → e t = e' t := by
  intro t ht
  obtain ⟨a, b⟩ := h t ht
  obtain ⟨a', b'⟩ := h' t ht
  rcases b with b | b
  · have h1 := (a' _ b).mpr ((a _ b).mp (Nat.le_refl _))
    have h2 := (a (e' t) (by omega)).mpr ((a' (e' t) (by omega)).mp (Nat.le_refl _))
    omega
  · rcases b' with b' | b'
    · have h2 := (a (e' t) b').mpr ((a' (e' t) b').mp (Nat.le_refl _))
      omega
    · omega
/-- the layers and the distances tell the same least number -/
theorem nd_L_W {f : Nat → Nat → Nat} (hf : nd_F f) {g : Nat → Bool} : ∀ n s0, s0 < 16 → nd_L f g n s0 = true → ∃ s, s < 16 ∧ g s = true ∧ nd_W f s0 n s = true := by
  intro n
  induction n with
  | zero => intro s0 h0 h; exact ⟨s0, h0, h, decide_eq_true rfl⟩
  | succ n ih =>
    intro s0 h0 h
    rw [nd_L, nd_ld, if_neg Bool.false_ne_true, nd_any_iff] at h
    obtain ⟨i, hi, h⟩ := h
    obtain ⟨s, hs, hg, hw⟩ := ih _ (hf s0 i h0 hi) h
    refine ⟨s, hs, hg, ?_⟩
    clear h hg ih
    have : ∀ m s, nd_W f (f s0 i) m s = true → nd_W f s0 (m + 1) s = true := by
      intro m
      induction m with
      | zero =>
        intro s z
        exact nd_W_s.mpr (Or.inr ⟨s0, i, h0, hi, decide_eq_true rfl, (of_decide_eq_true z).symm⟩)
      | succ m ih =>
        intro s z
        rcases nd_W_s.mp z with z | ⟨t, j, ht, hj, z, e⟩
        · exact nd_W_s.mpr (Or.inl (ih s z))
        · exact nd_W_s.mpr (Or.inr ⟨t, j, ht, hj, ih t z, e⟩)
    exact this n s hw
theorem nd_W_L {f : Nat → Nat → Nat} {g : Nat → Bool} {s0 : Nat} : ∀ n s k, nd_W f s0 n s = true → nd_L f g k s = true → ∃ m, m ≤ n ∧ nd_L f g (m + k) s0 = true := by
  intro n
  induction n with
  | zero =>
    intro s k h hl
    rw [of_decide_eq_true h] at hl
    exact ⟨0, Nat.le_refl 0, by rw [Nat.zero_add]; exact hl⟩
  | succ n ih =>
    intro s k h hl
    rcases nd_W_s.mp h with h | ⟨t, i, ht, hi, h, e⟩
    · obtain ⟨m, hm, z⟩ := ih s k h hl
      exact ⟨m, by omega, z⟩
    · obtain ⟨m, hm, z⟩ := ih t (k + 1) h (by
        rw [nd_L, nd_ld, if_neg Bool.false_ne_true, nd_any_iff]
        exact ⟨i, hi, by rw [e]; exact hl⟩)
      exact ⟨m + 1, by omega, by rw [Nat.add_right_comm m 1 k]; exact z⟩
/-- the least distance of g, n, is what the layers say -/
theorem nd_reach {f : Nat → Nat → Nat} (hf : nd_F f) {g : Nat → Bool} {s0 : Nat} (h0 : s0 < 16) {e : Nat → Nat} (hD : nd_D f s0 e) {n : Nat}
    (h1 : ∀ s, s < 16 → g s = true → n ≤ e s) (h2 : n = 99 ∨ ∃ s, s < 16 ∧ g s = true ∧ e s = n) :
    (n < 16 ∧ nd_fst (fun k => nd_L f g k s0) 16 = n) ∨ (n = 99 ∧ nd_fst (fun k => nd_L f g k s0) 16 = 16) := by
  have lo : ∀ k, k < 16 → nd_L f g k s0 = true → n ≤ k := by
    intro k hk z
    obtain ⟨s, hs, hg, hw⟩ := nd_L_W hf k s0 h0 z
    have := h1 s hs hg
    have := ((hD s hs).1 k hk).mpr hw
    omega
  have hi : n < 16 → nd_L f g n s0 = true := by
    intro hn
    rcases h2 with h2 | ⟨s, hs, hg, e2⟩
    · omega
    · have hw := ((hD s hs).1 n hn).mp (by omega)
      obtain ⟨m, hm, z⟩ := nd_W_L (g := g) n s 0 hw hg
      have := lo m (by omega) z
      have e3 : m + 0 = n := by omega
      rw [e3] at z
      exact z
  have hn : n < 16 ∨ n = 99 := by
    rcases h2 with h2 | ⟨s, hs, hg, e2⟩
    · exact Or.inr h2
    · rw [← e2]; exact (hD s hs).2
  rcases hn with hn | hn
  · refine Or.inl ⟨hn, nd_fst_eq (by omega) ?_ (fun _ => hi hn)⟩
    intro i hi2
    cases z : nd_L f g i s0
    · rfl
    · have := lo i (by omega) z
      omega
  · refine Or.inr ⟨hn, nd_fst_eq (Nat.le_refl _) ?_ (fun z => absurd z (Nat.lt_irrefl _))⟩
    intro i hi2
    cases z : nd_L f g i s0
    · rfl
    · have := lo i hi2 z
      omega
/-! the reference's walk: relaxing in place, 16 times over the 128 edges -/
def nd_V (f : Nat → Nat → Nat) (s0 k : Nat) (e : Nat → Nat) : Prop :=
  (∀ s, s < 16 → e s = 99 ∨ (e s < 99 ∧ nd_W f s0 (e s) s = true)) ∧
  (∀ s n, s < 16 → n ≤ k / 128 → nd_W f s0 n s = true → e s ≤ n) ∧
  (∀ j n, k / 128 * 128 ≤ j → j < k → n ≤ k / 128 → nd_W f s0 n (j / 8 % 16) = true → e (f (j / 8 % 16) (j % 8)) ≤ n + 1)
def nd_up (e : Nat → Nat) (k v : Nat) : Nat → Nat := fun j => if j = k then v else e j
theorem nd_V_0 {f : Nat → Nat → Nat} {s0 : Nat} : nd_V f s0 0 (fun s => if s = s0 then 0 else 99) := by
  refine ⟨?_, ?_, ?_⟩
  · intro s _
    dsimp only
    split
    · rename_i h
      exact Or.inr ⟨by omega, decide_eq_true h⟩
    · exact Or.inl rfl
  · intro s n _ hn h
    have : n = 0 := by omega
    subst this
    dsimp only
    rw [if_pos (of_decide_eq_true h)]
    exact Nat.le_refl 0
  · intro j n _ hj
    omega
theorem nd_V_s {f : Nat → Nat → Nat} (hf : nd_F f) {s0 k : Nat} {e e' : Nat → Nat} (h : nd_V f s0 k e)
    (ht : e' (f (k / 8 % 16) (k % 8)) = e (f (k / 8 % 16) (k % 8)) ∧ e (f (k / 8 % 16) (k % 8)) ≤ e (k / 8 % 16) + 1 ∨ e' (f (k / 8 % 16) (k % 8)) = e (k / 8 % 16) + 1 ∧ e (k / 8 % 16) + 1 < e (f (k / 8 % 16) (k % 8)))
    (ho : ∀ s, s ≠ f (k / 8 % 16) (k % 8) → e' s = e s) : nd_V f s0 (k + 1) e' := by
  obtain ⟨hA, hB, hC⟩ := h
  have hs : k / 8 % 16 < 16 := Nat.mod_lt _ (by decide)
  have hi : k % 8 < 8 := Nat.mod_lt _ (by decide)
  have hto := hf _ _ hs hi
  generalize hS : k / 8 % 16 = S at *
  generalize hI : k % 8 = I at *
  generalize hTo : f S I = To at *
  have dec : ∀ s, e' s ≤ e s := by
    intro s
    by_cases z : s = To
    · subst z; omega
    · rw [ho s z]; exact Nat.le_refl _
  have hA' : ∀ s, s < 16 → e' s = 99 ∨ (e' s < 99 ∧ nd_W f s0 (e' s) s = true) := by
    intro s h16
    by_cases z : s = To
    · subst z
      rcases ht with ⟨h1, h2⟩ | ⟨h1, h2⟩
      · rw [h1]; exact hA s h16
      · rw [h1]
        have a1 := hA S hs
        have a2 := hA s h16
        rcases a1 with a1 | ⟨a1, a3⟩
        · omega
        · exact Or.inr ⟨by omega, nd_W_s.mpr (Or.inr ⟨S, I, hs, hi, a3, hTo⟩)⟩
    · rw [ho s z]; exact hA s h16
  have hB' : ∀ s n, s < 16 → n ≤ k / 128 → nd_W f s0 n s = true → e' s ≤ n := by
    intro s n h16 hn hw
    exact Nat.le_trans (dec s) (hB s n h16 hn hw)
  have hC' : ∀ j n, k / 128 * 128 ≤ j → j < k + 1 → n ≤ k / 128 → nd_W f s0 n (j / 8 % 16) = true → e' (f (j / 8 % 16) (j % 8)) ≤ n + 1 := by
    intro j n hj hj2 hn hw
    by_cases z : j = k
    · subst z
      rw [hS] at hw
      rw [hS, hI, hTo]
      have := hB S n hs hn hw
      omega
    · exact Nat.le_trans (dec _) (hC j n hj (by omega) hn hw)
  refine ⟨hA', ?_, ?_⟩
  · intro s n h16 hn hw
    by_cases z : n ≤ k / 128
    · exact hB' s n h16 z hw
    · have hk : (k + 1) / 128 = k / 128 + 1 := by omega
      have hn2 : n = k / 128 + 1 := by omega
      rw [hn2] at hw
      rcases nd_W_s.mp hw with hw | ⟨t, i, ht2, hi2, hw, e2⟩
      · have := hB' s _ h16 (Nat.le_refl _) hw
        omega
      · have e3 : (k / 128 * 128 + t * 8 + i) / 8 % 16 = t := by omega
        have e4 : (k / 128 * 128 + t * 8 + i) % 8 = i := by omega
        have := hC' (k / 128 * 128 + t * 8 + i) (k / 128) (by omega) (by omega) (Nat.le_refl _) (by rw [e3]; exact hw)
        rw [e3, e4, e2] at this
        omega
  · intro j n hj hj2 hn hw
    by_cases z : (k + 1) / 128 = k / 128
    · rw [z] at hj hn
      exact hC' j n hj hj2 hn hw
    · omega
theorem nd_V_D {f : Nat → Nat → Nat} {s0 : Nat} (h0 : s0 < 16) {e : Nat → Nat} (h : nd_V f s0 2048 e) : nd_D f s0 e := by
  obtain ⟨hA, hB, _⟩ := h
  have hB : ∀ s n, s < 16 → n ≤ 16 → nd_W f s0 n s = true → e s ≤ n := hB
  intro t ht
  have h15 : e t < 99 → e t < 16 := by
    intro z
    rcases hA t ht with a | ⟨a, a2⟩
    · omega
    · have := hB t 15 ht (by omega) (nd_W_15 h0 ht a2)
      omega
  refine ⟨?_, ?_⟩
  · intro m hm
    constructor
    · intro z
      rcases hA t ht with a | ⟨a, a2⟩
      · omega
      · exact nd_W_up z a2
    · intro z
      exact hB t m ht (by omega) z
  · rcases hA t ht with a | ⟨a, a2⟩
    · exact Or.inr a
    · exact Or.inl (h15 a)
/-! the component's levels: round n, states below s done -/
def nd_Q (f : Nat → Nat → Nat) (s0 n s : Nat) (e : Nat → Nat) : Prop :=
  (∀ t m, t < 16 → m < n → (e t ≤ m ↔ nd_W f s0 m t = true)) ∧
  (∀ t, t < 16 → e t < n ∨ e t = 99 ∨ (e t = n ∧ nd_W f s0 n t = true)) ∧
  (∀ t i, t < s → t < 16 → i < 8 → e t = n - 1 → e (f t i) ≤ n)
theorem nd_Q_0 {f : Nat → Nat → Nat} {s0 : Nat} : nd_Q f s0 1 0 (fun s => if s = s0 then 0 else 99) := by
  refine ⟨?_, ?_, ?_⟩
  · intro t m _ hm
    have : m = 0 := by omega
    subst this
    dsimp only
    constructor
    · intro z
      split at z
      · rename_i h; exact decide_eq_true h
      · omega
    · intro z
      rw [if_pos (of_decide_eq_true z)]
      exact Nat.le_refl 0
  · intro t _
    dsimp only
    split
    · exact Or.inl (by omega)
    · exact Or.inr (Or.inl rfl)
  · intro t i ht
    omega
/-- one state's heirs: e' differs from e in heirs without a distance alone -/
theorem nd_Q_s {f : Nat → Nat → Nat} {s0 n s : Nat} (hn : 1 ≤ n) (hn2 : n < 16) (hs : s < 16) {e e' : Nat → Nat} (h : nd_Q f s0 n s e)
    (h1 : e s = n - 1 → ∀ t, t < 16 → e' t = if nd_any (fun i => decide (f s i = t)) 8 = true ∧ e t = 99 then n else e t)
    (h2 : e s ≠ n - 1 → ∀ t, t < 16 → e' t = e t) (hf : nd_F f) : nd_Q f s0 n (s + 1) e' := by
  obtain ⟨hA, hB, hC⟩ := h
  by_cases z : e s = n - 1
  · have h1 := h1 z
    clear h2
    have hw : nd_W f s0 (n - 1) s = true := (hA s (n - 1) hs (by omega)).mp (by omega)
    refine ⟨?_, ?_, ?_⟩
    · intro t m ht hm
      rw [h1 t ht, ← hA t m ht hm]
      split
      · omega
      · exact Iff.rfl
    · intro t ht
      rw [h1 t ht]
      split
      · rename_i hh
        obtain ⟨i, hi, z2⟩ := nd_any_iff.mp hh.1
        refine Or.inr (Or.inr ⟨rfl, ?_⟩)
        obtain ⟨d, rfl⟩ : ∃ d, n = d + 1 := ⟨n - 1, by omega⟩
        exact nd_W_s.mpr (Or.inr ⟨s, i, hs, hi, hw, of_decide_eq_true z2⟩)
      · exact hB t ht
    · intro t i ht ht2 hi z2
      have hto := hf t i ht2 hi
      have ez : e t = n - 1 := by
        rw [h1 t ht2] at z2
        split at z2
        · omega
        · exact z2
      rw [h1 _ hto]
      split
      · exact Nat.le_refl _
      · rename_i hh
        by_cases zt : t = s
        · subst zt
          have hany : nd_any (fun j => decide (f t j = f t i)) 8 = true := nd_any_iff.mpr ⟨i, hi, decide_eq_true rfl⟩
          rcases hB _ hto with b | b | b
          · omega
          · exact absurd ⟨hany, b⟩ hh
          · omega
        · exact hC t i (by omega) ht2 hi ez
  · have h2 := h2 z
    clear h1
    refine ⟨?_, ?_, ?_⟩
    · intro t m ht hm
      rw [h2 t ht]; exact hA t m ht hm
    · intro t ht
      rw [h2 t ht]; exact hB t ht
    · intro t i ht ht2 hi z2
      rw [h2 t ht2] at z2
      rw [h2 _ (hf t i ht2 hi)]
      by_cases zt : t = s
      · subst zt; exact absurd z2 z
      · exact hC t i (by omega) ht2 hi z2
theorem nd_Q_n {f : Nat → Nat → Nat} {s0 n : Nat} (hn : 1 ≤ n) (hn2 : n < 16) {e : Nat → Nat} (h : nd_Q f s0 n 16 e) : nd_Q f s0 (n + 1) 0 e := by
  obtain ⟨hA, hB, hC⟩ := h
  obtain ⟨d, rfl⟩ : ∃ d, n = d + 1 := ⟨n - 1, by omega⟩
  refine ⟨?_, ?_, ?_⟩
  · intro t m ht hm
    by_cases z : m < d + 1
    · exact hA t m ht z
    · have e2 : m = d + 1 := by omega
      subst e2
      constructor
      · intro z2
        rcases hB t ht with b | b | b
        · exact nd_W_up (Nat.le_succ d) ((hA t d ht (by omega)).mp (by omega))
        · omega
        · exact b.2
      · intro z2
        rcases nd_W_s.mp z2 with hw | ⟨s, i, hs, hi, hw, rfl⟩
        · have := (hA t d ht (by omega)).mpr hw
          omega
        · have h3 := (hA s d hs (by omega)).mpr hw
          by_cases z3 : e s = d
          · exact hC s i hs hs hi (by omega)
          · obtain ⟨c, rfl⟩ : ∃ c, d = c + 1 := ⟨d - 1, by omega⟩
            have hw2 := (hA s c hs (by omega)).mp (by omega)
            have := (hA (f s i) (c + 1) ht (by omega)).mpr (nd_W_s.mpr (Or.inr ⟨s, i, hs, hi, hw2, rfl⟩))
            omega
  · intro t ht
    rcases hB t ht with b | b | b
    · exact Or.inl (by omega)
    · exact Or.inr (Or.inl b)
    · exact Or.inl (by omega)
  · intro t i ht
    omega
/-- at the head of round n -/
def nd_H (f : Nat → Nat → Nat) (s0 n : Nat) (e : Nat → Nat) : Prop := nd_Q f s0 n 0 e ∧ ∀ t, t < 16 → e t < n ∨ e t = 99
theorem nd_H_0 {f : Nat → Nat → Nat} {s0 : Nat} : nd_H f s0 1 (fun s => if s = s0 then 0 else 99) := by
  refine ⟨nd_Q_0, ?_⟩
  intro t _
  dsimp only
  split
  · exact Or.inl (by omega)
  · exact Or.inr rfl
theorem nd_H_s {f : Nat → Nat → Nat} {s0 n : Nat} (hn : 1 ≤ n) (hn2 : n < 16) {e : Nat → Nat} (h : nd_Q f s0 n 16 e) : nd_H f s0 (n + 1) e := by
  refine ⟨nd_Q_n hn hn2 h, ?_⟩
  intro t ht
  rcases h.2.1 t ht with b | b | b
  · exact Or.inl (by omega)
  · exact Or.inr b
  · exact Or.inl (by omega)
theorem nd_H_D {f : Nat → Nat → Nat} {s0 : Nat} {e : Nat → Nat} (h : nd_H f s0 16 e) : nd_D f s0 e :=
  fun t ht => ⟨fun m hm => h.1.1 t m ht hm, h.2 t ht⟩
/-! states that look alike after r STEPS -/
def nd_E (f : Nat → Nat → Nat) (g : Nat → Nat → Bool) : Nat → Nat → Nat → Bool
  | 0 => fun s t => nd_all (fun i => g s i == g t i) 8
  | r + 1 => fun s t => nd_E f g r s t && nd_all (fun i => nd_E f g r (f s i) (f t i)) 8
theorem nd_E_0 {f : Nat → Nat → Nat} {g : Nat → Nat → Bool} {s t : Nat} : nd_E f g 0 s t = true ↔ ∀ i, i < 8 → g s i = g t i := by
  rw [nd_E, nd_all_iff]
  constructor
  · intro h i hi; exact eq_of_beq (h i hi)
  · intro h i hi; rw [h i hi]; exact BEq.rfl
theorem nd_E_s {f : Nat → Nat → Nat} {g : Nat → Nat → Bool} {r s t : Nat} : nd_E f g (r + 1) s t = true ↔ nd_E f g r s t = true ∧ ∀ i, i < 8 → nd_E f g r (f s i) (f t i) = true := by
  rw [nd_E, Bool.and_eq_true, nd_all_iff]
theorem nd_E_r {f : Nat → Nat → Nat} {g : Nat → Nat → Bool} : ∀ r s, nd_E f g r s s = true := by
  intro r
  induction r with
  | zero => intro s; exact nd_E_0.mpr (fun _ _ => rfl)
  | succ r ih => intro s; exact nd_E_s.mpr ⟨ih s, fun i _ => ih _⟩
theorem nd_E_y {f : Nat → Nat → Nat} {g : Nat → Nat → Bool} : ∀ r s t, nd_E f g r s t = true → nd_E f g r t s = true := by
  intro r
  induction r with
  | zero => intro s t h; exact nd_E_0.mpr (fun i hi => (nd_E_0.mp h i hi).symm)
  | succ r ih =>
    intro s t h
    have h := nd_E_s.mp h
    exact nd_E_s.mpr ⟨ih _ _ h.1, fun i hi => ih _ _ (h.2 i hi)⟩
theorem nd_E_yb {f : Nat → Nat → Nat} {g : Nat → Nat → Bool} (r s t : Nat) : nd_E f g r s t = nd_E f g r t s := by
  cases h : nd_E f g r s t
  · cases h2 : nd_E f g r t s
    · rfl
    · rw [nd_E_y _ _ _ h2] at h; cases h
  · exact (nd_E_y _ _ _ h).symm
theorem nd_E_t {f : Nat → Nat → Nat} {g : Nat → Nat → Bool} : ∀ r s t u, nd_E f g r s t = true → nd_E f g r t u = true → nd_E f g r s u = true := by
  intro r
  induction r with
  | zero => intro s t u h h2; exact nd_E_0.mpr (fun i hi => (nd_E_0.mp h i hi).trans (nd_E_0.mp h2 i hi))
  | succ r ih =>
    intro s t u h h2
    have h := nd_E_s.mp h
    have h2 := nd_E_s.mp h2
    exact nd_E_s.mpr ⟨ih _ _ _ h.1 h2.1, fun i hi => ih _ _ _ (h.2 i hi) (h2.2 i hi)⟩
theorem nd_E_dn {f : Nat → Nat → Nat} {g : Nat → Nat → Bool} {r s t : Nat} (h : nd_E f g (r + 1) s t = true) : nd_E f g r s t = true := (nd_E_s.mp h).1
theorem nd_E_le {f : Nat → Nat → Nat} {g : Nat → Nat → Bool} {s t : Nat} : ∀ {r q : Nat}, r ≤ q → nd_E f g q s t = true → nd_E f g r s t = true := by
  intro r q h
  induction h with
  | refl => exact id
  | step _ ih => exact fun z => ih (nd_E_dn z)
/-- the least state that looks like s -/
def nd_lk (f : Nat → Nat → Nat) (g : Nat → Nat → Bool) (r s : Nat) : Nat := nd_fst (fun t => nd_E f g r t s) s
theorem nd_lk_le {f : Nat → Nat → Nat} {g : Nat → Nat → Bool} (r s : Nat) : nd_lk f g r s ≤ s := nd_fst_le _ _
theorem nd_lk_E {f : Nat → Nat → Nat} {g : Nat → Nat → Bool} (r s : Nat) : nd_E f g r (nd_lk f g r s) s = true := by
  rcases Nat.lt_or_ge (nd_lk f g r s) s with h | h
  · exact nd_fst_yes _ _ h
  · have e : nd_lk f g r s = s := Nat.le_antisymm (nd_lk_le r s) h
    rw [e]; exact nd_E_r r s
theorem nd_lk_min {f : Nat → Nat → Nat} {g : Nat → Nat → Bool} {r s t : Nat} (h : nd_E f g r t s = true) : nd_lk f g r s ≤ t := by
  rcases Nat.lt_or_ge t s with z | z
  · exact nd_fst_lt z h
  · exact Nat.le_trans (nd_lk_le r s) z
theorem nd_lk_eq {f : Nat → Nat → Nat} {g : Nat → Nat → Bool} {r s t : Nat} : nd_lk f g r s = nd_lk f g r t ↔ nd_E f g r s t = true := by
  constructor
  · intro h
    have h1 := nd_lk_E (f := f) (g := g) r s
    have h2 := nd_lk_E (f := f) (g := g) r t
    rw [h] at h1
    exact nd_E_t _ _ _ _ (nd_E_y _ _ _ h1) h2
  · intro h
    have h1 : nd_lk f g r s ≤ nd_lk f g r t := nd_lk_min (nd_E_t _ _ _ _ (nd_lk_E r t) (nd_E_y _ _ _ h))
    have h2 : nd_lk f g r t ≤ nd_lk f g r s := nd_lk_min (nd_E_t _ _ _ _ (nd_lk_E r s) h)
    omega
/-- the next look by the looks: what the component reckons -/
theorem nd_lk_s {f : Nat → Nat → Nat} {g : Nat → Nat → Bool} {r s : Nat} : nd_fst (fun t => nd_all (fun i => nd_lk f g r (f t i) == nd_lk f g r (f s i)) 8 && (nd_lk f g r t == nd_lk f g r s)) s = nd_lk f g (r + 1) s := by
  refine nd_fst_congr ?_
  intro t _
  rw [Bool.eq_iff_iff, Bool.and_eq_true, nd_all_iff, nd_E_s, beq_iff_eq, nd_lk_eq]
  constructor
  · rintro ⟨h1, h2⟩
    exact ⟨h2, fun i hi => nd_lk_eq.mp (eq_of_beq (h1 i hi))⟩
  · rintro ⟨h1, h2⟩
    exact ⟨fun i hi => beq_iff_eq.mpr (nd_lk_eq.mpr (h2 i hi)), h1⟩
theorem nd_E_stab {f : Nat → Nat → Nat} (hf : nd_F f) {g : Nat → Nat → Bool} : ∀ r s t, s < 16 → t < 16 → nd_E f g 16 s t = true → nd_E f g r s t = true := by
  have same : ∀ r, (∀ s, s < 16 → decide (nd_lk f g (r + 1) s = s) = decide (nd_lk f g r s = s)) → ∀ s t, s < 16 → t < 16 → nd_E f g r s t = true → nd_E f g (r + 1) s t = true := by
    intro r h
    have hl : ∀ s, s < 16 → nd_lk f g (r + 1) s = nd_lk f g r s := by
      intro s hs
      have a1 := nd_lk_E (f := f) (g := g) (r + 1) s
      have a2 : nd_lk f g (r + 1) (nd_lk f g (r + 1) s) = nd_lk f g (r + 1) s := nd_lk_eq.mpr a1
      have hm : nd_lk f g (r + 1) s < 16 := Nat.lt_of_le_of_lt (nd_lk_le _ _) hs
      have a3 := h _ hm
      rw [decide_eq_true a2] at a3
      have a4 := of_decide_eq_true a3.symm
      rw [← a4]
      exact nd_lk_eq.mpr (nd_E_dn a1)
    intro s t hs ht z
    refine nd_lk_eq.mp ?_
    rw [hl s hs, hl t ht]
    exact nd_lk_eq.mpr z
  have keep : ∀ r, (∀ s t, s < 16 → t < 16 → nd_E f g r s t = true → nd_E f g (r + 1) s t = true) → ∀ s t, s < 16 → t < 16 → nd_E f g (r + 1) s t = true → nd_E f g (r + 2) s t = true := by
    intro r h s t hs ht z
    refine nd_E_s.mpr ⟨z, fun i hi => ?_⟩
    exact h _ _ (hf s i hs hi) (hf t i ht hi) ((nd_E_s.mp z).2 i hi)
  have back : ∀ r, (∀ s t, s < 16 → t < 16 → nd_E f g r s t = true → nd_E f g (r + 1) s t = true) → ∀ s, s < 16 → decide (nd_lk f g (r + 1) s = s) = decide (nd_lk f g r s = s) := by
    intro r h s hs
    have hl : nd_lk f g (r + 1) s = nd_lk f g r s := by
      refine nd_fst_congr ?_
      intro t ht
      rw [Bool.eq_iff_iff]
      exact ⟨nd_E_dn, h t s (by omega) hs⟩
    rw [hl]
  have st := nd_stab (fun r s => decide (nd_lk f g r s = s)) 0 ?_ ?_ (Nat.zero_le _) 16 (by omega)
  · have h16 := same 16 st
    have all : ∀ d s t, s < 16 → t < 16 → nd_E f g (16 + d) s t = true → nd_E f g (16 + d + 1) s t = true := by
      intro d
      induction d with
      | zero => exact h16
      | succ d ih => exact keep _ ih
    intro r s t hs ht h
    rcases Nat.lt_or_ge 16 r with z | z
    · obtain ⟨d, rfl⟩ : ∃ d, r = 16 + d := ⟨r - 16, by omega⟩
      clear z
      induction d with
      | zero => exact h
      | succ d ih => exact all d s t hs ht ih
    · exact nd_E_le z h
  · intro r s hs h
    have h := of_decide_eq_true h
    refine decide_eq_true ?_
    have h1 : nd_lk f g r s ≤ nd_lk f g (r + 1) s := nd_lk_min (nd_E_dn (nd_lk_E (r + 1) s))
    have h2 : nd_lk f g (r + 1) s ≤ s := nd_lk_le _ _
    omega
  · intro r h
    exact back (r + 1) (keep r (same r h))
/-! the reference's pairs: apart in place -/
def nd_A (f : Nat → Nat → Nat) (g : Nat → Nat → Bool) (r k : Nat) (a : Nat → Bool) : Prop :=
  (∀ j, j < 256 → a j = true → ∃ q, nd_E f g q (j / 16) (j % 16) = false) ∧
  (∀ j, j < 256 → nd_E f g r (j / 16) (j % 16) = false → a j = true) ∧
  (∀ j, j < k → j < 256 → nd_E f g (r + 1) (j / 16) (j % 16) = false → a j = true)
theorem nd_A_0 {f : Nat → Nat → Nat} {g : Nat → Nat → Bool} {a : Nat → Bool} (h : ∀ j, j < 256 → a j = !nd_E f g 0 (j / 16) (j % 16)) : nd_A f g 0 0 a := by
  refine ⟨?_, ?_, ?_⟩
  · intro j hj z
    rw [h j hj] at z
    exact ⟨0, by simpa using z⟩
  · intro j hj z
    rw [h j hj, z]; rfl
  · intro j hj
    omega
theorem nd_A_s {f : Nat → Nat → Nat} (hf : nd_F f) {g : Nat → Nat → Bool} {r k : Nat} (hk : k < 256) {a a' : Nat → Bool} (h : nd_A f g r k a)
    (h1 : a' k = (a k || nd_any (fun i => a (16 * f (k / 16) i + f (k % 16) i)) 8)) (h2 : ∀ j, j ≠ k → a' j = a j) : nd_A f g r (k + 1) a' := by
  obtain ⟨hA, hB, hC⟩ := h
  have up : ∀ j, a j = true → a' j = true := by
    intro j z
    by_cases e : j = k
    · subst e; rw [h1, z, Bool.true_or]
    · rw [h2 j e, z]
  refine ⟨?_, ?_, ?_⟩
  · intro j hj z
    by_cases e : j = k
    · subst e
      rw [h1, Bool.or_eq_true] at z
      rcases z with z | z
      · exact hA j hj z
      · obtain ⟨i, hi, z⟩ := nd_any_iff.mp z
        have b1 : f (j / 16) i < 16 := hf _ _ (by omega) hi
        have b2 : f (j % 16) i < 16 := hf _ _ (by omega) hi
        obtain ⟨q, hq⟩ := hA _ (by omega) z
        rw [show (16 * f (j / 16) i + f (j % 16) i) / 16 = f (j / 16) i from by omega, show (16 * f (j / 16) i + f (j % 16) i) % 16 = f (j % 16) i from by omega] at hq
        refine ⟨q + 1, ?_⟩
        cases w : nd_E f g (q + 1) (j / 16) (j % 16)
        · rfl
        · rw [(nd_E_s.mp w).2 i hi] at hq; cases hq
    · rw [h2 j e] at z
      exact hA j hj z
  · intro j hj z
    exact up j (hB j hj z)
  · intro j hj hj2 z
    by_cases e : j = k
    · subst e
      rw [h1]
      cases w : nd_E f g r (j / 16) (j % 16)
      · rw [hB j hj2 w, Bool.true_or]
      · rw [Bool.or_eq_true]
        refine Or.inr (nd_any_iff.mpr ?_)
        have z : (nd_E f g r (j / 16) (j % 16) && nd_all (fun i => nd_E f g r (f (j / 16) i) (f (j % 16) i)) 8) = false := z
        rw [w, Bool.true_and] at z
        refine Classical.byContradiction fun hn => ?_
        have : nd_all (fun i => nd_E f g r (f (j / 16) i) (f (j % 16) i)) 8 = true := by
          refine nd_all_iff.mpr fun i hi => ?_
          have b1 : f (j / 16) i < 16 := hf _ _ (by omega) hi
          have b2 : f (j % 16) i < 16 := hf _ _ (by omega) hi
          cases w2 : nd_E f g r (f (j / 16) i) (f (j % 16) i)
          · refine absurd ⟨i, hi, hB (16 * f (j / 16) i + f (j % 16) i) (by omega) ?_⟩ hn
            rw [show (16 * f (j / 16) i + f (j % 16) i) / 16 = f (j / 16) i from by omega, show (16 * f (j / 16) i + f (j % 16) i) % 16 = f (j % 16) i from by omega]
            exact w2
          · rfl
        rw [this] at z; cases z
    · exact up j (hC j (by omega) hj2 z)
theorem nd_A_n {f : Nat → Nat → Nat} {g : Nat → Nat → Bool} {r : Nat} {a : Nat → Bool} (h : nd_A f g r 256 a) : nd_A f g (r + 1) 0 a :=
  ⟨h.1, fun j hj z => h.2.2 j hj hj z, fun j hj => by omega⟩
theorem nd_A_D {f : Nat → Nat → Nat} (hf : nd_F f) {g : Nat → Nat → Bool} {a : Nat → Bool} (h : nd_A f g 16 0 a) : ∀ j, j < 256 → a j = !nd_E f g 16 (j / 16) (j % 16) := by
  intro j hj
  cases w : nd_E f g 16 (j / 16) (j % 16)
  · rw [h.2.1 j hj w]; rfl
  · cases z : a j
    · rfl
    · obtain ⟨q, hq⟩ := h.1 j hj z
      rw [nd_E_stab hf q _ _ (by omega) (by omega) w] at hq
      cases hq
/-- the reference's least state -/
theorem nd_lk_Y {f : Nat → Nat → Nat} {g : Nat → Nat → Bool} {r s x : Nat} (h1 : nd_E f g r s x = true) (h2 : ∀ t, t < x → nd_E f g r s t = false) : x = nd_lk f g r s := by
  have a1 : nd_lk f g r s ≤ x := nd_lk_min (nd_E_y _ _ _ h1)
  rcases Nat.lt_or_ge (nd_lk f g r s) x with z | z
  · have := h2 _ z
    rw [nd_E_y _ _ _ (nd_lk_E r s)] at this
    cases this
  · omega
end
section
/-! cubes: pure -/
def nd_dg (c v : Nat) : Nat := c / 3 ^ v % 3
def nd_as (c : Nat) : Nat → Nat
  | 0 => 0
  | v + 1 => nd_as c v + nd_dg c v * 2 ^ v
def nd_v2 (c : Nat) : Nat := nd_fst (fun v => decide (nd_dg c v = 2)) 7
theorem nd_dg_lt (c v : Nat) : nd_dg c v < 3 := Nat.mod_lt _ (by decide)
theorem nd_p3 (v : Nat) : 0 < 3 ^ v := Nat.pow_pos (by decide)
theorem nd_dg2 {c v : Nat} (h : nd_dg c v = 2) : 2 * 3 ^ v ≤ c := by
  have h1 : 2 ≤ c / 3 ^ v := by
    have h2 : c / 3 ^ v % 3 = 2 := h
    revert h2
    generalize c / 3 ^ v = z
    omega
  exact (Nat.le_div_iff_mul_le (nd_p3 v)).mp h1
theorem nd_dgs (c v : Nat) : c / 3 ^ v / 3 = c / 3 ^ (v + 1) := by rw [Nat.div_div_eq_div_mul, Nat.pow_succ]
theorem nd_as_lt {c v : Nat} (h : ∀ u, u < v → nd_dg c u ≠ 2) : nd_as c v < 2 ^ v := by
  induction v with
  | zero => exact Nat.one_pos
  | succ v ih =>
    have h1 := ih (fun u hu => h u (by omega))
    have h2 := h v (by omega)
    have h3 := nd_dg_lt c v
    rw [nd_as, Nat.pow_succ]
    have h4 : nd_dg c v * 2 ^ v ≤ 1 * 2 ^ v := Nat.mul_le_mul_right _ (by omega)
    omega
theorem nd_wide {c v : Nat} (hc : c < 2187) (hv : v < 7) (h : nd_dg c v ≠ 2) : c + (2 - nd_dg c v) * 3 ^ v < 2187 := by
  unfold nd_dg at *
  have hv : v = 0 ∨ v = 1 ∨ v = 2 ∨ v = 3 ∨ v = 4 ∨ v = 5 ∨ v = 6 := by omega
  rcases hv with rfl | rfl | rfl | rfl | rfl | rfl | rfl <;> simp only [Nat.reducePow] at * <;> omega
def nd_impN (T : Nat → Bool) : Nat → Nat → Bool
  | 0, _ => false
  | n + 1, c => if nd_v2 c < 7 then nd_impN T n (c - 3 ^ nd_v2 c) && nd_impN T n (c - 2 * 3 ^ nd_v2 c) else T (nd_as c 7)
def nd_imp (T : Nat → Bool) (c : Nat) : Bool := nd_impN T (c + 1) c
theorem nd_v2_dg {c : Nat} (h : nd_v2 c < 7) : nd_dg c (nd_v2 c) = 2 := of_decide_eq_true (nd_fst_yes _ _ h)
theorem nd_impN_eq {T : Nat → Bool} : ∀ n m c, c < n → c < m → nd_impN T n c = nd_impN T m c := by
  intro n
  induction n with
  | zero => intro m c h; omega
  | succ n ih =>
    intro m c h h2
    obtain ⟨m, rfl⟩ : ∃ k, m = k + 1 := ⟨m - 1, by omega⟩
    rw [nd_impN, nd_impN]
    by_cases z : nd_v2 c < 7
    · have h3 := nd_dg2 (nd_v2_dg z)
      have h4 := nd_p3 (nd_v2 c)
      rw [if_pos z, if_pos z, ih m _ (by omega) (by omega), ih m (c - 2 * 3 ^ nd_v2 c) (by omega) (by omega)]
    · rw [if_neg z, if_neg z]
theorem nd_imp_eq (T : Nat → Bool) (c : Nat) : nd_imp T c = if nd_v2 c < 7 then nd_imp T (c - 3 ^ nd_v2 c) && nd_imp T (c - 2 * 3 ^ nd_v2 c) else T (nd_as c 7) := by
  unfold nd_imp
  rw [nd_impN]
  by_cases z : nd_v2 c < 7
  · have h3 := nd_dg2 (nd_v2_dg z)
    have h4 := nd_p3 (nd_v2 c)
    rw [if_pos z, if_pos z, nd_impN_eq c (c - 3 ^ nd_v2 c + 1) _ (by omega) (by omega), nd_impN_eq c (c - 2 * 3 ^ nd_v2 c + 1) (c - 2 * 3 ^ nd_v2 c) (by omega) (by omega)]
  · rw [if_neg z, if_neg z]
/-- the first digit 2 stands at v -/
theorem nd_imp_2 {T : Nat → Bool} {c v : Nat} (hv : v < 7) (h : ∀ u, u < v → nd_dg c u ≠ 2) (h2 : nd_dg c v = 2) : nd_imp T c = (nd_imp T (c - 3 ^ v) && nd_imp T (c - 2 * 3 ^ v)) := by
  have e : nd_v2 c = v := nd_fst_eq (by omega) (fun u hu => decide_eq_false (h u hu)) (fun _ => decide_eq_true h2)
  rw [nd_imp_eq, e, if_pos hv]
theorem nd_imp_0 {T : Nat → Bool} {c : Nat} (h : ∀ u, u < 7 → nd_dg c u ≠ 2) : nd_imp T c = T (nd_as c 7) := by
  have e : nd_v2 c = 7 := nd_fst_eq (Nat.le_refl _) (fun u hu => decide_eq_false (h u hu)) (fun z => absurd z (by omega))
  rw [nd_imp_eq, e, if_neg (by omega)]
theorem nd_imp_congr {T T' : Nat → Bool} (h : ∀ x, x < 128 → T x = T' x) : ∀ n c, nd_impN T n c = nd_impN T' n c := by
  intro n
  induction n with
  | zero => intro c; rfl
  | succ n ih =>
    intro c
    rw [nd_impN, nd_impN, ih, ih]
    by_cases z : nd_v2 c < 7
    · rw [if_pos z, if_pos z]
    · rw [if_neg z, if_neg z]
      refine h _ (nd_as_lt (v := 7) ?_)
      intro u hu
      have := nd_fst_le (fun v => decide (nd_dg c v = 2)) 7
      exact of_decide_eq_false (nd_fst_no (fun v => decide (nd_dg c v = 2)) 7 u (by unfold nd_v2 at z; omega))
/-- prime, by the implicants -/
def nd_pr (I : Nat → Bool) (c : Nat) : Bool := I c && nd_all (fun v => !(decide (nd_dg c v ≠ 2) && I (c + (2 - nd_dg c v) * 3 ^ v))) 7
def nd_q (T : Nat → Bool) (c : Nat) : Bool := nd_pr (nd_imp T) c
def nd_fit (c x : Nat) : Bool := nd_all (fun v => decide (nd_dg c v = 2) || (x.testBit v == decide (nd_dg c v = 1))) 7
def nd_cov (q : Nat → Bool) (x : Nat) : Nat := nd_cnt (fun c => q c && nd_fit c x) 2187
def nd_alone (q : Nat → Bool) (c : Nat) : Bool := nd_any (fun x => decide (nd_cov q x = 1) && nd_fit c x) 128
def nd_ess (q : Nat → Bool) : Nat := nd_cnt (fun c => q c && nd_alone q c) 2187
/-! the list of the prime cubes -/
theorem nd_cnt_s (q : Nat → Bool) (n : Nat) : nd_cnt q (n + 1) = nd_cnt q n + (if q n then 1 else 0) := rfl
theorem nd_cnt_t {q : Nat → Bool} {n : Nat} (h : q n = true) : nd_cnt q (n + 1) = nd_cnt q n + 1 := by rw [nd_cnt_s, h]; rfl
theorem nd_cnt_f {q : Nat → Bool} {n : Nat} (h : q n = false) : nd_cnt q (n + 1) = nd_cnt q n := by rw [nd_cnt_s, h]; rfl
theorem nd_cnt_up (q : Nat → Bool) {m n : Nat} (h : m ≤ n) : nd_cnt q m ≤ nd_cnt q n := by
  induction h with
  | refl => exact Nat.le_refl _
  | step _ ih => exact Nat.le_trans ih (by rw [nd_cnt]; omega)
theorem nd_cnt_at {q : Nat → Bool} {c n : Nat} (h : c < n) (hq : q c = true) : nd_cnt q c < nd_cnt q n := by
  have h1 := nd_cnt_up q (show c + 1 ≤ n from h)
  rw [nd_cnt_t hq] at h1
  omega
def nd_PL (q : Nat → Bool) (n : Nat) (pl : Nat → Nat) : Prop := ∀ c, c < n → q c = true → pl (nd_cnt q c) = c
theorem nd_pl_cnt {q : Nat → Bool} {pl : Nat → Nat} (h : Nat → Bool) : ∀ n, nd_PL q n pl → nd_cnt (fun k => h (pl k)) (nd_cnt q n) = nd_cnt (fun c => q c && h c) n := by
  intro n
  induction n with
  | zero => intro _; rfl
  | succ n ih =>
    intro hP
    have h1 := ih (fun c hc => hP c (by omega))
    cases hq : q n
    · rw [nd_cnt_f hq, h1, nd_cnt_f (q := fun c => q c && h c) (by rw [hq]; rfl)]
    · rw [nd_cnt_t hq, nd_cnt_s, h1, nd_cnt_s, hP n (by omega) hq, hq, Bool.true_and]
theorem nd_kth {q : Nat → Bool} {k : Nat} : ∀ n, k < nd_cnt q n → ∃ c, c < n ∧ q c = true ∧ nd_cnt q c = k := by
  intro n
  induction n with
  | zero => intro h; exact absurd h (Nat.not_lt_zero _)
  | succ n ih =>
    intro h
    rcases Nat.lt_or_ge k (nd_cnt q n) with z | z
    · obtain ⟨c, hc, h1, h2⟩ := ih z
      exact ⟨c, by omega, h1, h2⟩
    · cases hq : q n
      · rw [nd_cnt_f hq] at h; omega
      · rw [nd_cnt_t hq] at h
        exact ⟨n, by omega, hq, by omega⟩
/-! assignments, one variable set or cleared -/
def nd_on (x v : Nat) : Nat := x ||| 2 ^ v
def nd_off (x v : Nat) : Nat := (x ||| 2 ^ v) ^^^ 2 ^ v
def nd_wi (x v : Nat) (b : Bool) : Nat := if b then nd_on x v else nd_off x v
theorem nd_flip : ∀ x, x < 128 → ∀ v, v < 7 → nd_on x v < 128 ∧ nd_off x v < 128 ∧ x ^^^ 2 ^ v < 128 ∧ ((nd_on x v = x ∧ nd_off x v = x ^^^ 2 ^ v) ∨ (nd_on x v = x ^^^ 2 ^ v ∧ nd_off x v = x)) := by decide +kernel
theorem nd_wi_lt {x v : Nat} {b : Bool} (hx : x < 128) (hv : v < 7) : nd_wi x v b < 128 := by
  have h := nd_flip x hx v hv
  unfold nd_wi
  split
  · exact h.1
  · exact h.2.1
theorem nd_rise : ∀ x, x < 128 → ∀ v, v < 7 → x.testBit v = false → x + 2 ^ v = x ||| 2 ^ v ∧ x + 2 ^ v < 128 := by decide +kernel
def nd_sw (x v w : Nat) : Nat := if x.testBit v = x.testBit w then x else x ^^^ 2 ^ v ^^^ 2 ^ w
theorem nd_swap : ∀ v, v < 7 → ∀ w, w < 7 → ∀ x, x < 128 → nd_wi (nd_wi x v (x.testBit w)) w (x.testBit v) = nd_sw x v w ∧ nd_sw x v w < 128 := by decide +kernel
theorem nd_rest : ∀ k, k < 7 → ∀ p, p < 2 ^ k → ∀ r, r < 128 / 2 ^ k → r * 2 ^ k ||| p = r * 2 ^ k + p ∧ r * 2 ^ k + p < 128 ∧ (r ^^^ 1) * 2 ^ k ||| p = (r * 2 ^ k + p) ^^^ 2 ^ k ∧ (r * 2 ^ k + p) ^^^ 2 ^ k < 128 := by decide +kernel
/-! the function that a gate makes -/
def nd_gt (T : Nat → Nat → Bool) (kind a b c x : Nat) : Bool :=
  if kind = 0 then !T a x
  else if kind = 1 then T a x && T b x
  else if kind = 2 then T a x || T b x
  else if kind = 3 then T a x != T b x
  else if kind = 4 then (if T a x then T b x else T c x)
  else if kind = 5 then (if T a x then T b x || T c x else T b x && T c x)
  else if kind = 6 then T a x || T a (x ^^^ 2 ^ b)
  else if kind = 7 then T a x && T a (x ^^^ 2 ^ b)
  else if kind = 8 then T a (nd_wi x b (T c x))
  else T a (nd_wi x b (decide (c = 1)))
/-! questions -/
def nd_dep (T : Nat → Bool) (v : Nat) : Bool := nd_any (fun x => T x != T (x ^^^ 2 ^ v)) 128
def nd_da (T : Nat → Bool) (k p : Nat) : Bool := nd_any (fun r => T (r * 2 ^ k + p) != T ((r * 2 ^ k + p) ^^^ 2 ^ k)) (128 / 2 ^ k)
def nd_ap (T : Nat → Bool) (k p q : Nat) : Bool := nd_all (fun r => T (r * 2 ^ k + p) == T (r * 2 ^ k + q)) (128 / 2 ^ k)
def nd_pt (T : Nat → Bool) (k : Nat) : Nat := nd_cnt (fun p => nd_da T k p && nd_all (fun q => !nd_ap T k p q) p) (2 ^ k)
def nd_dc (T : Nat → Bool) : Nat := nd_sum (nd_pt T) 7
def nd_ri (T : Nat → Bool) (v n : Nat) : Bool := nd_any (fun x => !x.testBit v && (!T x && T (x ||| 2 ^ v))) n
def nd_fa (T : Nat → Bool) (v n : Nat) : Bool := nd_any (fun x => !x.testBit v && (T x && !T (x ||| 2 ^ v))) n
def nd_sh (T : Nat → Bool) (v n : Nat) : Nat := (if nd_ri T v n then 1 else 0) ||| (if nd_fa T v n then 2 else 0)
end
section
/-! the component: its small methods -/
section NDX
variable {xn xr xm xc xl : Int32} {xT xM xN xI xP xC xH xL xD xR xK xF : Nat → Int32}
def nd_T (t : Nat → Int32) (T : Nat → Nat → Bool) (n : Nat) : Prop := ∀ a x, a < n → x < 128 → t (a * 128 + x) = nd_b (T a x)
theorem nd_ix (a x : Nat) : nI a * 128 + nI x = nI (a * 128 + x) := by
  rw [show (128 : Int32) = nI 128 from rfl, pk_mul, nI_add]
theorem nd_ix8 (s i : Nat) : nI s * 8 + nI i = nI (s * 8 + i) := by
  rw [show (8 : Int32) = nI 8 from rfl, pk_mul, nI_add]
theorem nd_b10 {b : Bool} {post : Int32 → Prop} (hp : post (nd_b b)) : (nd_b b = 1 → post 1) ∧ (¬ nd_b b = 1 → post 0) := by
  cases b
  · exact br_f (by decide) hp
  · exact br_t rfl hp
theorem nd_b01 {b : Bool} {post : Int32 → Prop} (hp : post (nd_b b)) : (nd_b b = 0 → post 0) ∧ (¬ nd_b b = 0 → post 1) := by
  cases b
  · exact br_t rfl hp
  · exact br_f (by decide) hp
theorem nd_bq {b c : Bool} {A B : Prop} (f : b = c → A) (g : b ≠ c → B) : (nd_b b = nd_b c → A) ∧ (¬ nd_b b = nd_b c → B) :=
  ⟨fun z => f (nd_bi z), fun z => g (fun e => z (by rw [e]))⟩
theorem xa_bit {m k : Nat} (hm : m < 2 ^ 31) (hk : k < 32) {post : Int32 → Prop} (hp : post (nd_b (m.testBit k))) : wpX_bit post (nI m) (nI k) := by
  unfold wpX_bit
  rw [nd_bit hm hk]
  exact nd_b10 hp
theorem xa_T {T : Nat → Nat → Bool} {n a x : Nat} (hT : nd_T xT T n) (hn : n ≤ 32) (ha : a < n) (hx : x < 128) {post : Int32 → Prop} (hp : post (nd_b (T a x))) : wpX_isTrue post (xn, xr, xm, xc, xl, xT, xM, xN, xI, xP, xC, xH, xL, xD, xR, xK, xF) (nI a) (nI x) := by
  have c : (nI a * 128 + nI x).toNatClampNeg = a * 128 + x := by rw [nd_ix]; exact nI_clamp (by omega)
  have v : xT (nI a * 128 + nI x).toNatClampNeg = nd_b (T a x) := by rw [c]; exact hT a x ha hx
  refine ⟨by rw [nd_ix]; exact vp_in_nI (by omega) (by omega), ?_, ?_⟩
  · rw [v]; exact nd_bn _
  · rw [v]; exact hp
theorem xa_TI {T : Nat → Nat → Bool} {n a s i : Nat} (hT : nd_T xT T n) (hn : n ≤ 32) (ha : a < n) (hs : s < 16) (hi : i < 8) {post : Int32 → Prop} (hp : post (nd_b (T a (s * 8 + i)))) : wpX_isTrueIn post (xn, xr, xm, xc, xl, xT, xM, xN, xI, xP, xC, xH, xL, xD, xR, xK, xF) (nI a) (nI s) (nI i) := by
  have e : nI a * 128 + nI s * 8 + nI i = nI (a * 128 + (s * 8 + i)) := by
    rw [Int32.add_assoc, nd_ix8, nd_ix]
  have c : (nI a * 128 + nI s * 8 + nI i).toNatClampNeg = a * 128 + (s * 8 + i) := by rw [e]; exact nI_clamp (by omega)
  have v : xT (nI a * 128 + nI s * 8 + nI i).toNatClampNeg = nd_b (T a (s * 8 + i)) := by rw [c]; exact hT a _ ha (by omega)
  refine ⟨by rw [e]; exact vp_in_nI (by omega) (by omega), ?_, ?_⟩
  · rw [v]; exact nd_bn _
  · rw [v]; exact hp
theorem xa_cpy {T : Nat → Nat → Bool} {n a k : Nat} (hT : nd_T xT T n) (hn : n ≤ 32) (ha : a < n) (hk : k < 4) {post : SX → Prop}
    (h : ∀ t : Nat → Int32, (∀ x, x < 128 → t (k * 128 + x) = nd_b (T a x)) → (∀ j, j < k * 128 ∨ k * 128 + 128 ≤ j → t j = xN j) → post (xn, xr, xm, xc, xl, xT, xM, t, xI, xP, xC, xH, xL, xD, xR, xK, xF)) :
    wpX_copyToNext post (xn, xr, xm, xc, xl, xT, xM, xN, xI, xP, xC, xH, xL, xD, xR, xK, xF) (nI k) (nI a) := by
  refine loop_0 (fun n i s => wX_copyToNext_2 post (nI k) (nI a) xn xr xm xc xl n (nI i) xT xM s xI xP xC xH xL xD xR xK xF) (fun i s => (∀ x, x < i → s (k * 128 + x) = nd_b (T a x)) ∧ ∀ j, j < k * 128 ∨ k * 128 + i ≤ j → s j = xN j) 128 xN ⟨fun x hx => absurd hx (by omega), fun j _ => rfl⟩ ?_ ?_
  · intro m s hs
    exact br_t (nI_le (a := 128) (b := 128) (by omega) (by omega)) (h s hs.1 hs.2)
  · intro m i s hi hs ih
    refine br_f (nI_ge (a := i) (b := 128) hi (by omega)) (xa_T hT hn ha hi ?_)
    refine ⟨by rw [nd_ix]; exact vp_in_nI (by omega) (by omega), ?_⟩
    refine nm_r (e' := upd s (k * 128 + i) (nd_b (T a i))) (by rw [nd_ix, nI_clamp (by omega), nd_bv]) ?_
    refine nm_r (nI_1 i) ?_
    refine ih _ ⟨?_, ?_⟩
    · intro x hx
      by_cases z : x = i
      · rw [z]; exact pk_us
      · rw [pk_un (by omega)]; exact hs.1 x (by omega)
    · intro j hj
      rw [pk_un (by omega)]; exact hs.2 j (by omega)
/-- an int that is one of 0 .. n - 1 -/
def nd_in (p : Int32) (n : Nat) : Bool := decide (0 ≤ p.toInt ∧ p.toInt < n)
theorem nd_in_iff {p : Int32} {n : Nat} (hn : n < 2 ^ 31) : nd_in p n = true ↔ ∃ j, j < n ∧ p = nI j := by
  unfold nd_in
  rw [decide_eq_true_iff, ← vp_in_iff]
  constructor
  · intro h; exact vp_in_of h hn
  · rintro ⟨j, hj, rfl⟩; exact vp_in_nI hj hn
theorem nd_in_nI {j n : Nat} (hj : j < n) (hn : n < 2 ^ 31) : nd_in (nI j) n = true := (nd_in_iff hn).mpr ⟨j, hj, rfl⟩
theorem nd_in_f {p : Int32} {n : Nat} (hn : n < 2 ^ 31) (h : p < 0 ∨ nI n ≤ p) : nd_in p n = false := by
  cases z : nd_in p n
  · rfl
  · obtain ⟨j, hj, rfl⟩ := (nd_in_iff hn).mp z
    rcases h with h | h
    · exact absurd h (nI_pos (by omega))
    · exact absurd h (nI_ge hj hn)
/-- the shape of isNet, isVariable, isState, among -/
theorem nd_rng {p q : Int32} {n : Nat} (hq : q = nI n) (hn : n < 2 ^ 31) {post : Int32 → Prop} (hp : post (nd_b (nd_in p n))) :
    (p < 0 → post 0) ∧ (¬ p < 0 → ((q ≤ p → post 0) ∧ (¬ q ≤ p → post 1))) := by
  subst hq
  rcases pk_ix p hn with h | h | ⟨j, hj, rfl⟩
  · rw [nd_in_f hn (Or.inl h)] at hp
    exact br_t h hp
  · rw [nd_in_f hn (Or.inr h)] at hp
    have h0 : ¬ p < 0 := by
      intro z
      have := Int32.lt_of_lt_of_le z (nI_pos' (n := n) hn)
      exact absurd (Int32.lt_of_lt_of_le this h) Int32.lt_irrefl
    exact br_f h0 (br_t h hp)
  · rw [nd_in_nI hj hn] at hp
    exact br_f (nI_pos (by omega)) (br_f (nI_ge hj hn) hp)
theorem xa_net {n : Nat} {p : Int32} (hn : n ≤ 32) {post : Int32 → Prop} (hp : post (nd_b (nd_in p n))) : wpX_isNet post (nI n, xr, xm, xc, xl, xT, xM, xN, xI, xP, xC, xH, xL, xD, xR, xK, xF) p :=
  nd_rng rfl (by omega) hp
theorem xa_var {p : Int32} {post : Int32 → Prop} (hp : post (nd_b (nd_in p 7))) : wpX_isVariable post p :=
  nd_rng (n := 7) rfl (by omega) hp
theorem xa_sta {p : Int32} {post : Int32 → Prop} (hp : post (nd_b (nd_in p 16))) : wpX_isState post p :=
  nd_rng (n := 16) rfl (by omega) hp
end NDX
end
section
/-! the component: questions on one net -/
section NDX
variable {xn xr xm xc xl : Int32} {xT xM xN xI xP xC xH xL xD xR xK xF : Nat → Int32}
def nd_ls (p : Nat → Bool) (n : Nat) : Int32 := if nd_fst p n < n then nI (nd_fst p n) else -1
theorem nd_ls_t {p : Nat → Bool} {n i : Nat} (hi : i < n) (h : ∀ j, j < i → p j = false) (hp : p i = true) : nd_ls p n = nI i := by
  have e : nd_fst p n = i := nd_fst_eq (by omega) h (fun _ => hp)
  unfold nd_ls
  rw [e, if_pos hi]
theorem nd_ls_f {p : Nat → Bool} {n : Nat} (h : ∀ j, j < n → p j = false) : nd_ls p n = -1 := by
  have e : nd_fst p n = n := nd_fst_eq (Nat.le_refl _) h (fun z => absurd z (Nat.lt_irrefl _))
  unfold nd_ls
  rw [e, if_neg (Nat.lt_irrefl _)]
theorem nd_lts {i : Nat} {P : Nat → Prop} (h : ∀ j, j < i → P j) (hi : P i) : ∀ j, j < i + 1 → P j := by
  intro j hj
  by_cases z : j = i
  · rw [z]; exact hi
  · exact h j (by omega)
theorem nd_128 : (128 : Int32) ≤ nI 128 := nI_le (a := 128) (b := 128) (by omega) (by omega)
theorem nd_8 : (8 : Int32) ≤ nI 8 := nI_le (a := 8) (b := 8) (by omega) (by omega)
theorem nd_7 : (7 : Int32) ≤ nI 7 := nI_le (a := 7) (b := 7) (by omega) (by omega)
theorem nd_16 : (16 : Int32) ≤ nI 16 := nI_le (a := 16) (b := 16) (by omega) (by omega)
theorem nd_4 : (4 : Int32) ≤ nI 4 := nI_le (a := 4) (b := 4) (by omega) (by omega)
theorem nd_n128 {i : Nat} (h : i < 128) : ¬ (128 : Int32) ≤ nI i := nI_ge (b := 128) h (by omega)
theorem nd_n8 {i : Nat} (h : i < 8) : ¬ (8 : Int32) ≤ nI i := nI_ge (b := 8) h (by omega)
theorem nd_n7 {i : Nat} (h : i < 7) : ¬ (7 : Int32) ≤ nI i := nI_ge (b := 7) h (by omega)
theorem nd_n16 {i : Nat} (h : i < 16) : ¬ (16 : Int32) ≤ nI i := nI_ge (b := 16) h (by omega)
theorem nd_n4 {i : Nat} (h : i < 4) : ¬ (4 : Int32) ≤ nI i := nI_ge (b := 4) h (by omega)
theorem nd_shr128 : ∀ k, k < 8 → (128 : Int32) >>> (nI k &&& 31) = nI (128 / 2 ^ k) := by decide +kernel
theorem nd_shlN {r k : Nat} (hk : k < 32) (h : r * 2 ^ k < 2 ^ 32) : nI r <<< (nI k &&& 31) = nI (r * 2 ^ k) := pk_shlN _ k (s_l k hk) h
theorem nd_rk : ∀ k, k < 7 → ∀ r, r < 128 / 2 ^ k → r * 2 ^ k < 128 := by decide +kernel
theorem nd_pk : ∀ k, k < 7 → 2 ^ k ≤ 64 ∧ 128 / 2 ^ k ≤ 128 := by decide +kernel
theorem xb_cnt {T : Nat → Nat → Bool} {n a : Nat} (hT : nd_T xT T n) (hn : n ≤ 32) (ha : a < n) {post : Int32 → Prop} (hp : post (nI (nd_cnt (T a) 128))) : wpX_trueCount post (xn, xr, xm, xc, xl, xT, xM, xN, xI, xP, xC, xH, xL, xD, xR, xK, xF) (nI a) := by
  refine loop_0 (fun n i s => wX_trueCount_4 post (nI a) xn xr xm xc xl xT xM xN xI xP xC xH xL xD xR xK xF n s (nI i)) (fun i s => s = nI (nd_cnt (T a) i)) 128 0 rfl ?_ ?_
  · rintro m s rfl
    exact br_t nd_128 hp
  · rintro m i s hi rfl ih
    refine br_f (nd_n128 hi) (xa_T hT hn ha hi ?_)
    refine nd_br (fun z => ?_) (fun z => ?_)
    · refine nm_r (nI_1 i) (ih _ ?_)
      rw [nd_cnt_f z]
    · refine nm_r (nI_1 _) (nm_r (nI_1 i) (ih _ ?_))
      rw [nd_cnt_t z]
theorem xb_least {T : Nat → Nat → Bool} {n a : Nat} (hT : nd_T xT T n) (hn : n ≤ 32) (ha : a < n) {post : Int32 → Prop} (hp : post (nd_ls (T a) 128)) : wpX_leastTrue post (xn, xr, xm, xc, xl, xT, xM, xN, xI, xP, xC, xH, xL, xD, xR, xK, xF) (nI a) := by
  refine loop_0 (fun n i (_ : Unit) => wX_leastTrue_2 post (nI a) xn xr xm xc xl xT xM xN xI xP xC xH xL xD xR xK xF n (nI i)) (fun i _ => ∀ j, j < i → T a j = false) 128 () (fun j hj => absurd hj (by omega)) ?_ ?_
  · intro m _ h
    rw [nd_ls_f h] at hp
    exact br_t nd_128 hp
  · intro m i _ hi h ih
    refine br_f (nd_n128 hi) (xa_T hT hn ha hi ?_)
    refine nd_br (fun z => ?_) (fun z => ?_)
    · exact nm_r (nI_1 i) (ih () (nd_lts h z))
    · rw [nd_ls_t hi h z] at hp
      exact hp
theorem xb_sup1 {T : Nat → Nat → Bool} {n a v : Nat} (hT : nd_T xT T n) (hn : n ≤ 32) (ha : a < n) (hv : v < 7) {post : Int32 → Prop} {J : Int32 → Int32 → Prop}
    (hJ : J (nI (nd_m (nd_dep (T a)) (v + 1))) (nI (v + 1))) : ∃ m, wX_support_13 post J (nI a) (nI v) xn xr xm xc xl xT xM xN xI xP xC xH xL xD xR xK xF m (nI (nd_m (nd_dep (T a)) v)) 0 := by
  refine loop_0 (fun n i s => wX_support_13 post J (nI a) (nI v) xn xr xm xc xl xT xM xN xI xP xC xH xL xD xR xK xF n s (nI i)) (fun i s => s = nI (nd_m (nd_dep (T a)) v ||| (if nd_any (fun x => T a x != T a (x ^^^ 2 ^ v)) i then 2 ^ v else 0))) 128 _ (by rw [nd_any, if_neg Bool.false_ne_true, Nat.or_zero]) ?_ ?_
  · rintro m s rfl
    exact br_t nd_128 (nm_r (nI_1 v) hJ)
  · rintro m i s hi rfl ih
    refine br_f (nd_n128 hi) (xa_T hT hn ha hi ?_)
    rw [nd_shl v (by omega), nx_xor]
    refine xa_T hT hn ha (nd_flip i hi v hv).2.2.1 ?_
    refine nd_bq (fun z => ?_) (fun z => ?_)
    · refine nm_r (nI_1 i) (ih _ ?_)
      rw [nd_any, z, bne_self_eq_false, Bool.or_false]
    · refine nm_r (nd_or _ _) (nm_r (nI_1 i) (ih _ ?_))
      have z2 : (T a i != T a (i ^^^ 2 ^ v)) = true := bne_iff_ne.mpr z
      rw [nd_any, z2, Bool.or_true, if_pos rfl, Nat.or_assoc]
      split
      · rw [Nat.or_self]
      · rw [Nat.zero_or]
theorem xb_sup {T : Nat → Nat → Bool} {n a : Nat} (hT : nd_T xT T n) (hn : n ≤ 32) (ha : a < n) {post : Int32 → Prop} (hp : post (nI (nd_m (nd_dep (T a)) 7))) : wpX_support post (xn, xr, xm, xc, xl, xT, xM, xN, xI, xP, xC, xH, xL, xD, xR, xK, xF) (nI a) := by
  refine loop_0 (fun n i s => wX_support_4 post (nI a) xn xr xm xc xl xT xM xN xI xP xC xH xL xD xR xK xF n s (nI i)) (fun i s => s = nI (nd_m (nd_dep (T a)) i)) 7 0 rfl ?_ ?_
  · rintro m s rfl
    exact br_t nd_7 hp
  · rintro m i s hi rfl ih
    exact br_f (nd_n7 hi) (xb_sup1 hT hn ha hi (ih _ rfl))
theorem xb_da {T : Nat → Nat → Bool} {n a k p : Nat} (hT : nd_T xT T n) (hn : n ≤ 32) (ha : a < n) (hk : k < 7) (hp : p < 2 ^ k) {post : Int32 → Prop} (h : post (nd_b (nd_da (T a) k p))) : wpX_dependsAfter post (xn, xr, xm, xc, xl, xT, xM, xN, xI, xP, xC, xH, xL, xD, xR, xK, xF) (nI a) (nI k) (nI p) := by
  have h128 := nd_pk k hk
  refine loop_0 (fun n i (_ : Unit) => wX_dependsAfter_3 post (nI a) (nI k) (nI p) xn xr xm xc xl xT xM xN xI xP xC xH xL xD xR xK xF n (nI i)) (fun i _ => ∀ r, r < i → (T a (r * 2 ^ k + p) != T a ((r * 2 ^ k + p) ^^^ 2 ^ k)) = false) (128 / 2 ^ k) () (fun j hj => absurd hj (by omega)) ?_ ?_
  · intro m _ z
    have e : nd_da (T a) k p = false := nd_any_f z
    rw [e] at h
    refine br_t ?_ h
    rw [nd_shr128 k (by omega)]
    exact nI_le (Nat.le_refl _) (by omega)
  · intro m i _ hi z ih
    have hr := nd_rest k hk p hp i hi
    refine br_f ?_ ?_
    · rw [nd_shr128 k (by omega)]
      exact nI_ge hi (by omega)
    · refine nm_r (e' := nI (i * 2 ^ k + p)) (by rw [nd_shlN (by omega) (by omega), nI_add]) ?_
      refine xa_T hT hn ha hr.2.1 ?_
      rw [nd_shl k (by omega), nx_xor]
      refine xa_T hT hn ha hr.2.2.2 ?_
      refine nd_bq (fun w => ?_) (fun w => ?_)
      · refine nm_r (nI_1 i) (ih () (nd_lts z ?_))
        rw [w]; exact bne_self_eq_false _
      · have e : nd_da (T a) k p = true := nd_any_iff.mpr ⟨i, hi, bne_iff_ne.mpr w⟩
        rw [e] at h
        exact h
theorem xb_fs1 {T : Nat → Nat → Bool} {n a k p q : Nat} (hT : nd_T xT T n) (hn : n ≤ 32) (ha : a < n) (hk : k < 7) (hp : p < 2 ^ k) (hq : q < 2 ^ k) {post : Int32 → Prop} {J : Int32 → Prop}
    (h0 : nd_ap (T a) k p q = false → J (nI (q + 1))) (h1 : nd_ap (T a) k p q = true → post 0) : ∃ m, wX_isFirstSuch_15 post J (nI a) (nI k) (nI p) (nI q) xn xr xm xc xl xT xM xN xI xP xC xH xL xD xR xK xF m 1 0 := by
  have h128 := nd_pk k hk
  refine loop_0 (fun n i s => wX_isFirstSuch_15 post J (nI a) (nI k) (nI p) (nI q) xn xr xm xc xl xT xM xN xI xP xC xH xL xD xR xK xF n s (nI i)) (fun i s => s = nd_b (nd_all (fun r => T a (r * 2 ^ k + p) == T a (r * 2 ^ k + q)) i)) (128 / 2 ^ k) 1 rfl ?_ ?_
  · rintro m s rfl
    refine br_t ?_ ?_
    · rw [nd_shr128 k (by omega)]
      exact nI_le (Nat.le_refl _) (by omega)
    · exact nd_br (fun z => nm_r (nI_1 q) (h0 z)) h1
  · rintro m i s hi rfl ih
    have hr := nd_rest k hk p hp i hi
    have hr2 := nd_rest k hk q hq i hi
    refine br_f ?_ ?_
    · rw [nd_shr128 k (by omega)]
      exact nI_ge hi (by omega)
    · refine nm_r (e' := nI (i * 2 ^ k)) (nd_shlN (by omega) (by omega)) ?_
      rw [nI_add, nI_add]
      refine xa_T hT hn ha hr2.2.1 ?_
      refine xa_T hT hn ha hr.2.1 ?_
      refine nd_bq (fun w => ?_) (fun w => ?_)
      · refine nm_r (nI_1 i) (ih _ ?_)
        rw [nd_all, w, BEq.rfl, Bool.and_true]
      · refine nm_r (nI_1 i) (ih 0 ?_)
        have w2 : (T a (i * 2 ^ k + p) == T a (i * 2 ^ k + q)) = false := beq_eq_false_iff_ne.mpr (fun e => w e.symm)
        rw [nd_all, w2, Bool.and_false]
        rfl
theorem xb_fs {T : Nat → Nat → Bool} {n a k p : Nat} (hT : nd_T xT T n) (hn : n ≤ 32) (ha : a < n) (hk : k < 7) (hp : p < 2 ^ k) {post : Int32 → Prop} (h : post (nd_b (nd_all (fun q => !nd_ap (T a) k p q) p))) : wpX_isFirstSuch post (xn, xr, xm, xc, xl, xT, xM, xN, xI, xP, xC, xH, xL, xD, xR, xK, xF) (nI a) (nI k) (nI p) := by
  have h64 := nd_pk k hk
  refine loop_0 (fun n i (_ : Unit) => wX_isFirstSuch_3 post (nI a) (nI k) (nI p) xn xr xm xc xl xT xM xN xI xP xC xH xL xD xR xK xF n (nI i)) (fun i _ => ∀ q, q < i → (!nd_ap (T a) k p q) = true) p () (fun j hj => absurd hj (by omega)) ?_ ?_
  · intro m _ z
    rw [nd_all_iff.mpr z] at h
    exact br_t (nI_le (Nat.le_refl _) (by omega)) h
  · intro m i _ hi z ih
    refine br_f (nI_ge hi (by omega)) (xb_fs1 hT hn ha hk hp (by omega) (fun w => ih () (nd_lts z ?_)) (fun w => ?_))
    · rw [w]; rfl
    · have e : nd_all (fun q => !nd_ap (T a) k p q) p = false := nd_all_f hi (by rw [w]; rfl)
      rw [e] at h
      exact h
theorem xb_dc1 {T : Nat → Nat → Bool} {n a k c : Nat} (hT : nd_T xT T n) (hn : n ≤ 32) (ha : a < n) (hk : k < 7) {post : Int32 → Prop} {J : Int32 → Int32 → Prop}
    (hJ : J (nI (c + nd_pt (T a) k)) (nI (k + 1))) : ∃ m, wX_decisionCount_13 post J (nI a) (nI k) xn xr xm xc xl xT xM xN xI xP xC xH xL xD xR xK xF m (nI c) 0 := by
  have h64 := nd_pk k hk
  refine loop_0 (fun n i s => wX_decisionCount_13 post J (nI a) (nI k) xn xr xm xc xl xT xM xN xI xP xC xH xL xD xR xK xF n s (nI i)) (fun i s => s = nI (c + nd_cnt (fun p => nd_da (T a) k p && nd_all (fun q => !nd_ap (T a) k p q) p) i)) (2 ^ k) (nI c) rfl ?_ ?_
  · rintro m s rfl
    refine br_t ?_ (nm_r (nI_1 k) hJ)
    rw [nd_shl k (by omega)]
    exact nI_le (Nat.le_refl _) (by omega)
  · rintro m i s hi rfl ih
    refine br_f ?_ ?_
    · rw [nd_shl k (by omega)]
      exact nI_ge hi (by omega)
    · refine xb_da hT hn ha hk hi ?_
      refine nd_br (fun z => ?_) (fun z => ?_)
      · refine nm_r (nI_1 i) (ih _ ?_)
        rw [nd_cnt_f (q := fun p => nd_da (T a) k p && nd_all (fun q => !nd_ap (T a) k p q) p) (by rw [z]; rfl)]
      · refine xb_fs hT hn ha hk hi ?_
        refine nd_br (fun w => ?_) (fun w => ?_)
        · refine nm_r (nI_1 i) (ih _ ?_)
          rw [nd_cnt_f (q := fun p => nd_da (T a) k p && nd_all (fun q => !nd_ap (T a) k p q) p) (by rw [z, w]; rfl)]
        · refine nm_r (nI_1 _) (nm_r (nI_1 i) (ih _ ?_))
          rw [nd_cnt_t (q := fun p => nd_da (T a) k p && nd_all (fun q => !nd_ap (T a) k p q) p) (by rw [z, w]; rfl), Nat.add_assoc]
theorem xb_dc {T : Nat → Nat → Bool} {n a : Nat} (hT : nd_T xT T n) (hn : n ≤ 32) (ha : a < n) {post : Int32 → Prop} (hp : post (nI (nd_dc (T a)))) : wpX_decisionCount post (xn, xr, xm, xc, xl, xT, xM, xN, xI, xP, xC, xH, xL, xD, xR, xK, xF) (nI a) := by
  refine loop_0 (fun n i s => wX_decisionCount_4 post (nI a) xn xr xm xc xl xT xM xN xI xP xC xH xL xD xR xK xF n s (nI i)) (fun i s => s = nI (nd_sum (nd_pt (T a)) i)) 7 0 rfl ?_ ?_
  · rintro m s rfl
    exact br_t nd_7 hp
  · rintro m i s hi rfl ih
    exact br_f (nd_n7 hi) (xb_dc1 hT hn ha hi (ih _ rfl))
theorem xb_shape {T : Nat → Nat → Bool} {n a v : Nat} (hT : nd_T xT T n) (hn : n ≤ 32) (ha : a < n) (hv : v < 7) {post : Int32 → Prop} (hp : post (nI (nd_sh (T a) v 128))) : ∃ m, wX_shape_22 post (nI a) (nI v) xn xr xm xc xl xT xM xN xI xP xC xH xL xD xR xK xF m 0 0 := by
  refine loop_0 (fun n i s => wX_shape_22 post (nI a) (nI v) xn xr xm xc xl xT xM xN xI xP xC xH xL xD xR xK xF n s (nI i)) (fun i s => s = nI (nd_sh (T a) v i)) 128 0 (congrArg nI (show 0 = nd_sh (T a) v 0 from by unfold nd_sh nd_ri nd_fa; rw [nd_any, nd_any]; rfl)) ?_ ?_
  · rintro m s rfl
    exact br_t nd_128 hp
  · rintro m i s hi rfl ih
    refine br_f (nd_n128 hi) (xa_bit (by omega) (by omega) ?_)
    refine nd_br (fun z => ?_) (fun z => ?_)
    · have hr := nd_rise i hi v hv z
      refine xa_T hT hn ha hi ?_
      rw [nd_shl v (by omega), nI_add, hr.1]
      refine xa_T hT hn ha (by omega) ?_
      have key : nd_sh (T a) v (i + 1) = nd_sh (T a) v i ||| ((if (!T a i && T a (i ||| 2 ^ v)) then 1 else 0) ||| (if (T a i && !T a (i ||| 2 ^ v)) then 2 else 0)) := by
        unfold nd_sh nd_ri nd_fa
        rw [nd_any, nd_any, z]
        generalize nd_any (fun x => !x.testBit v && (!T a x && T a (x ||| 2 ^ v))) i = A
        generalize nd_any (fun x => !x.testBit v && (T a x && !T a (x ||| 2 ^ v))) i = B
        cases A <;> cases B <;> cases T a i <;> cases T a (i ||| 2 ^ v) <;> rfl
      refine nd_br (fun w => ?_) (fun w => ?_)
      · refine nd_br (fun w2 => ?_) (fun w2 => ?_)
        · unfold wX_shape_75
          rw [w, w2] at key
          refine nd_br (fun _ => nm_r (nI_1 i) (ih _ ?_)) (fun y => absurd y (by rw [w]; decide))
          rw [key]; exact congrArg nI (Nat.or_zero _).symm
        · rw [w, w2] at key
          refine nm_r (nd_or _ 1) ?_
          unfold wX_shape_75
          refine nd_br (fun _ => nm_r (nI_1 i) (ih _ ?_)) (fun y => absurd y (by rw [w]; decide))
          rw [key]; rfl
      · unfold wX_shape_75
        refine nd_br (fun y => absurd y (by rw [w]; decide)) (fun _ => ?_)
        refine nd_br (fun w2 => ?_) (fun w2 => ?_)
        · rw [w, w2] at key
          refine nm_r (nd_or _ 2) (nm_r (nI_1 i) (ih _ ?_))
          rw [key]; rfl
        · rw [w, w2] at key
          refine nm_r (nI_1 i) (ih _ ?_)
          rw [key]; exact congrArg nI (Nat.or_zero _).symm
    · refine nm_r (nI_1 i) (ih _ ?_)
      unfold nd_sh nd_ri nd_fa
      rw [nd_any, nd_any, z]
      simp only [Bool.not_true, Bool.false_and, Bool.or_false]
theorem xb_same {T : Nat → Nat → Bool} {n a v w : Nat} (hT : nd_T xT T n) (hn : n ≤ 32) (ha : a < n) (hv : v < 7) (hw : w < 7) {post : Int32 → Prop} (hp : post (nd_b (nd_all (fun x => T a x == T a (nd_sw x v w)) 128))) : ∃ m, wX_same_27 post (nI a) (nI v) (nI w) xn xr xm xc xl xT xM xN xI xP xC xH xL xD xR xK xF m 0 := by
  refine loop_0 (fun n i (_ : Unit) => wX_same_27 post (nI a) (nI v) (nI w) xn xr xm xc xl xT xM xN xI xP xC xH xL xD xR xK xF n (nI i)) (fun i _ => ∀ x, x < i → (T a x == T a (nd_sw x v w)) = true) 128 () (fun j hj => absurd hj (by omega)) ?_ ?_
  · intro m _ z
    rw [nd_all_iff.mpr z] at hp
    exact br_t nd_128 hp
  · intro m i _ hi z ih
    have key : wX_same_65 post (wX_same_27 post (nI a) (nI v) (nI w) xn xr xm xc xl xT xM xN xI xP xC xH xL xD xR xK xF m) (nI a) (nI v) (nI w) (nI i) (nI (nd_sw i v w)) xn xr xm xc xl xT xM xN xI xP xC xH xL xD xR xK xF := by
      unfold wX_same_65
      refine xa_T hT hn ha hi (xa_T hT hn ha (nd_swap v hv w hw i hi).2 ?_)
      refine nd_bq (fun e => nm_r (nI_1 i) (ih () (nd_lts z ?_))) (fun e => ?_)
      · rw [e]; exact BEq.rfl
      · have e2 : nd_all (fun x => T a x == T a (nd_sw x v w)) 128 = false := nd_all_f hi (beq_eq_false_iff_ne.mpr e)
        rw [e2] at hp
        exact hp
    refine br_f (nd_n128 hi) (xa_bit (by omega) (by omega) (xa_bit (by omega) (by omega) ?_))
    refine nd_bq (fun e => ?_) (fun e => ?_)
    · have e2 : nd_sw i v w = i := if_pos e
      rw [e2] at key
      exact key
    · have e2 : nd_sw i v w = i ^^^ 2 ^ v ^^^ 2 ^ w := if_neg e
      rw [e2] at key
      rw [nd_shl v (by omega), nd_shl w (by omega), nx_xor, nx_xor]
      exact key
end NDX
end
section
/-! the component: gate -/
section NDX
variable {xn xr xm xc xl : Int32} {xT xM xN xI xP xC xH xL xD xR xK xF : Nat → Int32}
theorem nd_big {p : Int32} {n : Nat} (hn : n < 2 ^ 31) (h : nI n ≤ p) : ∃ j, n ≤ j ∧ j < 2 ^ 31 ∧ p = nI j := by
  have h0 : ¬ p < 0 := by
    intro z
    have := Int32.lt_of_lt_of_le z (nI_pos' (n := n) hn)
    exact absurd (Int32.lt_of_lt_of_le this h) Int32.lt_irrefl
  obtain ⟨j, hj, rfl⟩ := nI_of h0
  exact ⟨j, (nI_leI hn hj).mp h, hj, rfl⟩
theorem nd_and {b c : Bool} {post : Int32 → Prop} {A : Prop} (hp : post (nd_b (b && c))) (f : post (nd_b c) → A) : (nd_b b = 0 → post 0) ∧ (¬ nd_b b = 0 → A) := by
  cases b
  · exact br_t rfl hp
  · exact br_f (by decide) (f hp)
def nd_lg (n j : Nat) (p1 p2 p3 : Int32) : Bool :=
  if j = 0 then nd_in p1 n
  else if j ≤ 3 then nd_in p1 n && nd_in p2 n
  else if j ≤ 5 then nd_in p1 n && (nd_in p2 n && nd_in p3 n)
  else if j ≤ 7 then nd_in p1 n && nd_in p2 7
  else if j = 8 then nd_in p1 n && (nd_in p2 7 && nd_in p3 n)
  else nd_in p1 n && (nd_in p2 7 && (decide (p3 = 0) || decide (p3 = 1)))
theorem nd_p01 {p : Int32} {post : Int32 → Prop} (hp : post (nd_b (decide (p = 0) || decide (p = 1)))) : (p = 0 → post 1) ∧ (¬ p = 0 → ((p = 1 → post 1) ∧ (¬ p = 1 → post 0))) := by
  by_cases h : p = 0
  · rw [decide_eq_true h, Bool.true_or] at hp
    exact br_t h hp
  · rw [decide_eq_false h, Bool.false_or] at hp
    by_cases h1 : p = 1
    · rw [decide_eq_true h1] at hp
      exact br_f h (br_t h1 hp)
    · rw [decide_eq_false h1] at hp
      exact br_f h (br_f h1 hp)
theorem nd_10 {j : Nat} (h : j < 10) : j = 0 ∨ j = 1 ∨ j = 2 ∨ j = 3 ∨ j = 4 ∨ j = 5 ∨ j = 6 ∨ j = 7 ∨ j = 8 ∨ j = 9 := by omega
theorem xc_62 {n : Nat} {p q : Int32} (hn : n ≤ 32) {post : Int32 → Prop} (hp : post (nd_b (nd_in p n && nd_in q n))) : wX_fitsGate_62 post p q (nI n) xr xm xc xl xT xM xN xI xP xC xH xL xD xR xK xF :=
  xa_net hn (nd_and hp (fun hp => xa_net hn (nd_b01 hp)))
theorem xc_84 {n : Nat} {p q r : Int32} (hn : n ≤ 32) {post : Int32 → Prop} (hp : post (nd_b (nd_in p n && (nd_in q n && nd_in r n)))) : wX_fitsGate_84 post p q r (nI n) xr xm xc xl xT xM xN xI xP xC xH xL xD xR xK xF :=
  xa_net hn (nd_and hp (fun hp => xa_net hn (nd_and hp (fun hp => xa_net hn (nd_b01 hp)))))
theorem xc_115 {n : Nat} {p q : Int32} (hn : n ≤ 32) {post : Int32 → Prop} (hp : post (nd_b (nd_in p n && nd_in q 7))) : wX_fitsGate_115 post p q (nI n) xr xm xc xl xT xM xN xI xP xC xH xL xD xR xK xF :=
  xa_net hn (nd_and hp (fun hp => xa_var (nd_b01 hp)))
theorem xc_fits {n : Nat} {p0 p1 p2 p3 : Int32} (hn : n ≤ 32) {post : Int32 → Prop} (hp : post (nd_b (nd_in p0 10 && nd_lg n p0.toNatClampNeg p1 p2 p3))) : wpX_fitsGate post (nI n, xr, xm, xc, xl, xT, xM, xN, xI, xP, xC, xH, xL, xD, xR, xK, xF) p0 p1 p2 p3 := by
  rcases pk_ix p0 (n := 10) (by omega) with h | h | ⟨j, hj, rfl⟩
  · rw [nd_in_f (by omega) (Or.inl h), Bool.false_and] at hp
    exact br_t h hp
  · rw [nd_in_f (by omega) (Or.inr h), Bool.false_and] at hp
    obtain ⟨j, h1, h2, rfl⟩ := nd_big (by omega) h
    exact br_f (nI_pos h2) (br_t (nI_lt (a := 9) (by omega) h2) hp)
  · rw [nd_in_nI hj (by omega), Bool.true_and, nI_clamp (by omega)] at hp
    rcases nd_10 hj with rfl | rfl | rfl | rfl | rfl | rfl | rfl | rfl | rfl | rfl
    · exact br_f (by decide) (br_f (by decide) (br_t (by decide) (xa_net hn ⟨nd_bn _, hp⟩)))
    · exact br_f (by decide) (br_f (by decide) (br_f (by decide) (br_t (by decide) (xc_62 hn hp))))
    · exact br_f (by decide) (br_f (by decide) (br_f (by decide) (br_f (by decide) (br_t (by decide) (xc_62 hn hp)))))
    · exact br_f (by decide) (br_f (by decide) (br_f (by decide) (br_f (by decide) (br_f (by decide) (br_t (by decide) (xc_62 hn hp))))))
    · exact br_f (by decide) (br_f (by decide) (br_f (by decide) (br_f (by decide) (br_f (by decide) (br_f (by decide) (br_t (by decide) (xc_84 hn hp)))))))
    · exact br_f (by decide) (br_f (by decide) (br_f (by decide) (br_f (by decide) (br_f (by decide) (br_f (by decide) (br_f (by decide) (br_t (by decide) (xc_84 hn hp))))))))
    · exact br_f (by decide) (br_f (by decide) (br_f (by decide) (br_f (by decide) (br_f (by decide) (br_f (by decide) (br_f (by decide) (br_f (by decide) (br_t (by decide) (xc_115 hn hp)))))))))
    · exact br_f (by decide) (br_f (by decide) (br_f (by decide) (br_f (by decide) (br_f (by decide) (br_f (by decide) (br_f (by decide) (br_f (by decide) (br_f (by decide) (br_t (by decide) (xc_115 hn hp))))))))))
    · exact br_f (by decide) (br_f (by decide) (br_f (by decide) (br_f (by decide) (br_f (by decide) (br_f (by decide) (br_f (by decide) (br_f (by decide) (br_f (by decide) (br_f (by decide) (br_t (by decide) (xa_net hn (nd_and hp (fun hp => xa_var (nd_and hp (fun hp => xa_net hn (nd_b01 hp))))))))))))))))
    · exact br_f (by decide) (br_f (by decide) (br_f (by decide) (br_f (by decide) (br_f (by decide) (br_f (by decide) (br_f (by decide) (br_f (by decide) (br_f (by decide) (br_f (by decide) (br_f (by decide) (br_t (by decide) (xa_net hn (nd_and hp (fun hp => xa_var (nd_and hp (fun hp => nd_p01 hp))))))))))))))))
theorem xc_joined {T : Nat → Nat → Bool} {n j a b c x : Nat} {p2 p3 : Int32} (hT : nd_T xT T n) (hn : n ≤ 32) (hj : j < 6) (ha : a < n) (hb : 1 ≤ j → b < n ∧ p2 = nI b) (hc : 4 ≤ j → c < n ∧ p3 = nI c) (hx : x < 128) {post : Int32 → Prop} (hp : post (nd_b (nd_gt T j a b c x))) : wpX_joined post (xn, xr, xm, xc, xl, xT, xM, xN, xI, xP, xC, xH, xL, xD, xR, xK, xF) (nI j) (nI a) p2 p3 (nI x) := by
  unfold wpX_joined
  dsimp only
  have hj : j = 0 ∨ j = 1 ∨ j = 2 ∨ j = 3 ∨ j = 4 ∨ j = 5 := by omega
  rcases hj with rfl | rfl | rfl | rfl | rfl | rfl
  · have e : nd_gt T 0 a b c x = !T a x := rfl
    rw [e] at hp
    refine xa_T hT hn ha hx ?_
    refine br_t (by decide) ?_
    revert hp
    generalize T a x = A
    cases A <;> intro hp <;> (repeat (first | exact hp | refine br_t (by decide) ?_ | refine br_f (by decide) ?_))
  · obtain ⟨hb', rfl⟩ := hb (by omega)
    have e : nd_gt T 1 a b c x = (T a x && T b x) := rfl
    rw [e] at hp
    refine xa_T hT hn ha hx ?_
    refine br_f (by decide) ?_
    refine xa_T hT hn hb' hx ?_
    refine br_t (by decide) ?_
    revert hp
    generalize T a x = A
    generalize T b x = B
    cases A <;> cases B <;> intro hp <;> (repeat (first | exact hp | refine br_t (by decide) ?_ | refine br_f (by decide) ?_))
  · obtain ⟨hb', rfl⟩ := hb (by omega)
    have e : nd_gt T 2 a b c x = (T a x || T b x) := rfl
    rw [e] at hp
    refine xa_T hT hn ha hx ?_
    refine br_f (by decide) ?_
    refine xa_T hT hn hb' hx ?_
    refine br_f (by decide) ?_
    refine br_t (by decide) ?_
    revert hp
    generalize T a x = A
    generalize T b x = B
    cases A <;> cases B <;> intro hp <;> (repeat (first | exact hp | refine br_t (by decide) ?_ | refine br_f (by decide) ?_))
  · obtain ⟨hb', rfl⟩ := hb (by omega)
    have e : nd_gt T 3 a b c x = (T a x != T b x) := rfl
    rw [e] at hp
    refine xa_T hT hn ha hx ?_
    refine br_f (by decide) ?_
    refine xa_T hT hn hb' hx ?_
    refine br_f (by decide) ?_
    refine br_f (by decide) ?_
    refine br_t (by decide) ?_
    revert hp
    generalize T a x = A
    generalize T b x = B
    cases A <;> cases B <;> intro hp <;> (repeat (first | exact hp | refine br_t (by decide) ?_ | refine br_f (by decide) ?_))
  · obtain ⟨hb', rfl⟩ := hb (by omega)
    obtain ⟨hc', rfl⟩ := hc (by omega)
    have e : nd_gt T 4 a b c x = (if T a x then T b x else T c x) := rfl
    rw [e] at hp
    refine xa_T hT hn ha hx ?_
    refine br_f (by decide) ?_
    refine xa_T hT hn hb' hx ?_
    refine br_f (by decide) ?_
    refine br_f (by decide) ?_
    refine br_f (by decide) ?_
    refine xa_T hT hn hc' hx ?_
    refine br_t (by decide) ?_
    revert hp
    generalize T a x = A
    generalize T b x = B
    generalize T c x = C
    cases A <;> cases B <;> cases C <;> intro hp <;> (repeat (first | exact hp | refine br_t (by decide) ?_ | refine br_f (by decide) ?_ | refine ⟨by rfl, ?_⟩))
  · obtain ⟨hb', rfl⟩ := hb (by omega)
    obtain ⟨hc', rfl⟩ := hc (by omega)
    have e : nd_gt T 5 a b c x = (if T a x then T b x || T c x else T b x && T c x) := rfl
    rw [e] at hp
    refine xa_T hT hn ha hx ?_
    refine br_f (by decide) ?_
    refine xa_T hT hn hb' hx ?_
    refine br_f (by decide) ?_
    refine br_f (by decide) ?_
    refine br_f (by decide) ?_
    refine xa_T hT hn hc' hx ?_
    refine br_f (by decide) ?_
    revert hp
    generalize T a x = A
    generalize T b x = B
    generalize T c x = C
    cases A <;> cases B <;> cases C <;> intro hp <;> (repeat (first | exact hp | refine br_t (by decide) ?_ | refine br_f (by decide) ?_))
theorem nd_g6 {T : Nat → Nat → Bool} {a v c x : Nat} (hx : x < 128) (hv : v < 7) : nd_gt T 6 a v c x = (T a (nd_on x v) || T a (nd_off x v)) := by
  have e : nd_gt T 6 a v c x = (T a x || T a (x ^^^ 2 ^ v)) := rfl
  rw [e]
  rcases (nd_flip x hx v hv).2.2.2 with ⟨h1, h2⟩ | ⟨h1, h2⟩
  · rw [h1, h2]
  · rw [h1, h2, Bool.or_comm]
theorem nd_g7 {T : Nat → Nat → Bool} {a v c x : Nat} (hx : x < 128) (hv : v < 7) : nd_gt T 7 a v c x = (T a (nd_on x v) && T a (nd_off x v)) := by
  have e : nd_gt T 7 a v c x = (T a x && T a (x ^^^ 2 ^ v)) := rfl
  rw [e]
  rcases (nd_flip x hx v hv).2.2.2 with ⟨h1, h2⟩ | ⟨h1, h2⟩
  · rw [h1, h2]
  · rw [h1, h2, Bool.and_comm]
theorem xc_108 {T : Nat → Nat → Bool} {n a v x : Nat} {b : Bool} (hT : nd_T xT T n) (hn : n ≤ 32) (ha : a < n) (hv : v < 7) (hx : x < 128) {post : Int32 → Prop} (hp : post (nd_b (T a (nd_wi x v b)))) : wX_moved_108 post (nI a) (nI (nd_on x v)) (nI (nd_off x v)) (nd_b b) xn xr xm xc xl xT xM xN xI xP xC xH xL xD xR xK xF := by
  have hf := nd_flip x hx v hv
  cases b
  · exact br_t rfl (xa_T hT hn ha hf.2.1 ⟨nd_bn _, hp⟩)
  · exact br_f (by decide) (xa_T hT hn ha hf.1 ⟨nd_bn _, hp⟩)
theorem xc_moved {T : Nat → Nat → Bool} {n j a v c x : Nat} {p3 : Int32} (hT : nd_T xT T n) (hn : n ≤ 32) (hj : 6 ≤ j) (hj2 : j < 10) (ha : a < n) (hv : v < 7) (hc : 8 ≤ j → p3 = nI c ∧ (j = 8 → c < n) ∧ (j = 9 → c < 2)) (hx : x < 128) {post : Int32 → Prop} (hp : post (nd_b (nd_gt T j a v c x))) : wpX_moved post (xn, xr, xm, xc, xl, xT, xM, xN, xI, xP, xC, xH, xL, xD, xR, xK, xF) (nI j) (nI a) (nI v) p3 (nI x) := by
  have hf := nd_flip x hx v hv
  refine nm_r (e' := nI (nd_on x v)) (by rw [nd_shl v (by omega), nd_or]; rfl) ?_
  refine nm_r (e' := nI (nd_off x v)) (by rw [nd_shl v (by omega), nx_xor]; rfl) ?_
  have hj : j = 6 ∨ j = 7 ∨ j = 8 ∨ j = 9 := by omega
  rcases hj with rfl | rfl | rfl | rfl
  · rw [nd_g6 hx hv] at hp
    refine br_t (by decide) (xa_T hT hn ha hf.1 ?_)
    revert hp
    generalize T a (nd_on x v) = A
    cases A
    · intro hp
      exact br_t rfl (xa_T hT hn ha hf.2.1 (nd_b01 hp))
    · intro hp
      exact br_f (by decide) hp
  · rw [nd_g7 hx hv] at hp
    exact br_f (by decide) (br_t (by decide) (xa_T hT hn ha hf.1 (nd_and hp (fun hp => xa_T hT hn ha hf.2.1 (nd_b01 hp)))))
  · obtain ⟨rfl, hc, _⟩ := hc (by omega)
    exact br_f (by decide) (br_f (by decide) (br_t (by decide) (xa_T hT hn (hc rfl) hx (xc_108 hT hn ha hv hx hp))))
  · obtain ⟨rfl, _, hc⟩ := hc (by omega)
    have hc : c = 0 ∨ c = 1 := by have := hc rfl; omega
    refine br_f (by decide) (br_f (by decide) (br_f (by decide) ?_))
    rcases hc with rfl | rfl
    · exact br_f (by decide) (xc_108 (b := false) hT hn ha hv hx hp)
    · exact br_t (by decide) (xc_108 (b := true) hT hn ha hv hx hp)
/-- the net that has the function M -/
def nd_fn (T : Nat → Nat → Bool) (M : Nat → Bool) (n : Nat) : Nat := nd_fst (fun a => nd_all (fun x => T a x == M x) 128) n
theorem xc_nam1 {T : Nat → Nat → Bool} {M : Nat → Bool} {n a : Nat} (hT : nd_T xT T n) (hn : n ≤ 32) (ha : a < n) (hM : ∀ x, x < 128 → xM x = nd_b (M x)) {post : Int32 → Prop} {J : Int32 → Prop}
    (h0 : nd_all (fun x => T a x == M x) 128 = false → J (nI (a + 1))) (h1 : nd_all (fun x => T a x == M x) 128 = true → post (nI a)) : ∃ m, wX_netAsMade_14 post J (nI a) xn xr xm xc xl xT xM xN xI xP xC xH xL xD xR xK xF m 1 0 := by
  refine loop_0 (fun n i s => wX_netAsMade_14 post J (nI a) xn xr xm xc xl xT xM xN xI xP xC xH xL xD xR xK xF n s (nI i)) (fun i s => s = nd_b (nd_all (fun x => T a x == M x) i)) 128 1 rfl ?_ ?_
  · rintro m s rfl
    exact br_t nd_128 (nd_br (fun z => nm_r (nI_1 a) (h0 z)) h1)
  · rintro m i s hi rfl ih
    refine br_f (nd_n128 hi) (xa_T hT hn ha hi ⟨vp_in_nI hi (by omega), ?_⟩)
    rw [nI_clamp (show i < 2 ^ 31 by omega), hM i hi]
    refine nd_bq (fun w => ?_) (fun w => ?_)
    · refine nm_r (nI_1 i) (ih _ ?_)
      rw [nd_all, w, BEq.rfl, Bool.and_true]
    · refine nm_r (nI_1 i) (ih 0 ?_)
      rw [nd_all, beq_eq_false_iff_ne.mpr w, Bool.and_false]
      rfl
theorem xc_nam {T : Nat → Nat → Bool} {M : Nat → Bool} {n : Nat} (hT : nd_T xT T n) (hn : n ≤ 32) (hM : ∀ x, x < 128 → xM x = nd_b (M x)) {post : Int32 → Prop} (hp : post (nd_ls (fun a => nd_all (fun x => T a x == M x) 128) n)) : wpX_netAsMade post (nI n, xr, xm, xc, xl, xT, xM, xN, xI, xP, xC, xH, xL, xD, xR, xK, xF) := by
  refine loop_0 (fun m i (_ : Unit) => wX_netAsMade_2 post (nI n) xr xm xc xl xT xM xN xI xP xC xH xL xD xR xK xF m (nI i)) (fun i _ => ∀ a, a < i → nd_all (fun x => T a x == M x) 128 = false) n () (fun j hj => absurd hj (by omega)) ?_ ?_
  · intro m _ z
    rw [nd_ls_f z] at hp
    exact br_t (nI_le (Nat.le_refl _) (by omega)) hp
  · intro m i _ hi z ih
    refine br_f (nI_ge hi (by omega)) (xc_nam1 hT hn hi hM (fun w => ih () (nd_lts z w)) (fun w => ?_))
    rw [nd_ls_t (p := fun a => nd_all (fun x => T a x == M x) 128) hi z w] at hp
    exact hp
theorem xc_add {M : Nat → Bool} {n : Nat} (hn : n ≤ 32) (hM : ∀ x, x < 128 → xM x = nd_b (M x)) {post : Int32 → SX → Prop}
    (h1 : n = 32 → post (-1) (nI n, xr, xm, xc, xl, xT, xM, xN, xI, xP, xC, xH, xL, xD, xR, xK, xF))
    (h2 : n < 32 → ∀ t : Nat → Int32, (∀ x, x < 128 → t (n * 128 + x) = nd_b (M x)) → (∀ j, j < n * 128 → t j = xT j) → post (nI n) (nI (n + 1), xr, xm, xc, xl, t, xM, xN, xI, xP, xC, xH, xL, xD, xR, xK, xF)) : wpX_addMade post (nI n, xr, xm, xc, xl, xT, xM, xN, xI, xP, xC, xH, xL, xD, xR, xK, xF) := by
  by_cases hn2 : n < 32
  · refine br_t (nI_lt (b := 32) hn2 (by omega)) ?_
    refine loop_0 (fun m i s => wX_addMade_13 post (nI n) xr xm xc xl m (nI i) s xM xN xI xP xC xH xL xD xR xK xF) (fun i s => (∀ x, x < i → s (n * 128 + x) = nd_b (M x)) ∧ ∀ j, j < n * 128 → s j = xT j) 128 xT ⟨fun x hx => absurd hx (by omega), fun j _ => rfl⟩ ?_ ?_
    · intro m s hs
      refine br_t nd_128 (nm_r (nI_1 n) ?_)
      rw [nI_pred]
      exact h2 hn2 s hs.1 hs.2
    · intro m i s hi hs ih
      refine br_f (nd_n128 hi) ⟨vp_in_nI hi (by omega), by rw [nd_ix]; exact vp_in_nI (by omega) (by omega), ?_⟩
      refine nm_r (e' := upd s (n * 128 + i) (nd_b (M i))) (by rw [nd_ix, nI_clamp (by omega), nI_clamp (by omega), hM i hi, nd_bv]) (nm_r (nI_1 i) (ih _ ⟨?_, ?_⟩))
      · refine nd_lts ?_ pk_us
        intro x hx
        rw [pk_un (by omega)]; exact hs.1 x hx
      · intro j hj
        rw [pk_un (by omega)]; exact hs.2 j hj
  · exact br_f (nI_nlt (b := 32) (by omega) (by omega)) (h1 (by omega))
theorem xc_gate {T : Nat → Nat → Bool} {M : Nat → Bool} {n j : Nat} {p1 p2 p3 : Int32} (hT : nd_T xT T n) (hn : n ≤ 32) (hj : j < 10)
    (hm : ∀ (g : Nat → Int32) (x : Nat) (post : Int32 → Prop), x < 128 → post (nd_b (M x)) → (6 ≤ j → wpX_moved post (nI n, xr, xm, xc, xl, xT, g, xN, xI, xP, xC, xH, xL, xD, xR, xK, xF) (nI j) p1 p2 p3 (nI x)) ∧ (j < 6 → wpX_joined post (nI n, xr, xm, xc, xl, xT, g, xN, xI, xP, xC, xH, xL, xD, xR, xK, xF) (nI j) p1 p2 p3 (nI x))) {post : Int32 → SX → Prop}
    (h0 : ∀ g, nd_fn T M n < n → post (nI (nd_fn T M n)) (nI n, xr, xm, xc, xl, xT, g, xN, xI, xP, xC, xH, xL, xD, xR, xK, xF))
    (h1 : ∀ g, nd_fn T M n = n → n = 32 → post (-1) (nI n, xr, xm, xc, xl, xT, g, xN, xI, xP, xC, xH, xL, xD, xR, xK, xF))
    (h2 : ∀ g, nd_fn T M n = n → n < 32 → ∀ t : Nat → Int32, (∀ x, x < 128 → t (n * 128 + x) = nd_b (M x)) → (∀ j, j < n * 128 → t j = xT j) → post (nI n) (nI (n + 1), xr, xm, xc, xl, t, g, xN, xI, xP, xC, xH, xL, xD, xR, xK, xF)) :
    ∃ m, wX_gate_17 post (nI j) p1 p2 p3 (nI n) xr xm xc xl m 0 xT xM xN xI xP xC xH xL xD xR xK xF := by
  refine loop_0 (fun m i s => wX_gate_17 post (nI j) p1 p2 p3 (nI n) xr xm xc xl m (nI i) xT s xN xI xP xC xH xL xD xR xK xF) (fun i s => ∀ x, x < i → s x = nd_b (M x)) 128 xM (fun x hx => absurd hx (by omega)) ?_ ?_
  · intro m s hs
    refine br_t nd_128 (xc_nam hT hn hs ?_)
    have hle : nd_fn T M n ≤ n := nd_fst_le _ n
    by_cases z : nd_fn T M n < n
    · have e : nd_ls (fun a => nd_all (fun x => T a x == M x) 128) n = nI (nd_fn T M n) := if_pos z
      rw [e]
      exact br_f (nI_pos (by omega)) (h0 s z)
    · have e : nd_ls (fun a => nd_all (fun x => T a x == M x) 128) n = -1 := if_neg z
      rw [e]
      have z2 : nd_fn T M n = n := Nat.le_antisymm hle (Nat.le_of_not_lt z)
      exact br_t (by decide) (xc_add hn hs (h1 s z2) (h2 s z2))
  · intro m i s hi hs ih
    refine br_f (nd_n128 hi) ?_
    have next : ∀ s' : Nat → Int32, s' = upd s (nI i).toNatClampNeg (vp_nar .boolean (nd_b (M i))) → ∀ y, y = nI i + 1 → wX_gate_17 post (nI j) p1 p2 p3 (nI n) xr xm xc xl m y xT s' xN xI xP xC xH xL xD xR xK xF := by
      refine nm_r (e' := upd s i (nd_b (M i))) (by rw [nI_clamp (by omega), nd_bv]) (nm_r (nI_1 i) (ih _ ?_))
      refine nd_lts ?_ pk_us
      intro x hx
      rw [pk_un (by omega)]; exact hs x hx
    by_cases h6 : 6 ≤ j
    · exact br_t (nI_le (a := 6) h6 (by omega)) ((hm s i _ hi ⟨vp_in_nI hi (by omega), next⟩).1 h6)
    · exact br_f (nI_ge (b := 6) (by omega) (by omega)) ((hm s i _ hi ⟨vp_in_nI hi (by omega), next⟩).2 (by omega))
end NDX
end
section
/-! the component: cubes -/
section NDX
variable {xn xr xm xc xl : Int32} {xT xM xN xI xP xC xH xL xD xR xK xF : Nat → Int32}
theorem nd_3 : ¬ (3 : Int32) = 0 := by decide
theorem nd_d3 {a : Nat} (ha : a < 2 ^ 31) : nI a / 3 = nI (a / 3) := pk_div (d := 3) ha (by omega) (by omega)
theorem nd_r3 {a : Nat} (ha : a < 2 ^ 31) : nI a - nI a / 3 * 3 = nI (a % 3) := pk_rem (d := 3) ha (by omega) (by omega)
theorem nd_t3 (a : Nat) : nI a * 3 = nI (a * 3) := pk_mul a 3
theorem nd_lc (c v : Nat) : c / 3 ^ v ≤ c := Nat.div_le_self _ _
theorem nd_729 : ∀ v, v < 7 → 3 ^ v ≤ 729 := by decide
theorem nd_c2187 : (2187 : Int32) ≤ nI 2187 := nI_le (a := 2187) (b := 2187) (by omega) (by omega)
theorem nd_n2187 {i : Nat} (h : i < 2187) : ¬ (2187 : Int32) ≤ nI i := nI_ge (b := 2187) h (by omega)
/-- the implicants so far -/
def nd_I (t : Nat → Int32) (F : Nat → Bool) (c : Nat) : Prop := ∀ d, d < c → t d = nd_b (F d)
theorem xd_imp {T : Nat → Nat → Bool} {n a c : Nat} (hT : nd_T xT T n) (hn : n ≤ 32) (ha : a < n) (hc : c < 2187) (hI : nd_I xI (nd_imp (T a)) c) {post : Int32 → Prop} (hp : post (nd_b (nd_imp (T a) c))) : wpX_isImplicant post (xn, xr, xm, xc, xl, xT, xM, xN, xI, xP, xC, xH, xL, xD, xR, xK, xF) (nI a) (nI c) := by
  refine loop_0 (fun m v (s : Int32 × Int32 × Int32) => wX_isImplicant_11 post (nI a) (nI c) xn xr xm xc xl xT xM xN xI xP xC xH xL xD xR xK xF m s.1 s.2.1 s.2.2 (nI v)) (fun v s => s = (nI (c / 3 ^ v), nI (3 ^ v), nI (nd_as c v)) ∧ ∀ u, u < v → nd_dg c u ≠ 2) 7 (nI c, 1, 0) ⟨by rw [Nat.pow_zero, Nat.div_one]; rfl, fun u hu => absurd hu (by omega)⟩ ?_ ?_
  · rintro m s ⟨rfl, h⟩
    rw [nd_imp_0 h] at hp
    exact br_t nd_7 (xa_T hT hn ha (nd_as_lt h) ⟨nd_bn _, hp⟩)
  · rintro m v s hv ⟨rfl, h⟩ ih
    have h1 := nd_lc c v
    have h2 := nd_729 v hv
    have h3 := nd_p3 v
    have h4 := nd_dg_lt c v
    refine br_f (nd_n7 hv) ⟨nd_3, nm_r (e' := nI (nd_dg c v)) (nd_r3 (by omega)) ?_⟩
    refine pk_eq (nd_dg c v) 2 (fun z => ?_) (fun z => ?_)
    · have h5 := nd_dg2 z
      rw [nd_imp_2 hv h z] at hp
      have e1 : nI c - nI (3 ^ v) = nI (c - 3 ^ v) := pk_sub (by omega)
      have e2 : nI c - 2 * nI (3 ^ v) = nI (c - 2 * 3 ^ v) := by
        rw [show (2 : Int32) = nI 2 from rfl, pk_mul, pk_sub h5]
      show vp_in (nI c - nI (3 ^ v)) 2187 ∧ _
      rw [e1, e2, nI_clamp (show c - 3 ^ v < 2 ^ 31 by omega), nI_clamp (show c - 2 * 3 ^ v < 2 ^ 31 by omega), hI (c - 3 ^ v) (by omega), hI (c - 2 * 3 ^ v) (by omega)]
      exact ⟨vp_in_nI (by omega) (by omega), nd_and hp (fun hp => ⟨vp_in_nI (by omega) (by omega), nd_b01 hp⟩)⟩
    · have e5 : nI (nd_as c v) + nI (nd_dg c v) <<< (nI v &&& 31) = nI (nd_as c (v + 1)) := by
        have h6 : nd_dg c v * 2 ^ v ≤ 2 * 64 := Nat.mul_le_mul (by omega) (nd_pk v hv).1
        rw [nd_shlN (by omega) (by omega), nI_add]
        rfl
      refine nm_r e5 ⟨nd_3, nm_r (e' := nI (c / 3 ^ (v + 1))) ((nd_d3 (by omega)).trans (congrArg nI (nd_dgs c v))) (nm_r (e' := nI (3 ^ (v + 1))) ((nd_t3 _).trans (congrArg nI (Nat.pow_succ 3 v).symm)) (nm_r (nI_1 v) (ih _ ⟨rfl, nd_lts h z⟩)))⟩
theorem xd_pri {F : Nat → Bool} {c : Nat} (hc : c < 2187) (hI : nd_I xI F 2187) {post : Int32 → Prop} (hp : post (nd_b (nd_pr F c))) : wpX_isPrime post (xn, xr, xm, xc, xl, xT, xM, xN, xI, xP, xC, xH, xL, xD, xR, xK, xF) (nI c) := by
  have hx : xI (nI c).toNatClampNeg = nd_b (F c) := by rw [nI_clamp (by omega)]; exact hI c hc
  refine ⟨vp_in_nI hc (by omega), ?_⟩
  rw [hx]
  refine nd_and hp (fun hp => ?_)
  refine loop_0 (fun m v (s : Int32 × Int32) => wX_isPrime_18 post (nI c) xn xr xm xc xl xT xM xN xI xP xC xH xL xD xR xK xF m s.1 s.2 (nI v)) (fun v s => s = (nI (c / 3 ^ v), nI (3 ^ v)) ∧ ∀ u, u < v → (!(decide (nd_dg c u ≠ 2) && F (c + (2 - nd_dg c u) * 3 ^ u))) = true) 7 (nI c, 1) ⟨by rw [Nat.pow_zero, Nat.div_one]; rfl, fun u hu => absurd hu (by omega)⟩ ?_ ?_
  · rintro m s ⟨rfl, h⟩
    rw [nd_all_iff.mpr h] at hp
    exact br_t nd_7 hp
  · rintro m v s hv ⟨rfl, h⟩ ih
    have h1 := nd_lc c v
    have h2 := nd_729 v hv
    have h3 := nd_p3 v
    have h4 := nd_dg_lt c v
    have go : (!(decide (nd_dg c v ≠ 2) && F (c + (2 - nd_dg c v) * 3 ^ v))) = true → wX_isPrime_54 post (wX_isPrime_18 post (nI c) xn xr xm xc xl xT xM xN xI xP xC xH xL xD xR xK xF m) (nI c) (nI (c / 3 ^ v)) (nI (3 ^ v)) (nI v) xn xr xm xc xl xT xM xN xI xP xC xH xL xD xR xK xF := by
      intro w
      exact ⟨nd_3, nm_r (e' := nI (c / 3 ^ (v + 1))) ((nd_d3 (by omega)).trans (congrArg nI (nd_dgs c v))) (nm_r (e' := nI (3 ^ (v + 1))) ((nd_t3 _).trans (congrArg nI (Nat.pow_succ 3 v).symm)) (nm_r (nI_1 v) (ih _ ⟨rfl, nd_lts h w⟩)))⟩
    refine br_f (nd_n7 hv) ⟨nd_3, nm_r (e' := nI (nd_dg c v)) (nd_r3 (by omega)) ?_⟩
    refine pk_eq (nd_dg c v) 2 (fun z => ?_) (fun z => ?_)
    · exact go (by rw [decide_eq_false (fun y => y z)]; rfl)
    · have hw := nd_wide hc hv z
      have e1 : nI c + (2 - nI (nd_dg c v)) * nI (3 ^ v) = nI (c + (2 - nd_dg c v) * 3 ^ v) := by
        rw [show (2 : Int32) = nI 2 from rfl, pk_sub (by omega), pk_mul, nI_add]
      show vp_in (nI c + (2 - nI (nd_dg c v)) * nI (3 ^ v)) 2187 ∧ _
      rw [e1, nI_clamp (show c + (2 - nd_dg c v) * 3 ^ v < 2 ^ 31 by omega), hI _ hw]
      refine ⟨vp_in_nI hw (by omega), nd_br (fun w => go (by rw [w, Bool.and_false]; rfl)) (fun w => ?_)⟩
      have e : nd_all (fun u => !(decide (nd_dg c u ≠ 2) && F (c + (2 - nd_dg c u) * 3 ^ u))) 7 = false := nd_all_f hv (by rw [w, decide_eq_true z]; rfl)
      rw [e] at hp
      exact hp
/-- the list of the primes so far -/
def nd_P (t : Nat → Int32) (q : Nat → Bool) (c : Nat) : Prop := ∀ d, d < c → q d = true → t (nd_cnt q d) = nI d
theorem xd_find {T : Nat → Nat → Bool} {n a : Nat} (hT : nd_T xT T n) (hn : n ≤ 32) (ha : a < n) {post : SX → Prop}
    (h : ∀ i p : Nat → Int32, nd_P p (nd_q (T a)) 2187 → post (xn, xr, xm, nI (nd_cnt (nd_q (T a)) 2187), xl, xT, xM, xN, i, p, xC, xH, xL, xD, xR, xK, xF)) : wpX_findPrimes post (xn, xr, xm, xc, xl, xT, xM, xN, xI, xP, xC, xH, xL, xD, xR, xK, xF) (nI a) := by
  refine loop_0 (fun m c s => wX_findPrimes_2 post (nI a) xn xr xm xc xl m (nI c) xT xM xN s xP xC xH xL xD xR xK xF) (fun c s => nd_I s (nd_imp (T a)) c) 2187 xI (fun d hd => absurd hd (by omega)) ?_ ?_
  · intro m s hs
    refine br_t nd_c2187 ?_
    refine loop_0 (fun m c (w : Int32 × (Nat → Int32)) => wX_findPrimes_34 post xn xr xm xl m (nI c) w.1 xT xM xN s w.2 xC xH xL xD xR xK xF) (fun c w => w.1 = nI (nd_cnt (nd_q (T a)) c) ∧ nd_P w.2 (nd_q (T a)) c) 2187 (0, xP) ⟨rfl, fun d hd => absurd hd (by omega)⟩ ?_ ?_
    · rintro m ⟨w1, w2⟩ ⟨rfl, hw⟩
      exact br_t nd_c2187 (h s w2 hw)
    · rintro m c ⟨w1, w2⟩ hc ⟨rfl, hw⟩ ih
      refine br_f (nd_n2187 hc) (xd_pri hc hs ?_)
      have hle := nd_cnt_le (nd_q (T a)) c
      refine nd_br (fun z => ?_) (fun z => ?_)
      · refine nm_r (nI_1 c) (ih (_, _) ⟨?_, ?_⟩)
        · rw [nd_cnt_f (q := nd_q (T a)) z]
        · refine nd_lts hw ?_
          intro z2
          rw [show nd_q (T a) c = false from z] at z2; cases z2
      · refine ⟨vp_in_nI (by omega) (by omega), ?_⟩
        refine nm_r (e' := upd w2 (nd_cnt (nd_q (T a)) c) (nI c)) (by rw [nI_clamp (by omega)]) (nm_r (e' := nI (nd_cnt (nd_q (T a)) (c + 1))) (by rw [nI_1, nd_cnt_t (q := nd_q (T a)) z]) (nm_r (nI_1 c) (ih (nI (nd_cnt (nd_q (T a)) (c + 1)), upd w2 (nd_cnt (nd_q (T a)) c) (nI c)) ⟨rfl, ?_⟩)))
        refine nd_lts ?_ (fun _ => pk_us)
        intro d hd hq
        have := nd_cnt_at (q := nd_q (T a)) hd hq
        show upd w2 (nd_cnt (nd_q (T a)) c) (nI c) (nd_cnt (nd_q (T a)) d) = nI d
        rw [pk_un (by omega)]
        exact hw d hd hq
  · intro m c s hc hs ih
    refine br_f (nd_n2187 hc) (xd_imp hT hn ha hc hs ⟨vp_in_nI hc (by omega), ?_⟩)
    refine nm_r (e' := upd s c (nd_b (nd_imp (T a) c))) (by rw [nI_clamp (by omega), nd_bv]) (nm_r (nI_1 c) (ih _ ?_))
    refine nd_lts ?_ pk_us
    intro d hd
    rw [pk_un (by omega)]; exact hs d hd
theorem xd_cov {c x : Nat} (hc : c < 2187) (hx : x < 128) {post : Int32 → Prop} (hp : post (nd_b (nd_fit c x))) : wpX_covers post (nI c) (nI x) := by
  refine loop_0 (fun m v s => wX_covers_4 post (nI x) m s (nI v)) (fun v s => s = nI (c / 3 ^ v) ∧ ∀ u, u < v → (decide (nd_dg c u = 2) || (x.testBit u == decide (nd_dg c u = 1))) = true) 7 (nI c) ⟨by rw [Nat.pow_zero, Nat.div_one], fun u hu => absurd hu (by omega)⟩ ?_ ?_
  · rintro m s ⟨rfl, h⟩
    have e : nd_fit c x = true := nd_all_iff.mpr h
    rw [e] at hp
    exact br_t nd_7 hp
  · rintro m v s hv ⟨rfl, h⟩ ih
    have h1 := nd_lc c v
    have h4 := nd_dg_lt c v
    have go : (decide (nd_dg c v = 2) || (x.testBit v == decide (nd_dg c v = 1))) = true → ∀ y, y = nI (c / 3 ^ v) / 3 → ∀ z, z = nI v + 1 → wX_covers_4 post (nI x) m y z := by
      intro w
      exact nm_r (e' := nI (c / 3 ^ (v + 1))) ((nd_d3 (by omega)).trans (congrArg nI (nd_dgs c v))) (nm_r (nI_1 v) (ih _ ⟨rfl, nd_lts h w⟩))
    have stop : (decide (nd_dg c v = 2) || (x.testBit v == decide (nd_dg c v = 1))) = false → post 0 := by
      intro w
      have e : nd_fit c x = false := nd_all_f hv w
      rw [e] at hp
      exact hp
    refine br_f (nd_n7 hv) ⟨nd_3, nm_r (e' := nI (nd_dg c v)) (nd_r3 (by omega)) ?_⟩
    refine pk_eq (nd_dg c v) 2 (fun z => ?_) (fun z => ?_)
    · exact ⟨nd_3, go (by rw [decide_eq_true z, Bool.true_or])⟩
    · rw [decide_eq_false z, Bool.false_or] at go stop
      refine xa_bit (by omega) (by omega) ?_
      refine pk_eq (nd_dg c v) 1 (fun z1 => ?_) (fun z1 => ?_)
      · rw [decide_eq_true z1] at go stop
        unfold wX_covers_37
        revert go stop
        cases x.testBit v
        · intro go stop
          exact br_f (by decide) (stop rfl)
        · intro go stop
          exact br_t rfl ⟨nd_3, go rfl⟩
      · rw [decide_eq_false z1] at go stop
        unfold wX_covers_37
        revert go stop
        cases x.testBit v
        · intro go stop
          exact br_t rfl ⟨nd_3, go rfl⟩
        · intro go stop
          exact br_f (by decide) (stop rfl)
theorem nd_i1 {n : Nat} (h : n < 2 ^ 31) {A B : Prop} (f : n = 1 → A) (g : n ≠ 1 → B) : (nI n = 1 → A) ∧ (¬ nI n = 1 → B) := pk_eq n 1 f g rfl rfl h (by omega)
theorem xd_alone {q : Nat → Bool} {c : Nat} (hc : c < 2187) (hC : ∀ x, x < 128 → xC x = nI (nd_cov q x)) {post : Int32 → Prop} (hp : post (nd_b (nd_alone q c))) : wpX_coversAlone post (xn, xr, xm, xc, xl, xT, xM, xN, xI, xP, xC, xH, xL, xD, xR, xK, xF) (nI c) := by
  refine loop_0 (fun m x (_ : Unit) => wX_coversAlone_2 post (nI c) xn xr xm xc xl xT xM xN xI xP xC xH xL xD xR xK xF m (nI x)) (fun i _ => ∀ x, x < i → (decide (nd_cov q x = 1) && nd_fit c x) = false) 128 () (fun u hu => absurd hu (by omega)) ?_ ?_
  · intro m _ h
    have e : nd_alone q c = false := nd_any_f h
    rw [e] at hp
    exact br_t nd_128 hp
  · intro m x _ hx h ih
    have hle : nd_cov q x ≤ 2187 := nd_cnt_le _ _
    refine br_f (nd_n128 hx) ⟨vp_in_nI hx (by omega), ?_⟩
    rw [nI_clamp (show x < 2 ^ 31 by omega), hC x hx]
    refine nd_i1 (by omega) (fun z => ?_) (fun z => ?_)
    · refine xd_cov hc hx (nd_br (fun w => nm_r (nI_1 x) (ih () (nd_lts h ?_))) (fun w => ?_))
      · rw [w, Bool.and_false]
      · have e : nd_alone q c = true := nd_any_iff.mpr ⟨x, hx, by rw [decide_eq_true z, w]; rfl⟩
        rw [e] at hp
        exact hp
    · exact nm_r (nI_1 x) (ih () (nd_lts h (by rw [decide_eq_false z, Bool.false_and])))
theorem nd_P_kth {t : Nat → Int32} {q : Nat → Bool} (hP : nd_P t q 2187) {k : Nat} (hk : k < nd_cnt q 2187) : ∃ c, c < 2187 ∧ q c = true ∧ nd_cnt q c = k ∧ t k = nI c := by
  obtain ⟨c, h1, h2, h3⟩ := nd_kth 2187 hk
  exact ⟨c, h1, h2, h3, by rw [← h3]; exact hP c h1 h2⟩
theorem nd_P_pl {t : Nat → Int32} {q : Nat → Bool} (hP : nd_P t q 2187) : nd_PL q 2187 (fun k => (t k).toNatClampNeg) := by
  intro c hc hq
  show (t (nd_cnt q c)).toNatClampNeg = c
  rw [hP c hc hq, nI_clamp (by omega)]
theorem xd_ess1 {q : Nat → Bool} {x : Nat} (hx : x < 128) (hP : nd_P xP q 2187) {post : Int32 → SX → Prop} {J : Int32 → (Nat → Int32) → (Nat → Int32) → (Nat → Int32) → (Nat → Int32) → (Nat → Int32) → (Nat → Int32) → (Nat → Int32) → (Nat → Int32) → (Nat → Int32) → (Nat → Int32) → (Nat → Int32) → (Nat → Int32) → Prop} {t : Nat → Int32}
    (hJ : ∀ t' : Nat → Int32, t' x = nI (nd_cov q x) → (∀ j, j ≠ x → t' j = t j) → J (nI (x + 1)) xT xM xN xI xP t' xH xL xD xR xK xF) (h0 : t x = nI 0) : ∃ m, wX_essentialCount_18 post J (nI x) xn xr xm (nI (nd_cnt q 2187)) xl m 0 xT xM xN xI xP t xH xL xD xR xK xF := by
  have hle := nd_cnt_le q 2187
  refine loop_0 (fun m k s => wX_essentialCount_18 post J (nI x) xn xr xm (nI (nd_cnt q 2187)) xl m (nI k) xT xM xN xI xP s xH xL xD xR xK xF) (fun k s => s x = nI (nd_cnt (fun k => nd_fit (xP k).toNatClampNeg x) k) ∧ ∀ j, j ≠ x → s j = t j) (nd_cnt q 2187) t ⟨h0, fun _ _ => rfl⟩ ?_ ?_
  · rintro m s ⟨h1, h2⟩
    refine br_t (nI_le (Nat.le_refl _) (by omega)) (nm_r (nI_1 x) (hJ s ?_ h2))
    rw [h1, nd_pl_cnt (fun c => nd_fit c x) 2187 (nd_P_pl hP)]
    rfl
  · rintro m k s hk ⟨h1, h2⟩ ih
    obtain ⟨c, c1, c2, c3, c4⟩ := nd_P_kth hP hk
    have e : nd_fit (xP k).toNatClampNeg x = nd_fit c x := by rw [c4, nI_clamp (by omega)]
    refine br_f (nI_ge hk (by omega)) ⟨vp_in_nI (by omega) (by omega), ?_⟩
    rw [nI_clamp (show k < 2 ^ 31 by omega), c4]
    refine xd_cov c1 hx (nd_br (fun w => nm_r (nI_1 k) (ih _ ⟨?_, h2⟩)) (fun w => ⟨vp_in_nI hx (by omega), vp_in_nI hx (by omega), ?_⟩))
    · rw [h1, nd_cnt_f (q := fun k => nd_fit (xP k).toNatClampNeg x) (e.trans w)]
    · refine nm_r (e' := upd s x (nI (nd_cnt (fun k => nd_fit (xP k).toNatClampNeg x) (k + 1)))) ?_ (nm_r (nI_1 k) (ih _ ⟨pk_us, ?_⟩))
      · rw [nI_clamp (show x < 2 ^ 31 by omega), h1, nI_1, nd_cnt_t (q := fun k => nd_fit (xP k).toNatClampNeg x) (e.trans w)]
      · intro j hj
        rw [pk_un hj]; exact h2 j hj
theorem xd_ess {q : Nat → Bool} (hP : nd_P xP q 2187) {post : Int32 → SX → Prop} (h : ∀ t : Nat → Int32, post (nI (nd_ess q)) (xn, xr, xm, nI (nd_cnt q 2187), xl, xT, xM, xN, xI, xP, t, xH, xL, xD, xR, xK, xF)) : wpX_essentialCount post (xn, xr, xm, nI (nd_cnt q 2187), xl, xT, xM, xN, xI, xP, xC, xH, xL, xD, xR, xK, xF) := by
  have hle := nd_cnt_le q 2187
  refine loop_0 (fun m x s => wX_essentialCount_2 post xn xr xm (nI (nd_cnt q 2187)) xl m (nI x) xT xM xN xI xP s xH xL xD xR xK xF) (fun i s => ∀ x, x < i → s x = nI (nd_cov q x)) 128 xC (fun u hu => absurd hu (by omega)) ?_ ?_
  · intro m s hs
    refine br_t nd_128 ?_
    refine loop_0 (fun m k (r : Int32) => wX_essentialCount_65 post xn xr xm (nI (nd_cnt q 2187)) xl xT xM xN xI xP s xH xL xD xR xK xF m r (nI k)) (fun k r => r = nI (nd_cnt (fun k => nd_alone q (xP k).toNatClampNeg) k)) (nd_cnt q 2187) 0 rfl ?_ ?_
    · rintro m r rfl
      refine br_t (nI_le (Nat.le_refl _) (by omega)) ?_
      rw [nd_pl_cnt (nd_alone q) 2187 (nd_P_pl hP)]
      exact h s
    · rintro m k r hk rfl ih
      obtain ⟨c, c1, c2, c3, c4⟩ := nd_P_kth hP hk
      have e : nd_alone q (xP k).toNatClampNeg = nd_alone q c := by rw [c4, nI_clamp (by omega)]
      refine br_f (nI_ge hk (by omega)) ⟨vp_in_nI (by omega) (by omega), ?_⟩
      rw [nI_clamp (show k < 2 ^ 31 by omega), c4]
      refine xd_alone c1 hs (nd_br (fun w => nm_r (nI_1 k) (ih _ ?_)) (fun w => nm_r (nI_1 _) (nm_r (nI_1 k) (ih _ ?_))))
      · rw [nd_cnt_f (q := fun k => nd_alone q (xP k).toNatClampNeg) (e.trans w)]
      · rw [nd_cnt_t (q := fun k => nd_alone q (xP k).toNatClampNeg) (e.trans w)]
  · intro m x s hx hs ih
    refine br_f (nd_n128 hx) ⟨vp_in_nI hx (by omega), nm_r (e' := upd s x (nI 0)) (by rw [nI_clamp (by omega)]; rfl) ?_⟩
    refine xd_ess1 hx hP (fun t' h1 h2 => ih t' ?_) pk_us
    refine nd_lts ?_ h1
    intro y hy
    rw [h2 y (by omega), pk_un (by omega)]
    exact hs y hy
end NDX
end
section
/-! the component: the machine -/
section NDX
variable {xn xr xm xc xl : Int32} {xT xM xN xI xP xC xH xL xD xR xK xF : Nat → Int32}
theorem nd_m_t {p : Nat → Bool} {n : Nat} (h : p n = true) : nd_m p (n + 1) = nd_m p n ||| 2 ^ n := by rw [nd_m, h, if_pos rfl]
theorem nd_m_f {p : Nat → Bool} {n : Nat} (h : p n = false) : nd_m p (n + 1) = nd_m p n := by rw [nd_m, h, if_neg Bool.false_ne_true, Nat.or_zero]
theorem nd_m_in {p : Nat → Bool} {n s : Nat} (hs : s < n) : (nd_m p n).testBit s = p s := by rw [nd_m_bit, decide_eq_true hs, Bool.true_and]
theorem nd_orb {m k : Nat} (hk : k < 31) : nI m ||| (1 : Int32) <<< (nI k &&& 31) = nI (m ||| 2 ^ k) := by rw [nd_shl k hk, nd_or]
def nd_nx (N : Nat → Nat → Bool) (s i : Nat) : Nat := nd_m (fun k => N k (s * 8 + i)) 4
theorem nd_nxl (N : Nat → Nat → Bool) (s i : Nat) : nd_nx N s i < 16 := nd_m_lt _ 4
theorem nd_nxF (N : Nat → Nat → Bool) : nd_F (nd_nx N) := fun s i _ _ => nd_nxl N s i
theorem xe_suc {N : Nat → Nat → Bool} {s i : Nat} (hN : nd_T xN N 4) (hs : s < 16) (hi : i < 8) {post : Int32 → Prop} (hp : post (nI (nd_nx N s i))) : wpX_successor post (xn, xr, xm, xc, xl, xT, xM, xN, xI, xP, xC, xH, xL, xD, xR, xK, xF) (nI s) (nI i) := by
  refine nm_r (nd_ix8 s i) ?_
  refine loop_0 (fun m k r => wX_successor_13 post (nI (s * 8 + i)) xn xr xm xc xl xT xM xN xI xP xC xH xL xD xR xK xF m r (nI k)) (fun k r => r = nI (nd_m (fun k => N k (s * 8 + i)) k)) 4 0 rfl ?_ ?_
  · rintro m r rfl
    exact br_t nd_4 hp
  · rintro m k r hk rfl ih
    refine br_f (nd_n4 hk) ⟨by rw [nd_ix]; exact vp_in_nI (by omega) (by omega), ?_⟩
    rw [nd_ix, nI_clamp (show k * 128 + (s * 8 + i) < 2 ^ 31 by omega), hN k (s * 8 + i) hk (by omega)]
    refine nd_br (fun z => nm_r (nI_1 k) (ih _ ?_)) (fun z => nm_r (nd_orb (by omega)) (nm_r (nI_1 k) (ih _ ?_)))
    · rw [nd_m_f (p := fun k => N k (s * 8 + i)) z]
    · rw [nd_m_t (p := fun k => N k (s * 8 + i)) z]
/-- the heirs of s -/
def nd_hr (f : Nat → Nat → Nat) (s t : Nat) : Bool := nd_any (fun i => decide (f s i = t)) 8
theorem nd_m_ins {p : Nat → Bool} {n x : Nat} (hx : x < n) : nd_m p n ||| 2 ^ x = nd_m (fun t => p t || decide (x = t)) n := by
  apply Nat.eq_of_testBit_eq
  intro i
  rw [Nat.testBit_or, nd_m_bit, nd_m_bit, Nat.testBit_two_pow]
  by_cases h : x = i
  · subst h
    rw [decide_eq_true hx, decide_eq_true rfl, Bool.or_true, Bool.or_true, Bool.true_and]
  · rw [decide_eq_false h, Bool.or_false, Bool.or_false]
theorem nd_hr_some {f : Nat → Nat → Nat} {p : Nat → Bool} {s : Nat} (hf : nd_F f) (hs : s < 16) : (nd_m (fun t => nd_hr f s t && p t) 16 = 0) ↔ nd_ld f false p s = false := by
  rw [nd_m_zero, nd_ld, if_neg Bool.false_ne_true]
  constructor
  · intro h
    refine nd_any_f fun i hi => ?_
    have h1 := h _ (hf s i hs hi)
    rw [show nd_hr f s (f s i) = true from nd_any_iff.mpr ⟨i, hi, decide_eq_true rfl⟩, Bool.true_and] at h1
    exact h1
  · intro h t ht
    cases z : nd_hr f s t
    · rfl
    · obtain ⟨i, hi, e⟩ := nd_any_iff.mp z
      rw [Bool.true_and]
      cases w : p t
      · rfl
      · rw [nd_any_iff.mpr ⟨i, hi, by rw [of_decide_eq_true e]; exact w⟩] at h
        cases h
theorem nd_hr_all {f : Nat → Nat → Nat} {p : Nat → Bool} {s : Nat} (hf : nd_F f) (hs : s < 16) : (nd_m (fun t => nd_hr f s t && p t) 16 = nd_m (nd_hr f s) 16) ↔ nd_ld f true p s = true := by
  rw [nd_ld, if_pos rfl, nd_all_iff]
  constructor
  · intro h i hi
    have h1 := nd_m_inj h _ (hf s i hs hi)
    rw [show nd_hr f s (f s i) = true from nd_any_iff.mpr ⟨i, hi, decide_eq_true rfl⟩, Bool.true_and] at h1
    exact h1
  · intro h
    refine nd_m_congr fun t _ => ?_
    cases z : nd_hr f s t
    · rfl
    · obtain ⟨i, hi, e⟩ := nd_any_iff.mp z
      rw [Bool.true_and, ← of_decide_eq_true e]
      exact h i hi
def nd_Hr (t : Nat → Int32) (f : Nat → Nat → Nat) (n : Nat) : Prop := ∀ s, s < n → t s = nI (nd_m (nd_hr f s) 16)
theorem xe_heirs {N : Nat → Nat → Bool} (hN : nd_T xN N 4) {post : SX → Prop} (h : ∀ t : Nat → Int32, nd_Hr t (nd_nx N) 16 → post (xn, xr, xm, xc, xl, xT, xM, xN, xI, xP, xC, t, xL, xD, xR, xK, xF)) : wpX_findHeirs post (xn, xr, xm, xc, xl, xT, xM, xN, xI, xP, xC, xH, xL, xD, xR, xK, xF) := by
  refine loop_0 (fun m s t => wX_findHeirs_2 post xn xr xm xc xl m (nI s) xT xM xN xI xP xC t xL xD xR xK xF) (fun s t => nd_Hr t (nd_nx N) s) 16 xH (fun d hd => absurd hd (by omega)) ?_ ?_
  · intro m t ht
    exact br_t nd_16 (h t ht)
  · intro m s t hs ht ih
    refine br_f (nd_n16 hs) ⟨vp_in_nI hs (by omega), nm_r (e' := upd t s 0) (by rw [nI_clamp (by omega)]) ?_⟩
    refine loop_0 (fun m' i w => wX_findHeirs_17 post (wX_findHeirs_2 post xn xr xm xc xl m) (nI s) xn xr xm xc xl m' (nI i) xT xM xN xI xP xC w xL xD xR xK xF) (fun i w => w s = nI (nd_m (fun t => nd_any (fun i => decide (nd_nx N s i = t)) i) 16) ∧ ∀ j, j ≠ s → w j = t j) 8 _ ⟨?_, fun j hj => pk_un hj⟩ ?_ ?_
    · rw [pk_us]
      have e : nd_m (fun t => nd_any (fun i => decide (nd_nx N s i = t)) 0) 16 = 0 := nd_m_zero.mpr (fun _ _ => rfl)
      rw [e]; rfl
    · rintro m' w ⟨h1, h2⟩
      refine br_t nd_8 (nm_r (nI_1 s) (ih w ?_))
      refine nd_lts ?_ h1
      intro j hj
      rw [h2 j (by omega)]; exact ht j hj
    · rintro m' i w hi ⟨h1, h2⟩ ih2
      refine br_f (nd_n8 hi) ⟨vp_in_nI hs (by omega), xe_suc hN hs hi ⟨vp_in_nI hs (by omega), ?_⟩⟩
      have hl := nd_nxl N s i
      refine nm_r (e' := upd w s (nI (nd_m (fun t => nd_any (fun i => decide (nd_nx N s i = t)) (i + 1)) 16))) ?_ (nm_r (nI_1 i) (ih2 _ ⟨pk_us, ?_⟩))
      · rw [nI_clamp (show s < 2 ^ 31 by omega), h1, nd_orb (by omega), nd_m_ins hl]
        rfl
      · intro j hj
        rw [pk_un hj]; exact h2 j hj
def nd_so (T : Nat → Bool) (s : Nat) : Bool := nd_any (fun i => T (s * 8 + i)) 8
theorem xe_set {T : Nat → Nat → Bool} {n a : Nat} (hT : nd_T xT T n) (hn : n ≤ 32) (ha : a < n) {post : Int32 → Prop} (hp : post (nI (nd_m (nd_so (T a)) 16))) : wpX_setOf post (xn, xr, xm, xc, xl, xT, xM, xN, xI, xP, xC, xH, xL, xD, xR, xK, xF) (nI a) := by
  refine loop_0 (fun m s r => wX_setOf_4 post (nI a) xn xr xm xc xl xT xM xN xI xP xC xH xL xD xR xK xF m r (nI s)) (fun s r => r = nI (nd_m (nd_so (T a)) s)) 16 0 rfl ?_ ?_
  · rintro m r rfl
    exact br_t nd_16 hp
  · rintro m s r hs rfl ih
    refine br_f (nd_n16 hs) ?_
    refine loop_0 (fun m' i r => wX_setOf_13 post (wX_setOf_4 post (nI a) xn xr xm xc xl xT xM xN xI xP xC xH xL xD xR xK xF m) (nI a) (nI s) xn xr xm xc xl xT xM xN xI xP xC xH xL xD xR xK xF m' r (nI i)) (fun i r => r = nI (nd_m (nd_so (T a)) s ||| (if nd_any (fun i => T a (s * 8 + i)) i then 2 ^ s else 0))) 8 _ (by rw [nd_any, if_neg Bool.false_ne_true, Nat.or_zero]) ?_ ?_
    · rintro m' r rfl
      exact br_t nd_8 (nm_r (nI_1 s) (ih _ rfl))
    · rintro m' i r hi rfl ih2
      refine br_f (nd_n8 hi) (xa_TI hT hn ha hs hi ?_)
      refine nd_br (fun z => nm_r (nI_1 i) (ih2 _ ?_)) (fun z => nm_r (nd_orb (by omega)) (nm_r (nI_1 i) (ih2 _ ?_)))
      · rw [nd_any, z, Bool.or_false]
      · rw [nd_any, z, Bool.or_true, if_pos rfl, Nat.or_assoc]
        split
        · rw [Nat.or_self]
        · rw [Nat.zero_or]
theorem xe_lead {f : Nat → Nat → Nat} {p : Nat → Bool} {all : Bool} (hf : nd_F f) (hH : nd_Hr xH f 16) {post : Int32 → Prop} (hp : post (nI (nd_m (nd_ld f all p) 16))) : wpX_leadingInto post (xn, xr, xm, xc, xl, xT, xM, xN, xI, xP, xC, xH, xL, xD, xR, xK, xF) (nI (nd_m p 16)) (nd_b all) := by
  refine loop_0 (fun m s r => wX_leadingInto_5 post (nI (nd_m p 16)) (nd_b all) xn xr xm xc xl xT xM xN xI xP xC xH xL xD xR xK xF m r (nI s)) (fun s r => r = nI (nd_m (nd_ld f all p) s)) 16 0 rfl ?_ ?_
  · rintro m r rfl
    exact br_t nd_16 hp
  · rintro m s r hs rfl ih
    have h1 := nd_m16 (nd_hr f s)
    have h2 := nd_m16 (fun t => nd_hr f s t && p t)
    have yes : nd_ld f all p s = true → wX_leadingInto_47 post (wX_leadingInto_5 post (nI (nd_m p 16)) (nd_b all) xn xr xm xc xl xT xM xN xI xP xC xH xL xD xR xK xF m) (nI (nd_m p 16)) (nd_b all) (nI (nd_m (nd_ld f all p) s)) (nI s) xn xr xm xc xl xT xM xN xI xP xC xH xL xD xR xK xF := by
      intro z
      refine nm_r (nd_orb (by omega)) (nm_r (nI_1 s) (ih _ ?_))
      rw [nd_m_t z]
    have no : nd_ld f all p s = false → ∀ y, y = nI s + 1 → wX_leadingInto_5 post (nI (nd_m p 16)) (nd_b all) xn xr xm xc xl xT xM xN xI xP xC xH xL xD xR xK xF m (nI (nd_m (nd_ld f all p) s)) y := by
      intro z
      refine nm_r (nI_1 s) (ih _ ?_)
      rw [nd_m_f z]
    refine br_f (nd_n16 hs) ⟨vp_in_nI hs (by omega), ?_⟩
    rw [nI_clamp (show s < 2 ^ 31 by omega), hH s hs]
    refine nm_r (e' := nI (nd_m (fun t => nd_hr f s t && p t) 16)) (by rw [nx_and, nd_m_and]) ?_
    cases all
    · refine br_t rfl (pk_eq (nd_m (fun t => nd_hr f s t && p t) 16) 0 (fun z => no ((nd_hr_some hf hs).mp z)) (fun z => yes ?_))
      cases w : nd_ld f false p s
      · exact absurd ((nd_hr_some hf hs).mpr w) z
      · rfl
    · refine br_f (by decide) ⟨vp_in_nI hs (by omega), ?_⟩
      refine pk_eq (nd_m (fun t => nd_hr f s t && p t) 16) (nd_m (nd_hr f s) 16) (fun z => yes ((nd_hr_all hf hs).mp z)) (fun z => no ?_)
      cases w : nd_ld f true p s
      · rfl
      · exact absurd ((nd_hr_all hf hs).mpr w) z
theorem xe_layers {T : Nat → Nat → Bool} {f : Nat → Nat → Nat} {n a : Nat} (hT : nd_T xT T n) (hn : n ≤ 32) (ha : a < n) (hf : nd_F f) (hH : nd_Hr xH f 16) {post : SX → Prop}
    (h : ∀ t : Nat → Int32, (∀ k, k < 16 → t k = nI (nd_m (nd_L f (nd_so (T a)) k) 16)) → post (xn, xr, xm, xc, xl, xT, xM, xN, xI, xP, xC, xH, t, xD, xR, xK, xF)) : wpX_findLayers post (xn, xr, xm, xc, xl, xT, xM, xN, xI, xP, xC, xH, xL, xD, xR, xK, xF) (nI a) := by
  refine xe_set hT hn ha ?_
  refine nm_e ?_
  refine pk_loop (fun m k t => wX_findLayers_13 post xn xr xm xc xl m (nI k) xT xM xN xI xP xC xH t xD xR xK xF) (fun k t => 1 ≤ k ∧ ∀ j, j < k → t j = nI (nd_m (nd_L f (nd_so (T a)) j) 16)) 16 1 _ (by omega) ⟨Nat.le_refl _, ?_⟩ ?_ ?_
  · intro j hj
    have e : j = 0 := by omega
    subst e
    exact pk_us
  · rintro m t ⟨_, ht⟩
    exact br_t nd_16 (h t ht)
  · rintro m k t hk ⟨h1, ht⟩ ih
    have e : nI k - 1 = nI (k - 1) := pk_sub (b := 1) h1
    refine br_f (nd_n16 hk) ?_
    rw [e, nI_clamp (show k - 1 < 2 ^ 31 by omega), ht (k - 1) (by omega)]
    refine ⟨vp_in_nI (by omega) (by omega), xe_lead (all := false) hf hH ⟨vp_in_nI hk (by omega), ?_⟩⟩
    refine nm_r (e' := upd t k (nI (nd_m (nd_L f (nd_so (T a)) k) 16))) ?_ (nm_r (nI_1 k) (ih _ ⟨by omega, nd_lts ?_ pk_us⟩))
    · rw [nI_clamp (by omega)]
      obtain ⟨d, rfl⟩ : ∃ d, k = d + 1 := ⟨k - 1, by omega⟩
      rfl
    · intro j hj
      rw [pk_un (by omega)]; exact ht j hj
/-! reach: the row of inputs -/
def nd_ps (f : Nat → Nat → Nat) (g : Nat → Bool) (s0 n : Nat) : Nat → Nat
  | 0 => s0
  | k + 1 => f (nd_ps f g s0 n k) (nd_fst (fun i => nd_L f g (n - 1 - k) (f (nd_ps f g s0 n k) i)) 8)
def nd_row (f : Nat → Nat → Nat) (T : Nat → Bool) (s0 n k : Nat) : Nat :=
  if k < n then nd_fst (fun i => nd_L f (nd_so T) (n - 1 - k) (f (nd_ps f (nd_so T) s0 n k) i)) 8 else nd_fst (fun i => T (nd_ps f (nd_so T) s0 n n * 8 + i)) 8
theorem nd_ps_L {f : Nat → Nat → Nat} {g : Nat → Bool} {s0 n : Nat} (hf : nd_F f) (h0 : s0 < 16) (hL : nd_L f g n s0 = true) : ∀ k, k ≤ n → nd_ps f g s0 n k < 16 ∧ nd_L f g (n - k) (nd_ps f g s0 n k) = true ∧ (k < n → nd_fst (fun i => nd_L f g (n - 1 - k) (f (nd_ps f g s0 n k) i)) 8 < 8) := by
  intro k
  have last : ∀ k, nd_L f g (n - k) (nd_ps f g s0 n k) = true → k < n → nd_fst (fun i => nd_L f g (n - 1 - k) (f (nd_ps f g s0 n k) i)) 8 < 8 := by
    intro k h hk
    obtain ⟨d, hd⟩ : ∃ d, n - k = d + 1 := ⟨n - k - 1, by omega⟩
    have hd2 : n - 1 - k = d := by omega
    rw [hd, nd_L, nd_ld, if_neg Bool.false_ne_true, nd_any_iff] at h
    obtain ⟨i, hi, h⟩ := h
    rw [hd2]
    exact Nat.lt_of_le_of_lt (nd_fst_lt hi h) hi
  induction k with
  | zero => intro _; exact ⟨h0, hL, last 0 hL⟩
  | succ k ih =>
    intro hk
    obtain ⟨h1, h2, h3⟩ := ih (by omega)
    have h4 := h3 (by omega)
    have h5 := nd_fst_yes _ _ h4
    have e : n - (k + 1) = n - 1 - k := by omega
    have h6 : nd_L f g (n - (k + 1)) (nd_ps f g s0 n (k + 1)) = true := by rw [e]; exact h5
    exact ⟨hf _ _ h1 h4, h6, last (k + 1) h6⟩
theorem nd_ps_T {f : Nat → Nat → Nat} {T : Nat → Bool} {s0 n : Nat} (hf : nd_F f) (h0 : s0 < 16) (hL : nd_L f (nd_so T) n s0 = true) : nd_fst (fun i => T (nd_ps f (nd_so T) s0 n n * 8 + i)) 8 < 8 := by
  have h := (nd_ps_L hf h0 hL n (Nat.le_refl _)).2.1
  rw [Nat.sub_self] at h
  obtain ⟨i, hi, h⟩ := nd_any_iff.mp h
  exact Nat.lt_of_le_of_lt (nd_fst_lt hi h) hi
theorem xe_lii {N : Nat → Nat → Bool} {p : Nat → Bool} {s : Nat} (hN : nd_T xN N 4) (hs : s < 16) (hx : nd_fst (fun i => p (nd_nx N s i)) 8 < 8) {post : Int32 → Prop} (hp : post (nI (nd_fst (fun i => p (nd_nx N s i)) 8))) : wpX_leastInputsInto post (xn, xr, xm, xc, xl, xT, xM, xN, xI, xP, xC, xH, xL, xD, xR, xK, xF) (nI s) (nI (nd_m p 16)) := by
  have hm := nd_m16 p
  refine loop_0 (fun m i (_ : Unit) => wX_leastInputsInto_2 post (nI s) (nI (nd_m p 16)) xn xr xm xc xl xT xM xN xI xP xC xH xL xD xR xK xF m (nI i)) (fun i _ => ∀ j, j < i → p (nd_nx N s j) = false) 8 () (fun u hu => absurd hu (by omega)) ?_ ?_
  · intro m _ h
    have := nd_fst_yes _ _ hx
    rw [h _ hx] at this
    cases this
  · intro m i _ hi h ih
    have hl := nd_nxl N s i
    refine br_f (nd_n8 hi) (xe_suc hN hs hi (xa_bit (by omega) (by omega) ?_))
    rw [nd_m_in hl]
    refine nd_br (fun z => nm_r (nI_1 i) (ih () (nd_lts h z))) (fun z => ?_)
    rw [nd_fst_eq (p := fun i => p (nd_nx N s i)) (by omega) h (fun _ => z)] at hp
    exact hp
theorem xe_lif {T : Nat → Nat → Bool} {n a s : Nat} (hT : nd_T xT T n) (hn : n ≤ 32) (ha : a < n) (hs : s < 16) (hx : nd_fst (fun i => T a (s * 8 + i)) 8 < 8) {post : Int32 → Prop} (hp : post (nI (nd_fst (fun i => T a (s * 8 + i)) 8))) : wpX_leastInputsFor post (xn, xr, xm, xc, xl, xT, xM, xN, xI, xP, xC, xH, xL, xD, xR, xK, xF) (nI a) (nI s) := by
  refine loop_0 (fun m i (_ : Unit) => wX_leastInputsFor_2 post (nI a) (nI s) xn xr xm xc xl xT xM xN xI xP xC xH xL xD xR xK xF m (nI i)) (fun i _ => ∀ j, j < i → T a (s * 8 + j) = false) 8 () (fun u hu => absurd hu (by omega)) ?_ ?_
  · intro m _ h
    have := nd_fst_yes _ _ hx
    rw [h _ hx] at this
    cases this
  · intro m i _ hi h ih
    refine br_f (nd_n8 hi) (xa_TI hT hn ha hs hi ?_)
    refine nd_br (fun z => nm_r (nI_1 i) (ih () (nd_lts h z))) (fun z => ?_)
    rw [nd_fst_eq (p := fun i => T a (s * 8 + i)) (by omega) h (fun _ => z)] at hp
    exact hp
theorem xe_keep {T N : Nat → Nat → Bool} {n a s0 k : Nat} (hT : nd_T xT T n) (hN : nd_T xN N 4) (hn : n ≤ 32) (ha : a < n) (h0 : s0 < 16) (hk : k < 16) (hL : nd_L (nd_nx N) (nd_so (T a)) k s0 = true)
    (hA : ∀ k, k < 16 → xL k = nI (nd_m (nd_L (nd_nx N) (nd_so (T a)) k) 16)) {post : SX → Prop}
    (h : ∀ t : Nat → Int32, (∀ j, j < k + 1 → t j = nI (nd_row (nd_nx N) (T a) s0 k j)) → post (xn, nI s0, xm, xc, nI (k + 1), xT, xM, xN, xI, xP, xC, xH, xL, xD, t, xK, xF)) : wpX_keepRoute post (xn, nI s0, xm, xc, xl, xT, xM, xN, xI, xP, xC, xH, xL, xD, xR, xK, xF) (nI a) (nI k) := by
  have hps := nd_ps_L (nd_nxF N) h0 hL
  refine loop_0 (fun m j (w : Int32 × (Nat → Int32)) => wX_keepRoute_8 post (nI a) (nI k) xn (nI s0) xm xc xl m w.1 (nI j) xT xM xN xI xP xC xH xL xD w.2 xK xF) (fun j w => w.1 = nI (nd_ps (nd_nx N) (nd_so (T a)) s0 k j) ∧ ∀ i, i < j → w.2 i = nI (nd_row (nd_nx N) (T a) s0 k i)) k (nI s0, xR) ⟨rfl, fun i hi => absurd hi (by omega)⟩ ?_ ?_
  · rintro m ⟨w1, w2⟩ ⟨rfl, hw⟩
    refine br_t (nI_le (Nat.le_refl _) (by omega)) (xe_lif hT hn ha (hps k (Nat.le_refl _)).1 (nd_ps_T (nd_nxF N) h0 hL) ⟨vp_in_nI hk (by omega), ?_⟩)
    refine nm_r (e' := upd w2 k (nI (nd_row (nd_nx N) (T a) s0 k k))) ?_ (nm_r (nI_1 k) (h _ (nd_lts ?_ pk_us)))
    · rw [nI_clamp (by omega), nd_row, if_neg (Nat.lt_irrefl k)]
    · intro i hi
      rw [pk_un (by omega)]; exact hw i hi
  · rintro m j ⟨w1, w2⟩ hj ⟨rfl, hw⟩ ih
    obtain ⟨p1, p2, p3⟩ := hps j (by omega)
    have p3 := p3 hj
    have e : nI k - 1 - nI j = nI (k - 1 - j) := by
      rw [show (1 : Int32) = nI 1 from rfl, pk_sub (by omega), pk_sub (by omega)]
    have er : nd_row (nd_nx N) (T a) s0 k j = nd_fst (fun i => nd_L (nd_nx N) (nd_so (T a)) (k - 1 - j) (nd_nx N (nd_ps (nd_nx N) (nd_so (T a)) s0 k j) i)) 8 := if_pos hj
    refine br_f (nI_ge hj (by omega)) ?_
    rw [e, nI_clamp (show k - 1 - j < 2 ^ 31 by omega), hA (k - 1 - j) (by omega)]
    refine ⟨vp_in_nI (by omega) (by omega), xe_lii hN p1 p3 ⟨vp_in_nI (by omega) (by omega), ?_⟩⟩
    refine nm_r (e' := upd w2 j (nI (nd_row (nd_nx N) (T a) s0 k j))) (by rw [nI_clamp (by omega), er]) ⟨vp_in_nI (by omega) (by omega), ?_⟩
    rw [nI_clamp (show j < 2 ^ 31 by omega), pk_us]
    refine xe_suc hN p1 (by rw [er]; exact p3) (nm_r (nI_1 j) (ih (nI (nd_nx N (nd_ps (nd_nx N) (nd_so (T a)) s0 k j) (nd_row (nd_nx N) (T a) s0 k j)), upd w2 j (nI (nd_row (nd_nx N) (T a) s0 k j))) ⟨?_, nd_lts ?_ pk_us⟩))
    · show nI (nd_nx N (nd_ps (nd_nx N) (nd_so (T a)) s0 k j) (nd_row (nd_nx N) (T a) s0 k j)) = nI (nd_ps (nd_nx N) (nd_so (T a)) s0 k (j + 1))
      rw [er, nd_ps]
    · intro i hi
      show upd w2 j (nI (nd_row (nd_nx N) (T a) s0 k j)) i = _
      rw [pk_un (by omega)]; exact hw i hi
end NDX
end
section
/-! the component: distances, check, looks -/
section NDX
variable {xn xr xm xc xl : Int32} {xT xM xN xI xP xC xH xL xD xR xK xF : Nat → Int32}
def nd_e (v : Nat) : Int32 := if v = 99 then -1 else nI v
theorem nd_e_n {v : Nat} (h : v < 16) : nd_e v = nI v := if_neg (by omega)
theorem nd_e_99 : nd_e 99 = -1 := rfl
/-- distances so far: held as ints, -1 for none -/
def nd_Di (t : Nat → Int32) (e : Nat → Nat) : Prop := ∀ s, s < 16 → t s = nd_e (e s) ∧ (e s < 16 ∨ e s = 99)
theorem xf_rh {f : Nat → Nat → Nat} {e : Nat → Nat} {s n : Nat} (hs : s < 16) (hn : n < 16) (hH : nd_Hr xH f 16) (hD : nd_Di xD e) {post : SX → Prop}
    (h : ∀ (t : Nat → Int32) (e' : Nat → Nat), nd_Di t e' → (∀ u, u < 16 → e' u = if nd_hr f s u = true ∧ e u = 99 then n else e u) → post (xn, xr, xm, xc, xl, xT, xM, xN, xI, xP, xC, xH, xL, t, xR, xK, xF)) : wpX_reachHeirs post (xn, xr, xm, xc, xl, xT, xM, xN, xI, xP, xC, xH, xL, xD, xR, xK, xF) (nI s) (nI n) := by
  have hm := nd_m16 (nd_hr f s)
  refine loop_0 (fun m k t => wX_reachHeirs_2 post (nI s) (nI n) xn xr xm xc xl m (nI k) xT xM xN xI xP xC xH xL t xR xK xF) (fun k t => ∃ e' : Nat → Nat, nd_Di t e' ∧ ∀ u, u < 16 → e' u = if (nd_hr f s u = true ∧ e u = 99) ∧ u < k then n else e u) 16 xD ⟨e, hD, fun u hu => by rw [if_neg (by omega)]⟩ ?_ ?_
  · rintro m t ⟨e', h1, h2⟩
    refine br_t nd_16 (h t e' h1 ?_)
    intro u hu
    rw [h2 u hu]
    by_cases z : nd_hr f s u = true ∧ e u = 99
    · rw [if_pos z, if_pos ⟨z, hu⟩]
    · rw [if_neg z, if_neg (fun y => z y.1)]
  · rintro m k t hk ⟨e', h1, h2⟩ ih
    have ek : e' k = e k := by rw [h2 k hk, if_neg (by omega)]
    have keep : ¬ (nd_hr f s k = true ∧ e k = 99) → wX_reachHeirs_2 post (nI s) (nI n) xn xr xm xc xl m (nI (k + 1)) xT xM xN xI xP xC xH xL t xR xK xF := by
      intro z
      refine ih t ⟨e', h1, ?_⟩
      intro u hu
      rw [h2 u hu]
      by_cases y : u = k
      · subst y
        rw [if_neg (by omega), if_neg (fun y => z y.1)]
      · by_cases w : (nd_hr f s u = true ∧ e u = 99) ∧ u < k
        · rw [if_pos w, if_pos ⟨w.1, by omega⟩]
        · rw [if_neg w, if_neg (fun y2 => w ⟨y2.1, by omega⟩)]
    refine br_f (nd_n16 hk) ⟨vp_in_nI hs (by omega), ?_⟩
    rw [nI_clamp (show s < 2 ^ 31 by omega), hH s hs]
    refine xa_bit (by omega) (by omega) ?_
    rw [nd_m_in hk]
    refine nd_br (fun z => nm_r (nI_1 k) (keep (fun y => by rw [z] at y; cases y.1))) (fun z => ⟨vp_in_nI hk (by omega), ?_⟩)
    rw [nI_clamp (show k < 2 ^ 31 by omega), (h1 k hk).1, ek]
    rcases (h1 k hk).2 with w | w
    · rw [ek] at w
      rw [nd_e_n w]
      exact br_t (nI_pos' (by omega)) (nm_r (nI_1 k) (keep (by omega)))
    · rw [ek] at w
      rw [w, nd_e_99]
      refine br_f (by decide) ⟨vp_in_nI hk (by omega), nm_e (nm_r (nI_1 k) (ih _ ⟨fun u => if u = k then n else e' u, ?_, ?_⟩))⟩
      · intro u hu
        dsimp only
        by_cases y : u = k
        · subst y
          rw [pk_us, if_pos rfl, nd_e_n hn]
          exact ⟨rfl, Or.inl hn⟩
        · rw [pk_un y, if_neg y]
          exact h1 u hu
      · intro u hu
        dsimp only
        by_cases y : u = k
        · subst y
          rw [if_pos rfl, if_pos ⟨⟨z, w⟩, by omega⟩]
        · rw [if_neg y, h2 u hu]
          by_cases w : (nd_hr f s u = true ∧ e u = 99) ∧ u < k
          · rw [if_pos w, if_pos ⟨w.1, by omega⟩]
          · rw [if_neg w, if_neg (fun y2 => w ⟨y2.1, by omega⟩)]
theorem xf_dist {N : Nat → Nat → Bool} {s0 : Nat} (h0 : s0 < 16) (hN : nd_T xN N 4) {post : SX → Prop}
    (h : ∀ (w t : Nat → Int32) (e : Nat → Nat), nd_D (nd_nx N) s0 e → nd_Di t e → post (xn, nI s0, xm, xc, xl, xT, xM, xN, xI, xP, xC, w, xL, t, xR, xK, xF)) : wpX_findDistances post (xn, nI s0, xm, xc, xl, xT, xM, xN, xI, xP, xC, xH, xL, xD, xR, xK, xF) := by
  refine xe_heirs hN (fun w hH => ?_)
  refine loop_0 (fun m k t => wX_findDistances_6 post xn (nI s0) xm xc xl m (nI k) xT xM xN xI xP xC w xL t xR xK xF) (fun k t => ∀ s, s < k → t s = -1) 16 xD (fun u hu => absurd hu (by omega)) ?_ ?_
  · intro m t ht
    refine br_t nd_16 ⟨vp_in_nI h0 (by omega), nm_r (e' := upd t s0 0) (by rw [nI_clamp (by omega)]) ?_⟩
    refine pk_loop (fun m n t => wX_findDistances_37 post m (nI n) xn (nI s0) xm xc xl xT xM xN xI xP xC w xL t xR xK xF) (fun n t => 1 ≤ n ∧ ∃ e, nd_H (nd_nx N) s0 n e ∧ nd_Di t e) 16 1 _ (by omega) ⟨Nat.le_refl _, fun s => if s = s0 then 0 else 99, nd_H_0, ?_⟩ ?_ ?_
    · intro s hs
      dsimp only
      by_cases z : s = s0
      · rw [z, pk_us, if_pos rfl]
        exact ⟨rfl, Or.inl (by omega)⟩
      · rw [pk_un z, if_neg z, ht s hs]
        exact ⟨rfl, Or.inr rfl⟩
    · rintro m t ⟨_, e, h1, h2⟩
      exact br_t nd_16 (h w t e (nd_H_D h1) h2)
    · rintro m n t hn ⟨h1, e, h2, h3⟩ ih
      refine br_f (nd_n16 hn) ?_
      have em : nI n - 1 = nI (n - 1) := pk_sub (b := 1) h1
      refine loop_0 (fun m' s t => wX_findDistances_45 post (wX_findDistances_37 post m) (nI n) m' (nI s) xn (nI s0) xm xc xl xT xM xN xI xP xC w xL t xR xK xF) (fun s t => ∃ e, nd_Q (nd_nx N) s0 n s e ∧ nd_Di t e) 16 t ⟨e, h2.1, h3⟩ ?_ ?_
      · rintro m' t ⟨e, h4, h5⟩
        exact br_t nd_16 (nm_r (nI_1 n) (ih t ⟨by omega, e, nd_H_s h1 hn h4, h5⟩))
      · rintro m' s t hs ⟨e, h4, h5⟩ ih2
        refine br_f (nd_n16 hs) ⟨vp_in_nI hs (by omega), ?_⟩
        rw [nI_clamp (show s < 2 ^ 31 by omega), (h5 s hs).1, em]
        have hd : nd_e (e s) = nI (n - 1) ↔ e s = n - 1 := by
          rcases (h5 s hs).2 with z | z
          · rw [nd_e_n z, nI_eq (by omega) (by omega)]
          · rw [z, nd_e_99]
            constructor
            · intro y; exact absurd y.symm (nd_m1 (by omega))
            · intro y; omega
        by_cases z : e s = n - 1
        · refine br_t (hd.mpr z) (xf_rh hs hn hH h5 (fun t' e' h6 h7 => ?_))
          refine nm_r (nI_1 s) (ih2 t' ⟨e', ?_, h6⟩)
          exact nd_Q_s h1 hn hs h4 (fun _ => h7) (fun y => absurd z y) (nd_nxF N)
        · refine br_f (fun y => z (hd.mp y)) (nm_r (nI_1 s) (ih2 t ⟨e, ?_, h5⟩))
          exact nd_Q_s h1 hn hs h4 (fun y => absurd y z) (fun _ t _ => rfl) (nd_nxF N)
  · intro m k t hk ht ih
    refine br_f (nd_n16 hk) ⟨vp_in_nI hk (by omega), nm_r (e' := upd t k (-1)) (by rw [nI_clamp (by omega)]) (nm_r (nI_1 k) (ih _ (nd_lts ?_ pk_us)))⟩
    intro s hs
    rw [pk_un (by omega)]; exact ht s hs
/-! what states tells of distances e -/
def nd_mx (e : Nat → Nat) : Nat → Nat
  | 0 => 0
  | k + 1 => if e k = 99 then nd_mx e k else if e k ≤ nd_mx e k then nd_mx e k else e k
theorem nd_mx_lt {e : Nat → Nat} (h : ∀ s, s < 16 → e s < 16 ∨ e s = 99) : ∀ k, k ≤ 16 → nd_mx e k < 16 := by
  intro k
  induction k with
  | zero => intro _; exact (by decide : 0 < 16)
  | succ k ih =>
    intro hk
    have h1 := ih (by omega)
    have h2 := h k (by omega)
    rw [nd_mx]
    split
    · exact h1
    · split
      · exact h1
      · omega
theorem nd_mx_congr {e e' : Nat → Nat} (h : ∀ s, s < 16 → e s = e' s) : ∀ k, k ≤ 16 → nd_mx e k = nd_mx e' k := by
  intro k
  induction k with
  | zero => intro _; rfl
  | succ k ih => intro hk; rw [nd_mx, nd_mx, ih (by omega), h k (by omega)]
def nd_sv (e : Nat → Nat) (what : Nat) : Nat :=
  if what = 0 then nd_cnt (fun s => decide (e s ≠ 99)) 16 else if what = 1 then nd_mx e 16 else nd_m (fun s => decide (e s ≠ 99)) 16
theorem nd_sv_congr {e e' : Nat → Nat} (h : ∀ s, s < 16 → e s = e' s) (w : Nat) : nd_sv e w = nd_sv e' w := by
  unfold nd_sv
  rw [nd_mx_congr h 16 (by omega), nd_cnt_congr (p := fun s => decide (e s ≠ 99)) (q := fun s => decide (e' s ≠ 99)) (fun i hi => by rw [h i hi]), nd_m_congr (p := fun s => decide (e s ≠ 99)) (q := fun s => decide (e' s ≠ 99)) (fun i hi => by rw [h i hi])]
theorem xf_states {e : Nat → Nat} {p : Int32} (hD : nd_Di xD e) {post : Int32 → SX → Prop} (h : post (if nd_in p 3 then nI (nd_sv e p.toNatClampNeg) else -1) (xn, xr, xm, xc, xl, xT, xM, xN, xI, xP, xC, xH, xL, xD, xR, xK, xF)) : ∃ m, wX_states_14 post p xn xr xm xc xl xT xM xN xI xP xC xH xL xD xR xK xF m 0 0 0 0 := by
  have hb := nd_mx_lt (fun s hs => (hD s hs).2)
  refine loop_0 (fun m s (w : Int32 × Int32 × Int32) => wX_states_14 post p xn xr xm xc xl xT xM xN xI xP xC xH xL xD xR xK xF m w.1 w.2.1 w.2.2 (nI s)) (fun s w => w = (nI (nd_cnt (fun s => decide (e s ≠ 99)) s), nI (nd_mx e s), nI (nd_m (fun s => decide (e s ≠ 99)) s))) 16 (0, 0, 0) rfl ?_ ?_
  · rintro m w rfl
    refine br_t nd_16 ?_
    rcases pk_ix p (n := 3) (by omega) with z | z | ⟨j, hj, rfl⟩
    · rw [nd_in_f (by omega) (Or.inl z), if_neg Bool.false_ne_true] at h
      exact br_t z h
    · rw [nd_in_f (by omega) (Or.inr z), if_neg Bool.false_ne_true] at h
      obtain ⟨j, h1, h2, rfl⟩ := nd_big (by omega) z
      exact br_f (nI_pos h2) (br_t (nI_lt (a := 2) (by omega) h2) h)
    · rw [nd_in_nI hj (by omega), if_pos rfl, nI_clamp (by omega)] at h
      have hj : j = 0 ∨ j = 1 ∨ j = 2 := by omega
      rcases hj with rfl | rfl | rfl
      · exact br_f (by decide) (br_f (by decide) (br_t (by decide) h))
      · exact br_f (by decide) (br_f (by decide) (br_f (by decide) (br_t (by decide) h)))
      · exact br_f (by decide) (br_f (by decide) (br_f (by decide) (br_f (by decide) (br_t (by decide) h))))
  · rintro m s w hs rfl ih
    have hb1 := hb s (by omega)
    refine br_f (nd_n16 hs) ⟨vp_in_nI hs (by omega), ?_⟩
    rw [nI_clamp (show s < 2 ^ 31 by omega), (hD s hs).1]
    rcases (hD s hs).2 with z | z
    · have zd : decide (e s ≠ 99) = true := decide_eq_true (by omega)
      rw [nd_e_n z]
      refine br_f (nI_pos (by omega)) (nm_r (nI_1 _) ⟨vp_in_nI hs (by omega), ?_⟩)
      refine pk_le (e s) (nd_mx e s) (fun y => ?_) (fun y => ⟨vp_in_nI hs (by omega), ?_⟩)
      · refine nm_r (nd_orb (by omega)) (nm_r (nI_1 s) (ih (nI (nd_cnt (fun s => decide (e s ≠ 99)) s + 1), nI (nd_mx e s), nI (nd_m (fun s => decide (e s ≠ 99)) s ||| 2 ^ s)) ?_))
        rw [nd_cnt_t (q := fun s => decide (e s ≠ 99)) zd, nd_m_t (p := fun s => decide (e s ≠ 99)) zd, nd_mx, if_neg (by omega), if_pos y]
      · refine nm_r (nd_orb (by omega)) (nm_r (nI_1 s) (ih (nI (nd_cnt (fun s => decide (e s ≠ 99)) s + 1), nI (e s), nI (nd_m (fun s => decide (e s ≠ 99)) s ||| 2 ^ s)) ?_))
        rw [nd_cnt_t (q := fun s => decide (e s ≠ 99)) zd, nd_m_t (p := fun s => decide (e s ≠ 99)) zd, nd_mx, if_neg (by omega), if_neg (by omega)]
    · have zd : decide (e s ≠ 99) = false := decide_eq_false (fun y => y z)
      rw [z, nd_e_99]
      refine br_t (by decide) (nm_r (nI_1 s) (ih _ ?_))
      rw [nd_cnt_f (q := fun s => decide (e s ≠ 99)) zd, nd_m_f (p := fun s => decide (e s ≠ 99)) zd, nd_mx, if_pos z]
/-! check -/
theorem xf_com {f : Nat → Nat → Nat} {g t : Nat → Bool} {all : Bool} (hf : nd_F f) (hH : nd_Hr xH f 16) {post : Int32 → Prop} (hp : post (nI (nd_m (nd_co f all g t 16) 16))) : wpX_comingTo post (xn, xr, xm, xc, xl, xT, xM, xN, xI, xP, xC, xH, xL, xD, xR, xK, xF) (nI (nd_m g 16)) (nI (nd_m t 16)) (nd_b all) := by
  refine loop_0 (fun m k r => wX_comingTo_6 post (nI (nd_m g 16)) (nI (nd_m t 16)) (nd_b all) xn xr xm xc xl xT xM xN xI xP xC xH xL xD xR xK xF m r (nI k)) (fun k r => r = nI (nd_m (nd_co f all g t k) 16)) 16 _ rfl ?_ ?_
  · rintro m r rfl
    exact br_t nd_16 hp
  · rintro m k r hk rfl ih
    refine br_f (nd_n16 hk) (xe_lead hf hH (nm_r ?_ (nm_r (nI_1 k) (ih _ rfl))))
    rw [nx_and, nd_m_and, nd_or, nd_m_or]
    rfl
theorem xf_stay {f : Nat → Nat → Nat} {g : Nat → Bool} {all : Bool} (hf : nd_F f) (hH : nd_Hr xH f 16) {post : Int32 → Prop} (hp : post (nI (nd_m (nd_st f all g 16) 16))) : wpX_stayingIn post (xn, xr, xm, xc, xl, xT, xM, xN, xI, xP, xC, xH, xL, xD, xR, xK, xF) (nI (nd_m g 16)) (nd_b all) := by
  refine loop_0 (fun m k r => wX_stayingIn_5 post (nI (nd_m g 16)) (nd_b all) xn xr xm xc xl xT xM xN xI xP xC xH xL xD xR xK xF m r (nI k)) (fun k r => r = nI (nd_m (nd_st f all g k) 16)) 16 _ rfl ?_ ?_
  · rintro m r rfl
    exact br_t nd_16 hp
  · rintro m k r hk rfl ih
    refine br_f (nd_n16 hk) (xe_lead hf hH (nm_r ?_ (nm_r (nI_1 k) (ih _ rfl))))
    rw [nx_and, nd_m_and]
    rfl
def nd_ck (f : Nat → Nat → Nat) (j : Nat) (A B : Nat → Bool) : Nat :=
  if j < 2 then nd_m (nd_ld f (decide (j % 2 = 1)) A) 16
  else if j < 4 then nd_m (nd_co f (decide (j % 2 = 1)) A (fun _ => true) 16) 16
  else if j < 6 then nd_m (nd_st f (decide (j % 2 = 1)) A 16) 16
  else nd_m (nd_co f (decide (j % 2 = 1)) B A 16) 16
theorem xf_check {T : Nat → Nat → Bool} {f : Nat → Nat → Nat} {n a j b : Nat} {p3 : Int32} (hT : nd_T xT T n) (hn : n ≤ 32) (ha : a < n) (hj : j < 8) (hb : 6 ≤ j → b < n ∧ p3 = nI b) (hf : nd_F f) (hH : nd_Hr xH f 16) {post : Int32 → SX → Prop}
    (h : post (nI (nd_ck f j (nd_so (T a)) (nd_so (T b)))) (xn, xr, xm, xc, xl, xT, xM, xN, xI, xP, xC, xH, xL, xD, xR, xK, xF)) : wX_check_52 post (nI j) (nI a) p3 (nd_b (decide (j % 2 = 1))) xn xr xm xc xl xT xM xN xI xP xC xH xL xD xR xK xF := by
  refine xe_set hT hn ha ?_
  unfold nd_ck at h
  by_cases h2 : j < 2
  · rw [if_pos h2] at h
    exact br_f (nI_ge (b := 2) h2 (by omega)) (xe_lead hf hH h)
  · rw [if_neg h2] at h
    refine br_t (nI_le (a := 2) (by omega) (by omega)) ?_
    by_cases h4 : j < 4
    · rw [if_pos h4] at h
      refine br_f (nI_ge (b := 4) h4 (by omega)) ?_
      rw [show (65535 : Int32) = nI (nd_m (fun _ => true) 16) from by rw [nd_m_all]; rfl]
      exact xf_com hf hH h
    · rw [if_neg h4] at h
      refine br_t (nI_le (a := 4) (by omega) (by omega)) ?_
      by_cases h6 : j < 6
      · rw [if_pos h6] at h
        exact br_f (nI_ge (b := 6) h6 (by omega)) (xf_stay hf hH h)
      · rw [if_neg h6] at h
        obtain ⟨hb', rfl⟩ := hb (by omega)
        exact br_t (nI_le (a := 6) (by omega) (by omega)) (xe_set hT hn hb' (xf_com hf hH h))
/-! looks -/
theorem xf_net {T N : Nat → Nat → Bool} {n a s : Nat} (hT : nd_T xT T n) (hn : n ≤ 32) (ha : a < n) (hs : s < 16) {post : Int32 → Prop} (hp : post (nI (nd_lk (nd_nx N) (fun s i => T a (s * 8 + i)) 0 s))) : wpX_leastWithSameNet post (xn, xr, xm, xc, xl, xT, xM, xN, xI, xP, xC, xH, xL, xD, xR, xK, xF) (nI a) (nI s) := by
  refine loop_0 (fun m t (_ : Unit) => wX_leastWithSameNet_2 post (nI a) (nI s) xn xr xm xc xl xT xM xN xI xP xC xH xL xD xR xK xF m (nI t)) (fun k _ => ∀ t, t < k → nd_E (nd_nx N) (fun s i => T a (s * 8 + i)) 0 t s = false) s () (fun u hu => absurd hu (by omega)) ?_ ?_
  · intro m _ h
    have e : nd_lk (nd_nx N) (fun s i => T a (s * 8 + i)) 0 s = s := nd_fst_eq (Nat.le_refl _) h (fun z => absurd z (Nat.lt_irrefl _))
    rw [e] at hp
    exact br_t (nI_le (Nat.le_refl _) (by omega)) hp
  · intro m t _ ht h ih
    refine br_f (nI_ge ht (by omega)) ?_
    refine loop_0 (fun m' i r => wX_leastWithSameNet_13 post (wX_leastWithSameNet_2 post (nI a) (nI s) xn xr xm xc xl xT xM xN xI xP xC xH xL xD xR xK xF m) (nI a) (nI s) (nI t) xn xr xm xc xl xT xM xN xI xP xC xH xL xD xR xK xF m' r (nI i)) (fun i r => r = nd_b (nd_all (fun i => T a (t * 8 + i) == T a (s * 8 + i)) i)) 8 1 rfl ?_ ?_
    · rintro m' r rfl
      refine br_t nd_8 (nd_br (fun z => nm_r (nI_1 t) (ih () (nd_lts h z))) (fun z => ?_))
      have e : nd_lk (nd_nx N) (fun s i => T a (s * 8 + i)) 0 s = t := nd_fst_eq (by omega) h (fun _ => z)
      rw [e] at hp
      exact hp
    · rintro m' i r hi rfl ih2
      refine br_f (nd_n8 hi) (xa_TI hT hn ha (by omega) hi (xa_TI hT hn ha hs hi ?_))
      refine nd_bq (fun w => nm_r (nI_1 i) (ih2 _ ?_)) (fun w => nm_r (nI_1 i) (ih2 0 ?_))
      · rw [nd_all, w, BEq.rfl, Bool.and_true]
      · rw [nd_all, beq_eq_false_iff_ne.mpr w, Bool.and_false]
        rfl
theorem nd_lkq {a b : Nat} (ha : a < 16) (hb : b < 16) {A B : Prop} (f : (a == b) = true → A) (g : (a == b) = false → B) : (nI a = nI b → A) ∧ (¬ nI a = nI b → B) :=
  pk_eq a b (fun z => f (beq_iff_eq.mpr z)) (fun z => g (beq_eq_false_iff_ne.mpr z)) rfl rfl (by omega) (by omega)
theorem xf_her {N : Nat → Nat → Bool} {g : Nat → Nat → Bool} {r s : Nat} (hN : nd_T xN N 4) (hK : ∀ s, s < 16 → xK s = nI (nd_lk (nd_nx N) g r s)) (hs : s < 16) {post : Int32 → Prop} (hp : post (nI (nd_lk (nd_nx N) g (r + 1) s))) : wpX_leastWithSameHeirs post (xn, xr, xm, xc, xl, xT, xM, xN, xI, xP, xC, xH, xL, xD, xR, xK, xF) (nI s) := by
  have hl : ∀ s, s < 16 → nd_lk (nd_nx N) g r s < 16 := fun s hs => Nat.lt_of_le_of_lt (nd_lk_le r s) hs
  rw [← nd_lk_s] at hp
  refine loop_0 (fun m t (_ : Unit) => wX_leastWithSameHeirs_2 post (nI s) xn xr xm xc xl xT xM xN xI xP xC xH xL xD xR xK xF m (nI t)) (fun k _ => ∀ t, t < k → (nd_all (fun i => nd_lk (nd_nx N) g r (nd_nx N t i) == nd_lk (nd_nx N) g r (nd_nx N s i)) 8 && (nd_lk (nd_nx N) g r t == nd_lk (nd_nx N) g r s)) = false) s () (fun u hu => absurd hu (by omega)) ?_ ?_
  · intro m _ h
    rw [nd_fst_eq (p := fun t => nd_all (fun i => nd_lk (nd_nx N) g r (nd_nx N t i) == nd_lk (nd_nx N) g r (nd_nx N s i)) 8 && (nd_lk (nd_nx N) g r t == nd_lk (nd_nx N) g r s)) (Nat.le_refl _) h (fun z => absurd z (Nat.lt_irrefl _))] at hp
    exact br_t (nI_le (Nat.le_refl _) (by omega)) hp
  · intro m t _ ht h ih
    have ht16 : t < 16 := by omega
    have inner : ∀ b : Bool, b = (nd_lk (nd_nx N) g r t == nd_lk (nd_nx N) g r s) → ∃ m', wX_leastWithSameHeirs_31 post (wX_leastWithSameHeirs_2 post (nI s) xn xr xm xc xl xT xM xN xI xP xC xH xL xD xR xK xF m) (nI s) (nI t) xn xr xm xc xl xT xM xN xI xP xC xH xL xD xR xK xF m' (nd_b b) 0 := by
      intro b hb
      refine loop_0 (fun m' i r' => wX_leastWithSameHeirs_31 post (wX_leastWithSameHeirs_2 post (nI s) xn xr xm xc xl xT xM xN xI xP xC xH xL xD xR xK xF m) (nI s) (nI t) xn xr xm xc xl xT xM xN xI xP xC xH xL xD xR xK xF m' r' (nI i)) (fun i r' => r' = nd_b (nd_all (fun i => nd_lk (nd_nx N) g r (nd_nx N t i) == nd_lk (nd_nx N) g r (nd_nx N s i)) i && b)) 8 _ (by rw [nd_all, Bool.true_and]) ?_ ?_
      · rintro m' r' rfl
        refine br_t nd_8 (nd_br (fun z => nm_r (nI_1 t) (ih () (nd_lts h (by rw [← hb]; exact z)))) (fun z => ?_))
        rw [nd_fst_eq (p := fun t => nd_all (fun i => nd_lk (nd_nx N) g r (nd_nx N t i) == nd_lk (nd_nx N) g r (nd_nx N s i)) 8 && (nd_lk (nd_nx N) g r t == nd_lk (nd_nx N) g r s)) (by omega) h (fun _ => by rw [← hb]; exact z)] at hp
        exact hp
      · rintro m' i r' hi rfl ih2
        have l1 := nd_nxl N t i
        have l2 := nd_nxl N s i
        refine br_f (nd_n8 hi) (xe_suc hN ht16 hi (xe_suc hN hs hi ⟨vp_in_nI l1 (by omega), vp_in_nI l2 (by omega), ?_⟩))
        rw [nI_clamp (show nd_nx N t i < 2 ^ 31 by omega), nI_clamp (show nd_nx N s i < 2 ^ 31 by omega), hK _ l1, hK _ l2]
        refine nd_lkq (hl _ l1) (hl _ l2) (fun w => nm_r (nI_1 i) (ih2 _ ?_)) (fun w => nm_r (nI_1 i) (ih2 0 ?_))
        · rw [nd_all, w, Bool.and_true]
        · rw [nd_all, w, Bool.and_false, Bool.false_and]
          rfl
    refine br_f (nI_ge ht (by omega)) ⟨vp_in_nI ht16 (by omega), vp_in_nI hs (by omega), ?_⟩
    rw [nI_clamp (show t < 2 ^ 31 by omega), nI_clamp (show s < 2 ^ 31 by omega), hK t ht16, hK s hs]
    exact nd_lkq (hl t ht16) (hl s hs) (fun w => inner true w.symm) (fun w => inner false w.symm)
theorem xf_looks {T N : Nat → Nat → Bool} {n a : Nat} (hT : nd_T xT T n) (hN : nd_T xN N 4) (hn : n ≤ 32) (ha : a < n) {post : SX → Prop}
    (h : ∀ t w : Nat → Int32, (∀ s, s < 16 → t s = nI (nd_lk (nd_nx N) (fun s i => T a (s * 8 + i)) 16 s)) → post (xn, xr, xm, xc, xl, xT, xM, xN, xI, xP, xC, xH, xL, xD, xR, t, w)) : wpX_findLooks post (xn, xr, xm, xc, xl, xT, xM, xN, xI, xP, xC, xH, xL, xD, xR, xK, xF) (nI a) := by
  refine loop_0 (fun m s t => wX_findLooks_2 post (nI a) xn xr xm xc xl m (nI s) xT xM xN xI xP xC xH xL xD xR t xF) (fun k t => ∀ s, s < k → t s = nI (nd_lk (nd_nx N) (fun s i => T a (s * 8 + i)) 0 s)) 16 xK (fun u hu => absurd hu (by omega)) ?_ ?_
  · intro m t ht
    refine br_t nd_16 ?_
    refine loop_0 (fun m r (w : (Nat → Int32) × (Nat → Int32)) => wX_findLooks_28 post xn xr xm xc xl m (nI r) xT xM xN xI xP xC xH xL xD xR w.1 w.2) (fun r w => ∀ s, s < 16 → w.1 s = nI (nd_lk (nd_nx N) (fun s i => T a (s * 8 + i)) r s)) 16 (t, xF) ht ?_ ?_
    · rintro m ⟨w1, w2⟩ hw
      exact br_t nd_16 (h w1 w2 hw)
    · rintro m r ⟨w1, w2⟩ hr hw ih
      refine br_f (nd_n16 hr) ?_
      refine loop_0 (fun m' s v => wX_findLooks_36 post (wX_findLooks_28 post xn xr xm xc xl m) (nI r) xn xr xm xc xl m' (nI s) xT xM xN xI xP xC xH xL xD xR w1 v) (fun k v => ∀ s, s < k → v s = nI (nd_lk (nd_nx N) (fun s i => T a (s * 8 + i)) (r + 1) s)) 16 w2 (fun u hu => absurd hu (by omega)) ?_ ?_
      · intro m' v hv
        refine br_t nd_16 ?_
        refine loop_0 (fun m' s v' => wX_findLooks_61 post (wX_findLooks_28 post xn xr xm xc xl m) (nI r) xn xr xm xc xl m' (nI s) xT xM xN xI xP xC xH xL xD xR v' v) (fun k v' => ∀ s, s < k → v' s = nI (nd_lk (nd_nx N) (fun s i => T a (s * 8 + i)) (r + 1) s)) 16 w1 (fun u hu => absurd hu (by omega)) ?_ ?_
        · intro m' v' hv'
          exact br_t nd_16 (nm_r (nI_1 r) (ih (v', v) hv'))
        · intro m' s v' hs hv' ih2
          refine br_f (nd_n16 hs) ⟨vp_in_nI hs (by omega), vp_in_nI hs (by omega), nm_r (e' := upd v' s (v s)) (by rw [nI_clamp (by omega)]) (nm_r (nI_1 s) (ih2 _ (nd_lts ?_ (pk_us.trans (hv s hs)))))⟩
          intro u hu
          rw [pk_un (by omega)]; exact hv' u hu
      · intro m' s v hs hv ih2
        refine br_f (nd_n16 hs) (xf_her hN hw hs ⟨vp_in_nI hs (by omega), ?_⟩)
        refine nm_r (e' := upd v s (nI (nd_lk (nd_nx N) (fun s i => T a (s * 8 + i)) (r + 1) s))) (by rw [nI_clamp (by omega)]) (nm_r (nI_1 s) (ih2 _ (nd_lts ?_ pk_us)))
        intro u hu
        rw [pk_un (by omega)]; exact hv u hu
  · intro m s t hs ht ih
    refine br_f (nd_n16 hs) (xf_net (N := N) hT hn ha hs ⟨vp_in_nI hs (by omega), ?_⟩)
    refine nm_r (e' := upd t s (nI (nd_lk (nd_nx N) (fun s i => T a (s * 8 + i)) 0 s))) (by rw [nI_clamp (by omega)]) (nm_r (nI_1 s) (ih _ (nd_lts ?_ pk_us)))
    intro u hu
    rw [pk_un (by omega)]; exact ht u hu
theorem xf_cnt {L : Nat → Nat} (hl : ∀ s, s < 16 → L s ≤ s) (hK : ∀ s, s < 16 → xK s = nI (L s)) {post : Int32 → SX → Prop} (h : post (nI (nd_cnt (fun s => L s == s) 16)) (xn, xr, xm, xc, xl, xT, xM, xN, xI, xP, xC, xH, xL, xD, xR, xK, xF)) : ∃ m, wX_alike_46 post xn xr xm xc xl xT xM xN xI xP xC xH xL xD xR xK xF m 0 0 := by
  refine loop_0 (fun m s r => wX_alike_46 post xn xr xm xc xl xT xM xN xI xP xC xH xL xD xR xK xF m r (nI s)) (fun s r => r = nI (nd_cnt (fun s => L s == s) s)) 16 0 rfl ?_ ?_
  · rintro m r rfl
    exact br_t nd_16 h
  · rintro m s r hs rfl ih
    have := hl s hs
    refine br_f (nd_n16 hs) ⟨vp_in_nI hs (by omega), ?_⟩
    rw [nI_clamp (show s < 2 ^ 31 by omega), hK s hs]
    refine nd_lkq (by omega) hs (fun z => nm_r (nI_1 _) (nm_r (nI_1 s) (ih _ ?_))) (fun z => nm_r (nI_1 s) (ih _ ?_))
    · rw [nd_cnt_t (q := fun s => L s == s) z]
    · rw [nd_cnt_f (q := fun s => L s == s) z]
end NDX
end
section
/-! the reference: bits of longs, gate -/
theorem nd_wc : ∀ k, k < 64 → ((nI k).toInt64 &&& 63) = lN k := by decide +kernel
theorem nd_wsm : ∀ k, k < 64 → (BitVec.ofNat 64 k).smod 64 = BitVec.ofNat 64 k := by decide +kernel
theorem nd_w1 : ∀ k, k < 64 → ((1 : Int64) <<< ((nI k).toInt64 &&& 63)).toBitVec = BitVec.twoPow 64 k := by decide +kernel
theorem nd_l1 (w : Int64) {k : Nat} (hk : k < 64) : ((w >>> ((nI k).toInt64 &&& 63)) &&& 1) = 1 ↔ w.toBitVec.getLsbD k = true := by
  have e : (w >>> ((nI k).toInt64 &&& 63)).toBitVec = w.toBitVec.sshiftRight k := by
    rw [nd_wc k hk, Int64.toBitVec_shiftRight]
    show w.toBitVec.sshiftRight ((BitVec.ofNat 64 k).smod 64).toNat = _
    rw [nd_wsm k hk, BitVec.toNat_ofNat, Nat.mod_eq_of_lt (by omega)]
  rw [← Int64.toBitVec_inj, Int64.toBitVec_and, e]
  show (w.toBitVec.sshiftRight k &&& 1#64) = 1#64 ↔ _
  rw [BitVec.and_one_eq_setWidth_ofBool_getLsbD, BitVec.getLsbD_sshiftRight, Nat.add_zero, if_pos hk]
  cases w.toBitVec.getLsbD k <;> decide
theorem nd_x63 {x : Nat} (hx : x < 128) : nI x &&& 63 = nI (x % 64) := pk_andN (by omega) 6 (by decide)
def nd_yb (l h : Nat → Int64) (a x : Nat) : Bool := if x < 64 then (l a).toBitVec.getLsbD x else (h a).toBitVec.getLsbD (x - 64)
/-- the rows of the longs are the functions T -/
def nd_Y (l h : Nat → Int64) (T : Nat → Nat → Bool) : Prop := ∀ a x, a < 36 → x < 128 → nd_yb l h a x = T a x
section NDY
variable {yn ys yt ye : Int32} {yl yh : Nat → Int64} {yI yP yC yF yA yQ yR : Nat → Int32}
theorem ya_bit0 {a x : Nat} (ha : a < 37) (hx : x < 128) {post : Int32 → Prop} (hp : post (nd_b (nd_yb yl yh a x))) : wpY_bit post (yn, ys, yt, ye, yl, yh, yI, yP, yC, yF, yA, yQ, yR) (nI a) (nI x) := by
  have go : ∀ w : Int64, w.toBitVec.getLsbD (x % 64) = nd_yb yl yh a x → wY_bit_21 post (nI x) w yn ys yt ye yl yh yI yP yC yF yA yQ yR := by
    intro w hw
    unfold wY_bit_21
    rw [nd_x63 hx, nd_l1 w (Nat.mod_lt _ (by decide)), hw]
    revert hp
    cases nd_yb yl yh a x
    · intro hp; exact br_f (by decide) hp
    · intro hp; exact br_t rfl hp
  have hc : (nI a).toNatClampNeg = a := nI_clamp (by omega)
  refine pk_le 64 x (fun z => ⟨vp_in_nI ha (by omega), go _ ?_⟩) (fun z => ⟨vp_in_nI ha (by omega), go _ ?_⟩)
  · rw [hc, nd_yb, if_neg (by omega), show x % 64 = x - 64 by omega]
  · rw [hc, nd_yb, if_pos (by omega), show x % 64 = x by omega]
theorem ya_bit {T : Nat → Nat → Bool} {a x : Nat} (hY : nd_Y yl yh T) (ha : a < 36) (hx : x < 128) {post : Int32 → Prop} (hp : post (nd_b (T a x))) : wpY_bit post (yn, ys, yt, ye, yl, yh, yI, yP, yC, yF, yA, yQ, yR) (nI a) (nI x) :=
  ya_bit0 (by omega) hx (by rw [hY a x ha hx]; exact hp)
theorem ya_set14 {a x : Nat} {b : Bool} {z : Int64} (ha : a < 37) (hx : x < 128) (hz : ∀ i, i < 64 → z.toBitVec.getLsbD i = (decide (i = x % 64) && b)) {post : SY → Prop}
    (h : ∀ l w : Nat → Int64, (∀ a' x', x' < 128 → nd_yb l w a' x' = (nd_yb yl yh a' x' || (decide (a' = a) && (decide (x' = x) && b)))) → post (yn, ys, yt, ye, l, w, yI, yP, yC, yF, yA, yQ, yR)) : wY_set_14 post (nI a) (nI x) z yn ys yt ye yl yh yI yP yC yF yA yQ yR := by
  have hc : (nI a).toNatClampNeg = a := nI_clamp (by omega)
  refine pk_le 64 x (fun y => ⟨vp_in_nI ha (by omega), vp_in_nI ha (by omega), nm_e (h _ _ ?_)⟩) (fun y => ⟨vp_in_nI ha (by omega), vp_in_nI ha (by omega), nm_e (h _ _ ?_)⟩)
  · intro a' x' hx'
    rw [hc]
    unfold nd_yb
    by_cases h6 : x' < 64
    · rw [if_pos h6, if_pos h6, decide_eq_false (show ¬ x' = x by omega), Bool.false_and, Bool.and_false, Bool.or_false]
    · rw [if_neg h6, if_neg h6]
      by_cases e : a' = a
      · subst e
        rw [pk_uLs, Int64.toBitVec_or, BitVec.getLsbD_or, hz _ (by omega), decide_eq_true rfl, Bool.true_and]
        by_cases e2 : x' = x
        · subst e2
          rw [decide_eq_true (show x' - 64 = x' % 64 by omega), decide_eq_true rfl]
        · rw [decide_eq_false (show ¬ x' - 64 = x % 64 by omega), decide_eq_false e2]
      · rw [pk_uLn e, decide_eq_false e, Bool.false_and, Bool.or_false]
  · intro a' x' hx'
    rw [hc]
    unfold nd_yb
    by_cases h6 : x' < 64
    · rw [if_pos h6, if_pos h6]
      by_cases e : a' = a
      · subst e
        rw [pk_uLs, Int64.toBitVec_or, BitVec.getLsbD_or, hz _ (by omega), decide_eq_true rfl, Bool.true_and]
        by_cases e2 : x' = x
        · subst e2
          rw [decide_eq_true (show x' = x' % 64 by omega), decide_eq_true rfl]
        · rw [decide_eq_false (show ¬ x' = x % 64 by omega), decide_eq_false e2]
      · rw [pk_uLn e, decide_eq_false e, Bool.false_and, Bool.or_false]
    · rw [if_neg h6, if_neg h6, decide_eq_false (show ¬ x' = x by omega), Bool.false_and, Bool.and_false, Bool.or_false]
theorem ya_set {a x : Nat} {b : Bool} (ha : a < 37) (hx : x < 128) {post : SY → Prop}
    (h : ∀ l w : Nat → Int64, (∀ a' x', x' < 128 → nd_yb l w a' x' = (nd_yb yl yh a' x' || (decide (a' = a) && (decide (x' = x) && b)))) → post (yn, ys, yt, ye, l, w, yI, yP, yC, yF, yA, yQ, yR)) : wpY_set post (yn, ys, yt, ye, yl, yh, yI, yP, yC, yF, yA, yQ, yR) (nI a) (nI x) (nd_b b) := by
  cases b
  · refine br_t rfl (ya_set14 (b := false) ha hx ?_ h)
    intro i _
    rw [Bool.and_false]
    exact BitVec.getLsbD_zero
  · refine br_f (by decide) (ya_set14 (b := true) ha hx ?_ h)
    intro i hi
    rw [nd_x63 hx, nd_w1 _ (Nat.mod_lt _ (by decide)), BitVec.getLsbD_twoPow, Bool.and_true, decide_eq_true (show x % 64 < 64 from Nat.mod_lt _ (by decide)), Bool.true_and]
    by_cases e : x % 64 = i
    · rw [decide_eq_true e, decide_eq_true e.symm]
    · rw [decide_eq_false e, decide_eq_false (fun y => e y.symm)]
theorem nd_yb_up {l h : Nat → Int64} {a b a' x : Nat} : nd_yb (vp_updL l b (l a)) (vp_updL h b (h a)) a' x = if a' = b then nd_yb l h a x else nd_yb l h a' x := by
  unfold nd_yb
  by_cases e : a' = b
  · subst e
    rw [pk_uLs, pk_uLs, if_pos rfl]
  · rw [pk_uLn e, pk_uLn e, if_neg e]
theorem ya_copy {a b : Nat} (ha : a < 37) (hb : b < 37) {post : SY → Prop}
    (h : ∀ l w : Nat → Int64, (∀ a' x', nd_yb l w a' x' = if a' = b then nd_yb yl yh a x' else nd_yb yl yh a' x') → post (yn, ys, yt, ye, l, w, yI, yP, yC, yF, yA, yQ, yR)) : wpY_copy post (yn, ys, yt, ye, yl, yh, yI, yP, yC, yF, yA, yQ, yR) (nI a) (nI b) := by
  have hc : (nI a).toNatClampNeg = a := nI_clamp (by omega)
  have hd : (nI b).toNatClampNeg = b := nI_clamp (by omega)
  refine ⟨vp_in_nI ha (by omega), vp_in_nI hb (by omega), nm_e ⟨vp_in_nI ha (by omega), vp_in_nI hb (by omega), nm_e (h _ _ ?_)⟩⟩
  intro a' x'
  rw [hc, hd]
  exact nd_yb_up
theorem ya_net {n : Nat} {p : Int32} (hn : n ≤ 32) {post : Int32 → Prop} (hp : post (nd_b (nd_in p n))) : wpY_isNet post (nI n, ys, yt, ye, yl, yh, yI, yP, yC, yF, yA, yQ, yR) p :=
  nd_rng rfl (by omega) hp
theorem ya_amo {p q : Int32} (n : Nat) (hq : q = nI n) (hn : n < 2 ^ 31) {post : Int32 → Prop} (hp : post (nd_b (nd_in p n))) : wpY_among post (yn, ys, yt, ye, yl, yh, yI, yP, yC, yF, yA, yQ, yR) p q :=
  nd_rng hq hn hp
theorem nd_off_i : ∀ x, x < 128 → ∀ v, v < 7 → nI x &&& (((1 : Int32) <<< (nI v &&& 31)) ^^^ (-1)) = nI (nd_off x v) := by decide +kernel
theorem ya_with {x v : Nat} {b : Bool} (hx : x < 128) (hv : v < 7) {post : Int32 → Prop} (hp : post (nI (nd_wi x v b))) : wpY_with post (yn, ys, yt, ye, yl, yh, yI, yP, yC, yF, yA, yQ, yR) (nI x) (nI v) (nd_b b) := by
  cases b
  · refine br_t rfl ?_
    rw [nd_off_i x hx v hv]
    exact hp
  · refine br_f (by decide) ?_
    rw [nd_orb (by omega)]
    exact hp
theorem nd_and1 {b : Bool} {post : Int32 → Prop} {A : Prop} (hp : post (nd_b b)) (f : post 1 → A) : (nd_b b = 0 → post 0) ∧ (¬ nd_b b = 0 → A) := by
  cases b
  · exact br_t rfl hp
  · exact br_f (by decide) (f hp)
theorem yc_71 {n : Nat} {j p : Int32} (hn : n ≤ 32) {post : Int32 → Prop} (hp : post (nd_b (nd_in p n))) (hj : ¬ j = 9) : wY_legal_71 post j p (nI n) ys yt ye yl yh yI yP yC yF yA yQ yR :=
  ya_net hn (nd_and1 hp (fun hp => br_f hj hp))
theorem yc_legal {n : Nat} {p0 p1 p2 p3 : Int32} (hn : n ≤ 32) {post : Int32 → Prop} (hp : post (nd_b (nd_in p0 10 && nd_lg n p0.toNatClampNeg p1 p2 p3))) : wpY_legal post (nI n, ys, yt, ye, yl, yh, yI, yP, yC, yF, yA, yQ, yR) p0 p1 p2 p3 := by
  unfold wpY_legal
  dsimp only
  cases z : nd_in p0 10
  · rw [z, Bool.false_and] at hp
    refine ya_amo 10 rfl (by omega) ?_
    rw [z]
    exact br_t rfl hp
  · rw [z, Bool.true_and] at hp
    refine ya_amo 10 rfl (by omega) ?_
    rw [z]
    refine br_f (by decide) ?_
    obtain ⟨j, hj, rfl⟩ := (nd_in_iff (by omega)).mp z
    rw [nI_clamp (by omega)] at hp
    rcases nd_10 hj with rfl | rfl | rfl | rfl | rfl | rfl | rfl | rfl | rfl | rfl
    · refine ya_net hn (nd_and1 hp (fun hp => ?_))
      repeat (first | exact hp | refine br_t (by decide) ?_ | refine br_f (by decide) ?_)
    · refine ya_net hn (nd_and hp (fun hp => br_f (by decide) (br_f (by decide) (ya_net hn (nd_and1 hp (fun hp => ?_))))))
      repeat (first | exact hp | refine br_t (by decide) ?_ | refine br_f (by decide) ?_)
    · refine ya_net hn (nd_and hp (fun hp => br_f (by decide) (br_f (by decide) (ya_net hn (nd_and1 hp (fun hp => ?_))))))
      repeat (first | exact hp | refine br_t (by decide) ?_ | refine br_f (by decide) ?_)
    · refine ya_net hn (nd_and hp (fun hp => br_f (by decide) (br_f (by decide) (ya_net hn (nd_and1 hp (fun hp => ?_))))))
      repeat (first | exact hp | refine br_t (by decide) ?_ | refine br_f (by decide) ?_)
    · exact ya_net hn (nd_and hp (fun hp => br_f (by decide) (br_f (by decide) (ya_net hn (nd_and hp (fun hp => br_t (by decide) (br_t (by decide) (yc_71 hn hp (by decide)))))))))
    · exact ya_net hn (nd_and hp (fun hp => br_f (by decide) (br_f (by decide) (ya_net hn (nd_and hp (fun hp => br_t (by decide) (br_f (by decide) (br_t (by decide) (yc_71 hn hp (by decide))))))))))
    · refine ya_net hn (nd_and hp (fun hp => br_f (by decide) (br_t (by decide) (br_f (by decide) (ya_amo 7 rfl (by omega) (nd_and1 hp (fun hp => ?_)))))))
      repeat (first | exact hp | refine br_t (by decide) ?_ | refine br_f (by decide) ?_)
    · refine ya_net hn (nd_and hp (fun hp => br_f (by decide) (br_t (by decide) (br_f (by decide) (ya_amo 7 rfl (by omega) (nd_and1 hp (fun hp => ?_)))))))
      repeat (first | exact hp | refine br_t (by decide) ?_ | refine br_f (by decide) ?_)
    · exact ya_net hn (nd_and hp (fun hp => br_f (by decide) (br_t (by decide) (br_f (by decide) (ya_amo 7 rfl (by omega) (nd_and hp (fun hp => br_f (by decide) (br_f (by decide) (br_t (by decide) (yc_71 hn hp (by decide)))))))))))
    · exact ya_net hn (nd_and hp (fun hp => br_f (by decide) (br_t (by decide) (br_f (by decide) (ya_amo 7 rfl (by omega) (nd_and hp (fun hp => br_f (by decide) (br_f (by decide) (br_f (by decide) (br_t (by decide) (nd_p01 hp)))))))))))
theorem yc_306 {T : Nat → Nat → Bool} {a v x : Nat} {b : Bool} (hY : nd_Y yl yh T) (ha : a < 36) (hv : v < 7) (hx : x < 128) {post : Int32 → Prop} (hp : post (nd_b (T a (nd_wi x v b)))) : wY_made_306 post (nI a) (nd_b b) (nI v) (nI x) yn ys yt ye yl yh yI yP yC yF yA yQ yR := by
  unfold wY_made_306
  refine ya_with hx hv ?_
  exact ya_bit hY ha (nd_wi_lt hx hv) ⟨nd_bn _, hp⟩
theorem yc_made {T : Nat → Nat → Bool} {j a b c x : Nat} {p2 p3 : Int32} (hY : nd_Y yl yh T) (hj : j < 10) (ha : a < 36) (hb : 1 ≤ j → b < 36 ∧ p2 = nI b ∧ (6 ≤ j → b < 7)) (hc : j = 4 ∨ j = 5 ∨ 8 ≤ j → c < 36 ∧ p3 = nI c ∧ (j = 9 → c < 2)) (hx : x < 128) {post : Int32 → Prop} (hp : post (nd_b (nd_gt T j a b c x))) : wpY_made post (yn, ys, yt, ye, yl, yh, yI, yP, yC, yF, yA, yQ, yR) (nI j) (nI a) p2 p3 (nI x) := by
  unfold wpY_made
  dsimp only
  refine ya_bit hY ha hx ?_
  rcases nd_10 hj with rfl | rfl | rfl | rfl | rfl | rfl | rfl | rfl | rfl | rfl
  · have e : nd_gt T 0 a b c x = !T a x := rfl
    rw [e] at hp
    revert hp
    generalize T a x = A
    cases A <;> intro hp <;> (repeat (first | exact hp | refine br_t (by decide) ?_ | refine br_f (by decide) ?_))
  · obtain ⟨hb', rfl, _⟩ := hb (by omega)
    exact br_f (by decide) (br_f (by decide) (br_f (by decide) (br_t (by decide) (nd_and hp (fun hp => ya_bit hY hb' hx (nd_b01 hp))))))
  · obtain ⟨hb', rfl, _⟩ := hb (by omega)
    refine br_f (by decide) (br_f (by decide) (br_f (by decide) (br_f (by decide) (br_t (by decide) ?_))))
    have e : nd_gt T 2 a b c x = (T a x || T b x) := rfl
    rw [e] at hp
    revert hp
    generalize T a x = A
    cases A
    · intro hp
      exact br_t rfl (ya_bit hY hb' hx (nd_b01 hp))
    · intro hp
      exact br_f (by decide) hp
  · obtain ⟨hb', rfl, _⟩ := hb (by omega)
    refine br_f (by decide) (br_f (by decide) (br_f (by decide) (br_f (by decide) (br_f (by decide) (br_t (by decide) (ya_bit hY hb' hx ?_))))))
    have e : nd_gt T 3 a b c x = (T a x != T b x) := rfl
    rw [e] at hp
    revert hp
    generalize T a x = A
    generalize T b x = B
    cases A <;> cases B <;> intro hp <;> (repeat (first | exact hp | refine br_t (by decide) ?_ | refine br_f (by decide) ?_))
  · obtain ⟨hb', rfl, _⟩ := hb (by omega)
    obtain ⟨hc', rfl, _⟩ := hc (by omega)
    refine br_f (by decide) (br_f (by decide) (br_f (by decide) (br_f (by decide) (br_f (by decide) (br_f (by decide) (br_t (by decide) ?_))))))
    have e : nd_gt T 4 a b c x = (if T a x then T b x else T c x) := rfl
    rw [e] at hp
    revert hp
    generalize T a x = A
    cases A
    · intro hp
      exact br_t rfl (ya_bit hY hc' hx ⟨nd_bn _, hp⟩)
    · intro hp
      exact br_f (by decide) (ya_bit hY hb' hx ⟨nd_bn _, hp⟩)
  · obtain ⟨hb', rfl, _⟩ := hb (by omega)
    obtain ⟨hc', rfl, _⟩ := hc (by omega)
    refine br_f (by decide) (br_f (by decide) (br_f (by decide) (br_f (by decide) (br_f (by decide) (br_f (by decide) (br_f (by decide) (br_t (by decide) ?_)))))))
    have e : nd_gt T 5 a b c x = (if T a x then T b x || T c x else T b x && T c x) := rfl
    rw [e] at hp
    revert hp
    generalize T a x = A
    cases A
    · intro hp
      exact br_t rfl (ya_bit hY hb' hx (nd_and (b := T b x) (c := T c x) hp (fun hp => ya_bit hY hc' hx (nd_b01 hp))))
    · intro hp
      have hp : post (nd_b (T b x || T c x)) := hp
      refine br_f (by decide) (ya_bit hY hb' hx ?_)
      revert hp
      generalize T b x = B
      cases B
      · intro hp
        exact br_t rfl (ya_bit hY hc' hx (nd_b01 hp))
      · intro hp
        exact br_f (by decide) hp
  · obtain ⟨_, rfl, hb'⟩ := hb (by omega)
    have hb' := hb' (by omega)
    refine br_f (by decide) (br_f (by decide) (br_f (by decide) (br_f (by decide) (br_f (by decide) (br_f (by decide) (br_f (by decide) (br_f (by decide) (br_t (by decide) ?_))))))))
    rw [nd_shl b (by omega), nx_xor]
    have e : nd_gt T 6 a b c x = (T a x || T a (x ^^^ 2 ^ b)) := rfl
    rw [e] at hp
    revert hp
    generalize T a x = A
    cases A
    · intro hp
      exact br_t rfl (ya_bit hY ha (nd_flip x hx b hb').2.2.1 (nd_b01 hp))
    · intro hp
      exact br_f (by decide) hp
  · obtain ⟨_, rfl, hb'⟩ := hb (by omega)
    have hb' := hb' (by omega)
    refine br_f (by decide) (br_f (by decide) (br_f (by decide) (br_f (by decide) (br_f (by decide) (br_f (by decide) (br_f (by decide) (br_f (by decide) (br_f (by decide) (br_t (by decide) ?_)))))))))
    rw [nd_shl b (by omega), nx_xor]
    exact nd_and (b := T a x) (c := T a (x ^^^ 2 ^ b)) hp (fun hp => ya_bit hY ha (nd_flip x hx b hb').2.2.1 (nd_b01 hp))
  · obtain ⟨_, rfl, hb'⟩ := hb (by omega)
    have hb' := hb' (by omega)
    obtain ⟨hc', rfl, _⟩ := hc (by omega)
    refine br_f (by decide) (br_f (by decide) (br_f (by decide) (br_f (by decide) (br_f (by decide) (br_f (by decide) (br_f (by decide) (br_f (by decide) (br_f (by decide) (br_f (by decide) (br_t (by decide) ?_))))))))))
    exact ya_bit hY hc' hx (ya_with hx hb' (ya_bit hY ha (nd_wi_lt hx hb') ⟨nd_bn _, hp⟩))
  · obtain ⟨_, rfl, hb'⟩ := hb (by omega)
    have hb' := hb' (by omega)
    obtain ⟨_, rfl, hc'⟩ := hc (by omega)
    have hc' : c = 0 ∨ c = 1 := by have := hc' rfl; omega
    refine br_f (by decide) (br_t (by decide) ?_)
    rcases hc' with rfl | rfl
    · exact br_f (by decide) (yc_306 (b := false) hY ha hb' hx hp)
    · exact br_t (by decide) (yc_306 (b := true) hY ha hb' hx hp)
/-! equal longs, equal functions -/
theorem nd_yb_eq {l h : Nat → Int64} {a b : Nat} : (l a = l b ∧ h a = h b) ↔ ∀ x, x < 128 → nd_yb l h a x = nd_yb l h b x := by
  constructor
  · rintro ⟨e1, e2⟩ x _
    unfold nd_yb
    rw [e1, e2]
  · intro z
    constructor
    · apply Int64.toBitVec_inj.mp
      apply BitVec.eq_of_getLsbD_eq
      intro i hi
      have := z i (by omega)
      unfold nd_yb at this
      rw [if_pos hi, if_pos hi] at this
      exact this
    · apply Int64.toBitVec_inj.mp
      apply BitVec.eq_of_getLsbD_eq
      intro i hi
      have := z (i + 64) (by omega)
      unfold nd_yb at this
      rw [if_neg (by omega), if_neg (by omega), Nat.add_sub_cancel] at this
      exact this
theorem yc_gate73 {T : Nat → Nat → Bool} {M : Nat → Bool} {n : Nat} (hY : nd_Y yl yh T) (hn : n ≤ 32) (hM : ∀ x, x < 128 → nd_yb yl yh 36 x = M x) {post : Int32 → SY → Prop}
    (h0 : nd_fn T M n < n → post (nI (nd_fn T M n)) (nI n, ys, yt, ye, yl, yh, yI, yP, yC, yF, yA, yQ, yR))
    (h1 : nd_fn T M n = n → n = 32 → post (-1) (nI n, ys, yt, ye, yl, yh, yI, yP, yC, yF, yA, yQ, yR))
    (h2 : nd_fn T M n = n → n < 32 → ∀ l w : Nat → Int64, (∀ a' x', nd_yb l w a' x' = if a' = n then nd_yb yl yh 36 x' else nd_yb yl yh a' x') → post (nI n) (nI (n + 1), ys, yt, ye, l, w, yI, yP, yC, yF, yA, yQ, yR)) :
    ∃ m, wY_gate_73 post (nI n) ys yt ye yl yh yI yP yC yF yA yQ yR m 0 := by
  refine loop_0 (fun m i (_ : Unit) => wY_gate_73 post (nI n) ys yt ye yl yh yI yP yC yF yA yQ yR m (nI i)) (fun i _ => ∀ a, a < i → nd_all (fun x => T a x == M x) 128 = false) n () (fun j hj => absurd hj (by omega)) ?_ ?_
  · intro m _ z
    have e : nd_fn T M n = n := nd_fst_eq (Nat.le_refl _) z (fun y => absurd y (Nat.lt_irrefl _))
    refine br_t (nI_le (Nat.le_refl _) (by omega)) (pk_eq n 32 (fun y => h1 e y) (fun y => ?_))
    exact ya_copy (a := 36) (by omega) (by omega) (fun l w hw => nm_r (nI_1 n) (h2 e (by omega) l w hw))
  · intro m i _ hi z ih
    have hc : (nI i).toNatClampNeg = i := nI_clamp (by omega)
    have hi36 : i < 36 := by omega
    have eqv : (yl i = yl 36 ∧ yh i = yh 36) ↔ nd_all (fun x => T i x == M x) 128 = true := by
      rw [nd_yb_eq, nd_all_iff]
      constructor
      · intro y x hx
        rw [← hY i x hi36 hx, ← hM x hx, y x hx]
        exact BEq.rfl
      · intro y x hx
        rw [hY i x hi36 hx, hM x hx]
        exact eq_of_beq (y x hx)
    have no : ¬ (yl i = yl 36 ∧ yh i = yh 36) → wY_gate_73 post (nI n) ys yt ye yl yh yI yP yC yF yA yQ yR m (nI (i + 1)) := by
      intro y
      refine ih () (nd_lts z ?_)
      cases w : nd_all (fun x => T i x == M x) 128
      · rfl
      · exact absurd (eqv.mpr w) y
    refine br_f (nI_ge hi (by omega)) ⟨vp_in_nI (by omega) (by omega), ?_⟩
    rw [hc]
    refine br_c (fun e1 => ⟨vp_in_nI (by omega) (by omega), br_c (fun e2 => ?_) (fun e2 => nm_r (nI_1 i) (no (fun y => e2 y.2)))⟩) (fun e1 => nm_r (nI_1 i) (no (fun y => e1 y.1)))
    have e : nd_fn T M n = i := nd_fst_eq (by omega) z (fun _ => eqv.mp ⟨e1, e2⟩)
    have h3 := h0 (by omega)
    rw [e] at h3
    exact h3
theorem yc_gate {T : Nat → Nat → Bool} {M : Nat → Bool} {n j : Nat} {p1 p2 p3 : Int32} (hY : nd_Y yl yh T) (hn : n ≤ 32) (h36 : ∀ x, x < 128 → nd_yb yl yh 36 x = false)
    (hm : ∀ (l w : Nat → Int64) (x : Nat) (post : Int32 → Prop), nd_Y l w T → x < 128 → post (nd_b (M x)) → wpY_made post (nI n, ys, yt, ye, l, w, yI, yP, yC, yF, yA, yQ, yR) (nI j) p1 p2 p3 (nI x)) {post : Int32 → SY → Prop}
    (h0 : ∀ l w, nd_Y l w T → nd_fn T M n < n → post (nI (nd_fn T M n)) (nI n, ys, yt, ye, l, w, yI, yP, yC, yF, yA, yQ, yR))
    (h1 : ∀ l w, nd_Y l w T → nd_fn T M n = n → n = 32 → post (-1) (nI n, ys, yt, ye, l, w, yI, yP, yC, yF, yA, yQ, yR))
    (h2 : ∀ l w, nd_fn T M n = n → n < 32 → (∀ a x, a < 36 → x < 128 → nd_yb l w a x = if a = n then M x else T a x) → post (nI n) (nI (n + 1), ys, yt, ye, l, w, yI, yP, yC, yF, yA, yQ, yR)) :
    ∃ m, wY_gate_33 post (nI j) p1 p2 p3 m 0 (nI n) ys yt ye yl yh yI yP yC yF yA yQ yR := by
  refine loop_0 (fun m i (s : (Nat → Int64) × (Nat → Int64)) => wY_gate_33 post (nI j) p1 p2 p3 m (nI i) (nI n) ys yt ye s.1 s.2 yI yP yC yF yA yQ yR) (fun i s => nd_Y s.1 s.2 T ∧ ∀ x, x < 128 → nd_yb s.1 s.2 36 x = (decide (x < i) && M x)) 128 (yl, yh) ⟨hY, fun x hx => by rw [h36 x hx]; rfl⟩ ?_ ?_
  · rintro m ⟨l, w⟩ ⟨hs, hs2⟩
    refine br_t nd_128 (yc_gate73 (M := M) hs hn ?_ (h0 l w hs) (h1 l w hs) ?_)
    · intro x hx
      rw [hs2 x hx, decide_eq_true hx, Bool.true_and]
    · intro e1 e2 l' w' hw
      refine h2 l' w' e1 e2 ?_
      intro a x ha hx
      rw [hw a x]
      by_cases y : a = n
      · rw [if_pos y, if_pos y, hs2 x hx, decide_eq_true hx, Bool.true_and]
      · rw [if_neg y, if_neg y]
        exact hs a x ha hx
  · rintro m i ⟨l, w⟩ hi ⟨hs, hs2⟩ ih
    refine br_f (nd_n128 hi) (hm l w i _ hs hi ?_)
    refine ya_set (a := 36) (by omega) hi (fun l' w' hw => nm_r (nI_1 i) (ih (l', w') ⟨?_, ?_⟩))
    · intro a x ha hx
      rw [hw a x hx, decide_eq_false (show ¬ a = 36 by omega), Bool.false_and, Bool.or_false]
      exact hs a x ha hx
    · intro x hx
      show nd_yb l' w' 36 x = _
      rw [hw 36 x hx, hs2 x hx, decide_eq_true rfl, Bool.true_and]
      by_cases y : x = i
      · subst y
        rw [decide_eq_true rfl, decide_eq_false (Nat.lt_irrefl x), decide_eq_true (show x < x + 1 by omega), Bool.true_and, Bool.false_and, Bool.false_or]
      · rw [decide_eq_false y, Bool.false_and, Bool.or_false]
        by_cases y2 : x < i
        · rw [decide_eq_true y2, decide_eq_true (show x < i + 1 by omega)]
        · rw [decide_eq_false y2, decide_eq_false (show ¬ x < i + 1 by omega)]
end NDY
end
section
/-! the reference: questions on one net, cubes -/
section NDY
variable {yn ys yt ye : Int32} {yl yh : Nat → Int64} {yI yP yC yF yA yQ yR : Nat → Int32}
theorem yb_dep {T : Nat → Nat → Bool} {a v : Nat} (hY : nd_Y yl yh T) (ha : a < 36) (hv : v < 7) {post : Int32 → Prop} (hp : post (nd_b (nd_dep (T a) v))) : wpY_depends post (yn, ys, yt, ye, yl, yh, yI, yP, yC, yF, yA, yQ, yR) (nI a) (nI v) := by
  refine loop_0 (fun n i (_ : Unit) => wY_depends_2 post (nI a) (nI v) yn ys yt ye yl yh yI yP yC yF yA yQ yR n (nI i)) (fun i _ => ∀ x, x < i → (T a x != T a (x ^^^ 2 ^ v)) = false) 128 () (fun j hj => absurd hj (by omega)) ?_ ?_
  · intro m _ z
    have e : nd_dep (T a) v = false := nd_any_f z
    rw [e] at hp
    exact br_t nd_128 hp
  · intro m i _ hi z ih
    refine br_f (nd_n128 hi) (ya_bit hY ha hi ?_)
    rw [nd_shl v (by omega), nx_xor]
    refine ya_bit hY ha (nd_flip i hi v hv).2.2.1 (nd_bq (fun w => nm_r (nI_1 i) (ih () (nd_lts z ?_))) (fun w => ?_))
    · rw [w]; exact bne_self_eq_false _
    · have e : nd_dep (T a) v = true := nd_any_iff.mpr ⟨i, hi, bne_iff_ne.mpr w⟩
      rw [e] at hp
      exact hp
theorem yb_ap {T : Nat → Nat → Bool} {a k p q : Nat} (hY : nd_Y yl yh T) (ha : a < 36) (hk : k < 7) (hp : p < 2 ^ k) (hq : q < 2 ^ k) {post : Int32 → Prop} (h : post (nd_b (nd_ap (T a) k p q))) : wpY_alikePart post (yn, ys, yt, ye, yl, yh, yI, yP, yC, yF, yA, yQ, yR) (nI a) (nI k) (nI p) (nI q) := by
  have h128 := nd_pk k hk
  refine loop_0 (fun n i (_ : Unit) => wY_alikePart_3 post (nI a) (nI k) (nI p) (nI q) yn ys yt ye yl yh yI yP yC yF yA yQ yR n (nI i)) (fun i _ => ∀ r, r < i → (T a (r * 2 ^ k + p) == T a (r * 2 ^ k + q)) = true) (128 / 2 ^ k) () (fun j hj => absurd hj (by omega)) ?_ ?_
  · intro m _ z
    have e : nd_ap (T a) k p q = true := nd_all_iff.mpr z
    rw [e] at h
    refine br_t ?_ h
    rw [nd_shr128 k (by omega)]
    exact nI_le (Nat.le_refl _) (by omega)
  · intro m i _ hi z ih
    have hr := nd_rest k hk p hp i hi
    have hr2 := nd_rest k hk q hq i hi
    refine br_f ?_ ?_
    · rw [nd_shr128 k (by omega)]
      exact nI_ge hi (by omega)
    · rw [nd_shlN (by omega) (by omega), nd_or, nd_or, hr.1, hr2.1]
      refine ya_bit hY ha hr.2.1 (ya_bit hY ha hr2.2.1 (nd_bq (fun w => nm_r (nI_1 i) (ih () (nd_lts z ?_))) (fun w => ?_)))
      · rw [w]; exact BEq.rfl
      · have e : nd_ap (T a) k p q = false := nd_all_f hi (beq_eq_false_iff_ne.mpr w)
        rw [e] at h
        exact h
theorem nd_r1 : ∀ k, k < 7 → ∀ r, r < 128 / 2 ^ k → (r ^^^ 1) * 2 ^ k < 128 := by decide +kernel
/-- one value p of the variables below k -/
theorem yb_pt1 {T : Nat → Nat → Bool} {a k p c : Nat} (hY : nd_Y yl yh T) (ha : a < 36) (hk : k < 7) (hp : p < 2 ^ k) {post : Int32 → Prop} {J : Int32 → Int32 → Prop}
    (hJ : J (nI (c + (if nd_da (T a) k p && nd_all (fun q => !nd_ap (T a) k p q) p then 1 else 0))) (nI (p + 1))) : ∃ m, wY_parts_19 post J (nI a) (nI k) (nI c) (nI p) yn ys yt ye yl yh yI yP yC yF yA yQ yR m 0 0 := by
  have h128 := nd_pk k hk
  have fin : ∀ b : Bool, b = (nd_da (T a) k p && nd_all (fun q => !nd_ap (T a) k p q) p) → wY_parts_117 post J (nI a) (nI k) (nI c) (nI p) (nd_b b) yn ys yt ye yl yh yI yP yC yF yA yQ yR := by
    intro b hb
    rw [← hb] at hJ
    unfold wY_parts_117
    cases b
    · exact br_t rfl (nm_r (nI_1 p) hJ)
    · exact br_f (by decide) (nm_r (nI_1 c) (nm_r (nI_1 p) hJ))
  refine loop_0 (fun n i s => wY_parts_19 post J (nI a) (nI k) (nI c) (nI p) yn ys yt ye yl yh yI yP yC yF yA yQ yR n s (nI i)) (fun i s => s = nd_b (nd_any (fun r => T a (r * 2 ^ k + p) != T a ((r * 2 ^ k + p) ^^^ 2 ^ k)) i)) (128 / 2 ^ k) 0 rfl ?_ ?_
  · rintro m s rfl
    refine br_t ?_ ?_
    · rw [nd_shr128 k (by omega)]
      exact nI_le (Nat.le_refl _) (by omega)
    · refine loop_0 (fun n q s => wY_parts_79 post J (nI a) (nI k) (nI c) (nI p) yn ys yt ye yl yh yI yP yC yF yA yQ yR n s (nI q)) (fun q s => s = nd_b (nd_da (T a) k p && nd_all (fun q => !nd_ap (T a) k p q) q)) p _ (by rw [nd_all, Bool.and_true]; rfl) ?_ ?_
      · rintro m s rfl
        exact br_t (nI_le (Nat.le_refl _) (by omega)) (fin _ rfl)
      · rintro m q s hq rfl ih
        refine br_f (nI_ge hq (by omega)) (nd_br (fun z => ?_) (fun z => ?_))
        · refine fin _ ?_
          rw [z]
          cases y : (nd_da (T a) k p && nd_all (fun q => !nd_ap (T a) k p q) p)
          · rfl
          · rw [Bool.and_eq_true] at y
            have y2 : nd_all (fun q => !nd_ap (T a) k p q) q = true := nd_all_iff.mpr (fun i hi => nd_all_iff.mp y.2 i (by omega))
            rw [y.1, y2] at z; cases z
        · refine yb_ap hY ha hk hp (by omega) (nd_br (fun w => nm_r (nI_1 q) (ih 1 ?_)) (fun w => nm_r (nI_1 q) (ih 0 ?_)))
          · rw [nd_all, ← Bool.and_assoc, z, w]; rfl
          · rw [nd_all, ← Bool.and_assoc, z, w]; rfl
  · rintro m i s hi rfl ih
    have hr := nd_rest k hk p hp i hi
    have hr1 := nd_r1 k hk i hi
    refine br_f ?_ ?_
    · rw [nd_shr128 k (by omega)]
      exact nI_ge hi (by omega)
    · refine nd_br (fun z => ?_) (fun z => ?_)
      · rw [show nI i ^^^ (1 : Int32) = nI (i ^^^ 1) from nx_xor i 1, nd_shlN (r := i) (k := k) (by omega) (by omega), nd_shlN (r := i ^^^ 1) (k := k) (by omega) (by omega), nd_or, nd_or, hr.1, hr.2.2.1]
        refine ya_bit hY ha hr.2.1 (ya_bit hY ha hr.2.2.2 (nd_bq (fun w => nm_r (nI_1 i) (ih 0 ?_)) (fun w => nm_r (nI_1 i) (ih 1 ?_))))
        · rw [nd_any, z, w, bne_self_eq_false]; rfl
        · rw [nd_any, bne_iff_ne.mpr w, Bool.or_true]; rfl
      · refine nm_r (nI_1 i) (ih 1 ?_)
        rw [nd_any, z, Bool.true_or]; rfl
theorem yb_pt {T : Nat → Nat → Bool} {a k : Nat} (hY : nd_Y yl yh T) (ha : a < 36) (hk : k < 7) {post : Int32 → Prop} (h : post (nI (nd_pt (T a) k))) : wpY_parts post (yn, ys, yt, ye, yl, yh, yI, yP, yC, yF, yA, yQ, yR) (nI a) (nI k) := by
  have h64 := nd_pk k hk
  refine loop_0 (fun n p s => wY_parts_5 post (nI a) (nI k) yn ys yt ye yl yh yI yP yC yF yA yQ yR n s (nI p)) (fun p s => s = nI (nd_cnt (fun p => nd_da (T a) k p && nd_all (fun q => !nd_ap (T a) k p q) p) p)) (2 ^ k) 0 rfl ?_ ?_
  · rintro m s rfl
    refine br_t ?_ h
    rw [nd_shl k (by omega)]
    exact nI_le (Nat.le_refl _) (by omega)
  · rintro m p s hp rfl ih
    refine br_f ?_ (yb_pt1 hY ha hk hp (ih _ rfl))
    rw [nd_shl k (by omega)]
    exact nI_ge hp (by omega)
/-! cubes -/
theorem nd_q3 {c v : Nat} (hc : c < 2187) (hv : v < 7) : nI c / nI (3 ^ v) = nI (c / 3 ^ v) := by
  have h2 := nd_729 v hv
  have h3 := nd_p3 v
  exact pk_div (by omega) h3 (by omega)
theorem nd_n3 {v : Nat} (hv : v < 7) : ¬ nI (3 ^ v) = 0 := by
  have h2 := nd_729 v hv
  have h3 := nd_p3 v
  exact nI_ne0 h3 (by omega)
theorem yd_wid {F : Nat → Bool} {c : Nat} (hc : c < 2187) (hI : nd_I yI F 2187) {post : Int32 → Prop} (hp : post (nd_b (!nd_all (fun v => !(decide (nd_dg c v ≠ 2) && F (c + (2 - nd_dg c v) * 3 ^ v))) 7))) : wpY_widened post (yn, ys, yt, ye, yl, yh, yI, yP, yC, yF, yA, yQ, yR) (nI c) := by
  refine loop_0 (fun m v s => wY_widened_4 post (nI c) yn ys yt ye yl yh yI yP yC yF yA yQ yR m s (nI v)) (fun v s => s = nI (3 ^ v) ∧ ∀ u, u < v → (!(decide (nd_dg c u ≠ 2) && F (c + (2 - nd_dg c u) * 3 ^ u))) = true) 7 1 ⟨rfl, fun u hu => absurd hu (by omega)⟩ ?_ ?_
  · rintro m s ⟨rfl, h⟩
    rw [nd_all_iff.mpr h] at hp
    exact br_t nd_7 hp
  · rintro m v s hv ⟨rfl, h⟩ ih
    have h1 := nd_lc c v
    have h2 := nd_729 v hv
    have h3 := nd_p3 v
    have h4 := nd_dg_lt c v
    have go : (!(decide (nd_dg c v ≠ 2) && F (c + (2 - nd_dg c v) * 3 ^ v))) = true → ∀ y, y = nI (3 ^ v) * 3 → ∀ z, z = nI v + 1 → wY_widened_4 post (nI c) yn ys yt ye yl yh yI yP yC yF yA yQ yR m y z := by
      intro w
      exact nm_r (e' := nI (3 ^ (v + 1))) ((nd_t3 _).trans (congrArg nI (Nat.pow_succ 3 v).symm)) (nm_r (nI_1 v) (ih _ ⟨rfl, nd_lts h w⟩))
    refine br_f (nd_n7 hv) ⟨nd_n3 hv, nd_3, nm_r (e' := nI (nd_dg c v)) (by rw [nd_q3 hc hv]; exact nd_r3 (by omega)) ?_⟩
    refine pk_le 2 (nd_dg c v) (fun z => ?_) (fun z => ?_)
    · exact go (by rw [decide_eq_false (fun y => y (by omega))]; rfl)
    · have hw := nd_wide (v := v) hc hv (by omega)
      have e1 : nI c + (2 - nI (nd_dg c v)) * nI (3 ^ v) = nI (c + (2 - nd_dg c v) * 3 ^ v) := by
        rw [show (2 : Int32) = nI 2 from rfl, pk_sub (by omega), pk_mul, nI_add]
      rw [e1, nI_clamp (show c + (2 - nd_dg c v) * 3 ^ v < 2 ^ 31 by omega), hI _ hw]
      refine ⟨vp_in_nI hw (by omega), nd_br (fun w => go (by rw [w, Bool.and_false]; rfl)) (fun w => ?_)⟩
      have e : nd_all (fun u => !(decide (nd_dg c u ≠ 2) && F (c + (2 - nd_dg c u) * 3 ^ u))) 7 = false := nd_all_f hv (by rw [w, decide_eq_true (show nd_dg c v ≠ 2 by omega)]; rfl)
      rw [e] at hp
      exact hp
/-- what the reference's inner loop holds at v: the assignment while no digit was 2, else the answer -/
def nd_cu (T : Nat → Bool) (c v : Nat) (x5 x6 x3 : Int32) : Prop :=
  (x6 = 1 ∧ x3 = nI (nd_as c v) ∧ x5 = 1 ∧ ∀ u, u < v → nd_dg c u ≠ 2) ∨ (x6 = 0 ∧ x5 = nd_b (nd_imp T c))
theorem yd_imp {T : Nat → Nat → Bool} {a c : Nat} (hY : nd_Y yl yh T) (ha : a < 36) (hc : c < 2187) (hI : nd_I yI (nd_imp (T a)) c) {post : SY → Prop} {J : Int32 → (Nat → Int64) → (Nat → Int64) → (Nat → Int32) → (Nat → Int32) → (Nat → Int32) → (Nat → Int32) → (Nat → Int32) → (Nat → Int32) → (Nat → Int32) → Prop}
    (hJ : J (nI (c + 1)) yl yh (upd yI c (nd_b (nd_imp (T a) c))) yP yC yF yA yQ yR) : ∃ m, wY_cubes_23 post J (nI a) (nI c) yn ys yt ye yl yh yI yP yC yF yA yQ yR m 0 1 1 1 0 := by
  have hcc : (nI c).toNatClampNeg = c := nI_clamp (by omega)
  refine loop_0 (fun m v (s : Int32 × Int32 × Int32 × Int32) => wY_cubes_23 post J (nI a) (nI c) yn ys yt ye yl yh yI yP yC yF yA yQ yR m s.1 s.2.1 s.2.2.1 s.2.2.2 (nI v)) (fun v s => s.2.1 = nI (3 ^ v) ∧ nd_cu (T a) c v s.2.2.1 s.2.2.2 s.1) 7 (0, 1, 1, 1) ⟨rfl, Or.inl ⟨rfl, rfl, rfl, fun u hu => absurd hu (by omega)⟩⟩ ?_ ?_
  · rintro m ⟨x3, x4, x5, x6⟩ ⟨rfl, h | h⟩
    · obtain ⟨rfl, rfl, rfl, h⟩ := h
      refine br_t nd_7 (br_f (show ¬ (1 : Int32) = 0 by decide) (ya_bit hY ha (nd_as_lt (v := 7) h) ⟨vp_in_nI hc (by omega), ?_⟩))
      refine nm_r (e' := upd yI c (nd_b (nd_imp (T a) c))) (by rw [hcc, nd_bv, nd_imp_0 h]) (nm_r (nI_1 c) hJ)
    · obtain ⟨h6, h5⟩ := h
      refine br_t nd_7 (br_t h6 ⟨vp_in_nI hc (by omega), ?_⟩)
      exact nm_r (e' := upd yI c (nd_b (nd_imp (T a) c))) (by rw [hcc, h5, nd_bv]) (nm_r (nI_1 c) hJ)
  · rintro m v ⟨x3, x4, x5, x6⟩ hv ⟨rfl, h⟩ ih
    have h1 := nd_lc c v
    have h2 := nd_729 v hv
    have h3 := nd_p3 v
    have h4 := nd_dg_lt c v
    have go : ∀ y5 y6 : Int32, (∀ y3, y3 = x3 ||| (if nd_dg c v = 1 then (1 : Int32) <<< (nI v &&& 31) else 0) → nd_cu (T a) c (v + 1) y5 y6 y3) → wY_cubes_85 post J (wY_cubes_23 post J (nI a) (nI c) yn ys yt ye yl yh yI yP yC yF yA yQ yR m) (nI a) (nI c) x3 (nI (3 ^ v)) y5 y6 (nI v) (nI (nd_dg c v)) yn ys yt ye yl yh yI yP yC yF yA yQ yR := by
      intro y5 y6 hy
      have hy := hy _ rfl
      unfold wY_cubes_85
      refine pk_eq (nd_dg c v) 1 (fun z => ?_) (fun z => ?_)
      · rw [if_pos z] at hy
        exact nm_e (nm_r (e' := nI (3 ^ (v + 1))) ((nd_t3 _).trans (congrArg nI (Nat.pow_succ 3 v).symm)) (nm_r (nI_1 v) (ih (_, nI (3 ^ (v + 1)), y5, y6) ⟨rfl, hy⟩)))
      · rw [if_neg z] at hy
        exact nm_e (nm_r (e' := nI (3 ^ (v + 1))) ((nd_t3 _).trans (congrArg nI (Nat.pow_succ 3 v).symm)) (nm_r (nI_1 v) (ih (_, nI (3 ^ (v + 1)), y5, y6) ⟨rfl, hy⟩)))
    refine br_f (nd_n7 hv) ⟨nd_n3 hv, nd_3, nm_r (e' := nI (nd_dg c v)) ?_ ?_⟩
    · show nI c / nI (3 ^ v) - nI c / nI (3 ^ v) / 3 * 3 = nI (nd_dg c v)
      rw [nd_q3 hc hv]; exact nd_r3 (by omega)
    · rcases h with h | h
      · obtain ⟨rfl, rfl, rfl, h⟩ := h
        refine pk_eq (nd_dg c v) 2 (fun z => ?_) (fun z => ?_)
        · have h5 := nd_dg2 z
          have e1 : nI c - nI (3 ^ v) = nI (c - 3 ^ v) := pk_sub (by omega)
          have e2 : nI c - 2 * nI (3 ^ v) = nI (c - 2 * 3 ^ v) := by
            rw [show (2 : Int32) = nI 2 from rfl, pk_mul, pk_sub h5]
          have ei := nd_imp_2 (T := T a) hv h z
          refine br_f (show ¬ (1 : Int32) = 0 by decide) ?_
          show vp_in (nI c - nI (3 ^ v)) 2187 ∧ _
          rw [e1, e2, nI_clamp (show c - 3 ^ v < 2 ^ 31 by omega), nI_clamp (show c - 2 * 3 ^ v < 2 ^ 31 by omega), hI (c - 3 ^ v) (by omega), hI (c - 2 * 3 ^ v) (by omega)]
          refine ⟨vp_in_nI (by omega) (by omega), nd_br (fun w => ?_) (fun w => ⟨vp_in_nI (by omega) (by omega), nd_br (fun w2 => ?_) (fun w2 => ?_)⟩)⟩
          · exact go 0 0 (fun _ _ => Or.inr ⟨rfl, by rw [ei, w]; rfl⟩)
          · exact go 0 0 (fun _ _ => Or.inr ⟨rfl, by rw [ei, w, w2]; rfl⟩)
          · exact go 1 0 (fun _ _ => Or.inr ⟨rfl, by rw [ei, w, w2]; rfl⟩)
        · refine go 1 1 (fun y3 hy3 => Or.inl ⟨rfl, ?_, rfl, nd_lts h z⟩)
          rw [hy3]
          have hl := nd_as_lt h
          have hp := (nd_pk v hv).1
          have h7 : nd_dg c v = 0 ∨ nd_dg c v = 1 := by omega
          rcases h7 with h7 | h7
          · rw [if_neg (by omega), nd_as, h7, Nat.zero_mul, Nat.add_zero, show (0 : Int32) = nI 0 from rfl, nd_or, Nat.or_zero]
          · rw [if_pos h7, nd_orb (by omega), nd_as, h7, Nat.one_mul, Nat.or_comm, Nat.add_comm]
            exact congrArg nI (Nat.two_pow_add_eq_or_of_lt hl 1 |> fun e => by rw [Nat.mul_one] at e; exact e.symm)
      · have h6 : x6 = 0 := h.1
        have h5 : x5 = nd_b (nd_imp (T a) c) := h.2
        refine pk_eq (nd_dg c v) 2 (fun z => br_t h6 ?_) (fun z => ?_)
        · exact go x5 x6 (fun _ _ => Or.inr ⟨h6, h5⟩)
        · exact go x5 x6 (fun _ _ => Or.inr ⟨h6, h5⟩)
theorem yd_cubes {T : Nat → Nat → Bool} {a : Nat} (hY : nd_Y yl yh T) (ha : a < 36) {post : SY → Prop}
    (h : ∀ i p : Nat → Int32, nd_I p (nd_q (T a)) 2187 → post (yn, ys, yt, ye, yl, yh, i, p, yC, yF, yA, yQ, yR)) : wpY_cubes post (yn, ys, yt, ye, yl, yh, yI, yP, yC, yF, yA, yQ, yR) (nI a) := by
  refine loop_0 (fun m c s => wY_cubes_2 post (nI a) yn ys yt ye m (nI c) yl yh s yP yC yF yA yQ yR) (fun c s => nd_I s (nd_imp (T a)) c) 2187 yI (fun d hd => absurd hd (by omega)) ?_ ?_
  · intro m s hs
    refine br_t nd_c2187 ?_
    refine loop_0 (fun m c w => wY_cubes_144 post yn ys yt ye m (nI c) yl yh s w yC yF yA yQ yR) (fun c w => nd_I w (nd_q (T a)) c) 2187 yP (fun d hd => absurd hd (by omega)) ?_ ?_
    · intro m w hw
      exact br_t nd_c2187 (h s w hw)
    · intro m c w hc hw ih
      have hcc : (nI c).toNatClampNeg = c := nI_clamp (by omega)
      have put : ∀ (b : Bool) (z : Int32), z = nd_b b → nd_q (T a) c = b → ∀ w', w' = upd w (nI c).toNatClampNeg (vp_nar .boolean z) → ∀ y, y = nI c + 1 → wY_cubes_144 post yn ys yt ye m y yl yh s w' yC yF yA yQ yR := by
        rintro b z rfl hb
        refine nm_r (e' := upd w c (nd_b (nd_q (T a) c))) (by rw [hcc, nd_bv, hb]) (nm_r (nI_1 c) (ih _ (nd_lts ?_ pk_us)))
        intro d hd
        rw [pk_un (by omega)]; exact hw d hd
      refine br_f (nd_n2187 hc) ⟨vp_in_nI hc (by omega), ?_⟩
      have hs1 : s (nI c).toNatClampNeg = nd_b (nd_imp (T a) c) := by rw [hcc]; exact hs c hc
      rw [hs1]
      refine nd_br (fun z => ⟨vp_in_nI hc (by omega), put false 0 rfl ?_⟩) (fun z => ?_)
      · unfold nd_q nd_pr
        rw [z, Bool.false_and]
      · refine yd_wid hc hs (nd_br (fun w => ⟨vp_in_nI hc (by omega), put true 1 rfl ?_⟩) (fun w => ⟨vp_in_nI hc (by omega), put false 0 rfl ?_⟩))
        · unfold nd_q nd_pr
          rw [z, Bool.true_and]
          exact nd_ni w
        · unfold nd_q nd_pr
          rw [z, Bool.true_and]
          exact nd_ni w
  · intro m c s hc hs ih
    refine br_f (nd_n2187 hc) (yd_imp hY ha hc hs (ih _ (nd_lts ?_ pk_us)))
    intro d hd
    rw [pk_un (by omega)]; exact hs d hd
theorem yd_fits {c x : Nat} (hc : c < 2187) (hx : x < 128) {post : Int32 → Prop} (hp : post (nd_b (nd_fit c x))) : wpY_fits post (yn, ys, yt, ye, yl, yh, yI, yP, yC, yF, yA, yQ, yR) (nI c) (nI x) := by
  refine loop_0 (fun m v s => wY_fits_5 post (nI x) yn ys yt ye yl yh yI yP yC yF yA yQ yR m s (nI v)) (fun v s => s = nI (c / 3 ^ v) ∧ ∀ u, u < v → (decide (nd_dg c u = 2) || (x.testBit u == decide (nd_dg c u = 1))) = true) 7 (nI c) ⟨by rw [Nat.pow_zero, Nat.div_one], fun u hu => absurd hu (by omega)⟩ ?_ ?_
  · rintro m s ⟨rfl, h⟩
    have e : nd_fit c x = true := nd_all_iff.mpr h
    rw [e] at hp
    exact br_t nd_7 hp
  · rintro m v s hv ⟨rfl, h⟩ ih
    have h1 := nd_lc c v
    have h4 := nd_dg_lt c v
    have go : (decide (nd_dg c v = 2) || (x.testBit v == decide (nd_dg c v = 1))) = true → ∀ y, y = nI (c / 3 ^ v) / 3 → ∀ z, z = nI v + 1 → wY_fits_5 post (nI x) yn ys yt ye yl yh yI yP yC yF yA yQ yR m y z := by
      intro w
      exact nm_r (e' := nI (c / 3 ^ (v + 1))) ((nd_d3 (by omega)).trans (congrArg nI (nd_dgs c v))) (nm_r (nI_1 v) (ih _ ⟨rfl, nd_lts h w⟩))
    have stop : (decide (nd_dg c v = 2) || (x.testBit v == decide (nd_dg c v = 1))) = false → post 0 := by
      intro w
      have e : nd_fit c x = false := nd_all_f hv w
      rw [e] at hp
      exact hp
    refine br_f (nd_n7 hv) ⟨nd_3, nm_r (e' := nI (nd_dg c v)) (nd_r3 (by omega)) ?_⟩
    rw [nd_bit (show x < 2 ^ 31 by omega) (by omega)]
    refine pk_le 2 (nd_dg c v) (fun z => ?_) (fun z => ?_)
    · exact ⟨nd_3, go (by rw [decide_eq_true (show nd_dg c v = 2 by omega), Bool.true_or])⟩
    · rw [decide_eq_false (show ¬ nd_dg c v = 2 by omega), Bool.false_or] at go stop
      have h7 : nd_dg c v = 0 ∨ nd_dg c v = 1 := by omega
      rcases h7 with h7 | h7
      · rw [h7] at go stop ⊢
        revert go stop
        cases x.testBit v
        · intro go stop
          exact br_t rfl ⟨nd_3, go rfl⟩
        · intro go stop
          exact br_f (by decide) (stop rfl)
      · rw [h7] at go stop ⊢
        revert go stop
        cases x.testBit v
        · intro go stop
          exact br_f (by decide) (stop rfl)
        · intro go stop
          exact br_t rfl ⟨nd_3, go rfl⟩
theorem yd_alone {q : Nat → Bool} {c : Nat} (hc : c < 2187) (hC : ∀ x, x < 128 → yC x = nI (nd_cov q x)) {post : Int32 → Prop} (hp : post (nd_b (nd_alone q c))) : wpY_alone post (yn, ys, yt, ye, yl, yh, yI, yP, yC, yF, yA, yQ, yR) (nI c) := by
  refine loop_0 (fun m x (_ : Unit) => wY_alone_2 post (nI c) yn ys yt ye yl yh yI yP yC yF yA yQ yR m (nI x)) (fun i _ => ∀ x, x < i → (decide (nd_cov q x = 1) && nd_fit c x) = false) 128 () (fun u hu => absurd hu (by omega)) ?_ ?_
  · intro m _ h
    have e : nd_alone q c = false := nd_any_f h
    rw [e] at hp
    exact br_t nd_128 hp
  · intro m x _ hx h ih
    have hle : nd_cov q x ≤ 2187 := nd_cnt_le _ _
    refine br_f (nd_n128 hx) ⟨vp_in_nI hx (by omega), ?_⟩
    rw [nI_clamp (show x < 2 ^ 31 by omega), hC x hx]
    refine nd_i1 (by omega) (fun z => ?_) (fun z => ?_)
    · refine yd_fits hc hx (nd_br (fun w => nm_r (nI_1 x) (ih () (nd_lts h ?_))) (fun w => ?_))
      · rw [w, Bool.and_false]
      · have e : nd_alone q c = true := nd_any_iff.mpr ⟨x, hx, by rw [decide_eq_true z, w]; rfl⟩
        rw [e] at hp
        exact hp
    · exact nm_r (nI_1 x) (ih () (nd_lts h (by rw [decide_eq_false z, Bool.false_and])))
theorem yd_ess {q : Nat → Bool} (hq : nd_I yP q 2187) {post : Int32 → SY → Prop} (h : ∀ t : Nat → Int32, post (nI (nd_ess q)) (yn, ys, yt, ye, yl, yh, yI, yP, t, yF, yA, yQ, yR)) : wpY_essential post (yn, ys, yt, ye, yl, yh, yI, yP, yC, yF, yA, yQ, yR) := by
  refine loop_0 (fun m x s => wY_essential_2 post yn ys yt ye m (nI x) yl yh yI yP s yF yA yQ yR) (fun i s => ∀ x, x < i → s x = nI 0) 128 yC (fun u hu => absurd hu (by omega)) ?_ ?_
  · intro m s hs
    refine br_t nd_128 ?_
    refine loop_0 (fun m c s => wY_essential_24 post yn ys yt ye m (nI c) yl yh yI yP s yF yA yQ yR) (fun c s => ∀ x, x < 128 → s x = nI (nd_cnt (fun c => q c && nd_fit c x) c)) 2187 s hs ?_ ?_
    · intro m s hs
      refine br_t nd_c2187 ?_
      refine loop_0 (fun m c (r : Int32) => wY_essential_88 post yn ys yt ye yl yh yI yP s yF yA yQ yR m r (nI c)) (fun c r => r = nI (nd_cnt (fun c => q c && nd_alone q c) c)) 2187 0 rfl ?_ ?_
      · rintro m r rfl
        exact br_t nd_c2187 (h s)
      · rintro m c r hc rfl ih
        refine br_f (nd_n2187 hc) ⟨vp_in_nI hc (by omega), ?_⟩
        rw [nI_clamp (show c < 2 ^ 31 by omega), hq c hc]
        refine nd_br (fun z => nm_r (nI_1 c) (ih _ ?_)) (fun z => yd_alone hc hs (nd_br (fun w => nm_r (nI_1 c) (ih _ ?_)) (fun w => nm_r (nI_1 _) (nm_r (nI_1 c) (ih _ ?_)))))
        · rw [nd_cnt_f (q := fun c => q c && nd_alone q c) (by rw [z]; rfl)]
        · rw [nd_cnt_f (q := fun c => q c && nd_alone q c) (by rw [z, w]; rfl)]
        · rw [nd_cnt_t (q := fun c => q c && nd_alone q c) (by rw [z, w]; rfl)]
    · intro m c s hc hs ih
      have hqc : yP (nI c).toNatClampNeg = nd_b (q c) := by rw [nI_clamp (by omega)]; exact hq c hc
      refine br_f (nd_n2187 hc) ?_
      refine loop_0 (fun m' x s' => wY_essential_33 post (wY_essential_24 post yn ys yt ye m) (nI c) yn ys yt ye m' (nI x) yl yh yI yP s' yF yA yQ yR) (fun x s' => ∀ y, y < 128 → s' y = nI (nd_cnt (fun c => q c && nd_fit c y) c + (if decide (y < x) && (q c && nd_fit c y) then 1 else 0))) 128 s (fun y hy => hs y hy) ?_ ?_
      · intro m' s' hs'
        refine br_t nd_128 (nm_r (nI_1 c) (ih s' ?_))
        intro y hy
        rw [hs' y hy, decide_eq_true hy, Bool.true_and]
        rfl
      · intro m' x s' hx hs' ih2
        have hle : nd_cnt (fun c => q c && nd_fit c x) c ≤ c := nd_cnt_le _ _
        have hxx : (nI x).toNatClampNeg = x := nI_clamp (by omega)
        refine br_f (nd_n128 hx) ⟨vp_in_nI hc (by omega), ?_⟩
        rw [hqc]
        refine nd_br (fun z => nm_r (nI_1 c) (ih s' ?_)) (fun z => ⟨vp_in_nI hx (by omega), yd_fits hc hx ?_⟩)
        · intro y hy
          rw [hs' y hy, nd_cnt_f (q := fun c => q c && nd_fit c y) (by rw [z]; rfl), z, Bool.false_and, Bool.and_false]
          rfl
        · have hsx : s' x = nI (nd_cnt (fun c => q c && nd_fit c x) c) := by
            rw [hs' x hx, decide_eq_false (Nat.lt_irrefl x), Bool.false_and]
            rfl
          have put : ∀ (b : Bool) (k : Int32), nd_fit c x = b → k = nI (if b then 1 else 0) → ∀ w, w = upd s' (nI x).toNatClampNeg (s' (nI x).toNatClampNeg + k) → ∀ y, y = nI x + 1 → wY_essential_33 post (wY_essential_24 post yn ys yt ye m) (nI c) yn ys yt ye m' y yl yh yI yP w yF yA yQ yR := by
            rintro b k hb rfl
            refine nm_r (e' := upd s' x (nI (nd_cnt (fun c => q c && nd_fit c x) c + (if b then 1 else 0)))) (by rw [hxx, hsx, nI_add]) (nm_r (nI_1 x) (ih2 _ ?_))
            intro y hy
            by_cases e : y = x
            · subst e
              rw [pk_us, decide_eq_true (show y < y + 1 by omega), z, hb, Bool.true_and, Bool.true_and]
            · rw [pk_un e, hs' y hy]
              by_cases e2 : y < x
              · rw [decide_eq_true e2, decide_eq_true (show y < x + 1 by omega)]
              · rw [decide_eq_false e2, decide_eq_false (show ¬ y < x + 1 by omega)]
          exact nd_br (fun w => ⟨vp_in_nI hx (by omega), put false 0 w rfl⟩) (fun w => ⟨vp_in_nI hx (by omega), put true 1 w rfl⟩)
  · intro m x s hx hs ih
    refine br_f (nd_n128 hx) ⟨vp_in_nI hx (by omega), nm_r (e' := upd s x (nI 0)) (by rw [nI_clamp (by omega)]; rfl) (nm_r (nI_1 x) (ih _ (nd_lts ?_ pk_us)))⟩
    intro y hy
    rw [pk_un (by omega)]; exact hs y hy
end NDY
end
section
/-! pasted from kit/rows -/
theorem pk_loopD {σ : Type} (W : Nat → Nat → σ → Prop) (I : Nat → σ → Prop) (hx : ∀ n s, I 0 s → W (n + 1) 0 s)
    (hs : ∀ n i s, I (i + 1) s → (∀ s', I i s' → W n i s') → W (n + 1) (i + 1) s) : ∀ (e : Nat) (s : σ), I e s → W (e + 1) e s := by
  intro e
  induction e with
  | zero => exact fun s h => hx 0 s h
  | succ e ih => exact fun s h => hs (e + 1) e s h (fun s' h' => ih s' h')
/-! the reference: the rest of ask, shape, same, prime -/
section NDY
variable {yn ys yt ye : Int32} {yl yh : Nat → Int64} {yI yP yC yF yA yQ yR : Nat → Int32}
theorem nd_bI (b : Bool) : nd_b b = nI (if b then 1 else 0) := by cases b <;> rfl
theorem ye_cnt {T : Nat → Nat → Bool} {a : Nat} {p : Int32} (hY : nd_Y yl yh T) (ha : a < 36) {post : Int32 → SY → Prop}
    (h0 : p = 0 → post (nI (nd_cnt (T a) 128)) (yn, ys, yt, ye, yl, yh, yI, yP, yC, yF, yA, yQ, yR)) (h1 : ¬ p = 0 → post (nd_ls (T a) 128) (yn, ys, yt, ye, yl, yh, yI, yP, yC, yF, yA, yQ, yR)) : ∃ m, wY_ask_34 post (nI a) p yn ys yt ye yl yh yI yP yC yF yA yQ yR m 0 (-1) 127 := by
  refine ⟨129, ?_⟩
  refine pk_loopD (fun m i (s : Int32 × Int32) => wY_ask_34 post (nI a) p yn ys yt ye yl yh yI yP yC yF yA yQ yR m s.1 s.2 (nI i - 1)) (fun i s => i ≤ 128 ∧ s.1 = nI (nd_cnt (T a) 128 - nd_cnt (T a) i) ∧ ((s.2 = -1 ∧ ∀ x, i ≤ x → x < 128 → T a x = false) ∨ ∃ y, i ≤ y ∧ y < 128 ∧ s.2 = nI y ∧ T a y = true ∧ ∀ x, i ≤ x → x < y → T a x = false)) ?_ ?_ 128 (0, -1) ⟨Nat.le_refl _, by rw [Nat.sub_self]; rfl, Or.inl ⟨rfl, fun x h1 h2 => by omega⟩⟩
  · rintro m ⟨s1, s2⟩ ⟨_, h2, h3⟩
    have e2 : s1 = nI (nd_cnt (T a) 128) := h2
    have e3 : s2 = nd_ls (T a) 128 := by
      rcases h3 with ⟨h4, h5⟩ | ⟨y, h4, h5, h6, h7, h8⟩
      · rw [nd_ls_f (fun x hx => h5 x (by omega) hx)]; exact h4
      · rw [nd_ls_t h5 (fun x hx => h8 x (by omega) hx) h7]; exact h6
    rw [← e2] at h0
    rw [← e3] at h1
    exact br_t (show nI 0 - 1 < (0 : Int32) by decide) ⟨h0, h1⟩
  · rintro m i ⟨s1, s2⟩ ⟨h1', h2, h3⟩ ih
    have e : nI (i + 1) - 1 = nI i := nI_pred i
    have e1 : nI i + (-1) = nI i - 1 := (Int32.sub_eq_add_neg (nI i) 1).symm
    have hle := nd_cnt_up (T a) (show i + 1 ≤ 128 from h1')
    have e2 : s1 = nI (nd_cnt (T a) 128 - nd_cnt (T a) (i + 1)) := h2
    show wY_ask_34 post (nI a) p yn ys yt ye yl yh yI yP yC yF yA yQ yR (m + 1) s1 s2 (nI (i + 1) - 1)
    rw [e]
    refine br_f (nI_pos (by omega)) (ya_bit hY ha (by omega) (nd_br (fun z => nm_r e1 (ih (s1, s2) ⟨by omega, ?_, ?_⟩)) (fun z => ?_)))
    · rw [nd_cnt_f z] at e2; exact e2
    · rcases h3 with ⟨h4, h5⟩ | ⟨y, h4, h5, h6, h7, h8⟩
      · refine Or.inl ⟨h4, fun x a1 a2 => ?_⟩
        by_cases w : x = i
        · rw [w]; exact z
        · exact h5 x (by omega) a2
      · refine Or.inr ⟨y, by omega, h5, h6, h7, fun x a1 a2 => ?_⟩
        by_cases w : x = i
        · rw [w]; exact z
        · exact h8 x (by omega) a2
    · refine nm_r (e' := nI (nd_cnt (T a) 128 - nd_cnt (T a) i)) ?_ (nm_r e1 (ih (nI (nd_cnt (T a) 128 - nd_cnt (T a) i), nI i) ⟨by omega, rfl, Or.inr ⟨i, Nat.le_refl _, by omega, rfl, z, fun x a1 a2 => by omega⟩⟩))
      rw [e2, nI_1]
      rw [nd_cnt_t z] at hle ⊢
      exact congrArg nI (by omega)
theorem ye_181 {T : Nat → Nat → Bool} {a : Nat} (hY : nd_Y yl yh T) (ha : a < 36) {post : Int32 → SY → Prop} (h : post (nI (nd_dc (T a))) (yn, ys, yt, ye, yl, yh, yI, yP, yC, yF, yA, yQ, yR)) : ∃ m, wY_ask_181 post (nI a) 3 yn ys yt ye yl yh yI yP yC yF yA yQ yR m 0 0 := by
  refine loop_0 (fun m v s => wY_ask_181 post (nI a) 3 yn ys yt ye yl yh yI yP yC yF yA yQ yR m s (nI v)) (fun v s => s = nI (nd_sum (nd_pt (T a)) v)) 7 0 rfl ?_ ?_
  · rintro m s rfl
    exact br_t nd_7 h
  · rintro m v s hv rfl ih
    exact br_f (nd_n7 hv) (br_t rfl (yb_pt hY ha hv (nm_r (nI_add _ _) (nm_r (nI_1 v) (ih _ rfl)))))
theorem ye_181n {a p c : Int32} (hp : ¬ p = 3) {post : Int32 → SY → Prop} (h : post c (yn, ys, yt, ye, yl, yh, yI, yP, yC, yF, yA, yQ, yR)) : ∃ m, wY_ask_181 post a p yn ys yt ye yl yh yI yP yC yF yA yQ yR m c 0 :=
  ⟨1, br_f (by decide) (br_f hp h)⟩
theorem ye_139 {T : Nat → Nat → Bool} {a : Nat} (hY : nd_Y yl yh T) (ha : a < 36) {post : Int32 → SY → Prop} (h : post (nI (nd_m (nd_dep (T a)) 7)) (yn, ys, yt, ye, yl, yh, yI, yP, yC, yF, yA, yQ, yR)) : ∃ m, wY_ask_139 post (nI a) 2 yn ys yt ye yl yh yI yP yC yF yA yQ yR m 0 0 := by
  refine loop_0 (fun m v s => wY_ask_139 post (nI a) 2 yn ys yt ye yl yh yI yP yC yF yA yQ yR m s (nI v)) (fun v s => s = nI (nd_m (nd_dep (T a)) v)) 7 0 rfl ?_ ?_
  · rintro m s rfl
    exact br_t nd_7 (ye_181n (by decide) h)
  · rintro m v s hv rfl ih
    refine br_f (nd_n7 hv) (br_t rfl (yb_dep hY ha hv (nd_br (fun z => nm_r (nd_or _ 0) (nm_r (nI_1 v) (ih _ ?_))) (fun z => nm_r (nd_orb (by omega)) (nm_r (nI_1 v) (ih _ ?_))))))
    · rw [nd_m_f z, Nat.or_zero]
    · rw [nd_m_t z]
theorem ye_139n {a p c : Int32} (hp : ¬ p = 2) {post : Int32 → SY → Prop} (h : ∃ m, wY_ask_181 post a p yn ys yt ye yl yh yI yP yC yF yA yQ yR m c 0) : ∃ m, wY_ask_139 post a p yn ys yt ye yl yh yI yP yC yF yA yQ yR m c 0 :=
  ⟨1, br_f (by decide) (br_f hp h)⟩
theorem ye_104 {q : Nat → Bool} {a : Int32} (hq : nd_I yP q 2187) {post : Int32 → SY → Prop} (h : post (nI (nd_cnt q 2187)) (yn, ys, yt, ye, yl, yh, yI, yP, yC, yF, yA, yQ, yR)) : ∃ m, wY_ask_104 post a 4 yn ys yt ye yl yh yI yP yC yF yA yQ yR m 0 0 := by
  refine loop_0 (fun m c s => wY_ask_104 post a 4 yn ys yt ye yl yh yI yP yC yF yA yQ yR m s (nI c)) (fun c s => s = nI (nd_cnt q c)) 2187 0 rfl ?_ ?_
  · rintro m s rfl
    exact br_t nd_c2187 (ye_139n (by decide) (ye_181n (by decide) h))
  · rintro m c s hc rfl ih
    refine br_f (nd_n2187 hc) ⟨vp_in_nI hc (by omega), ?_⟩
    rw [nI_clamp (show c < 2 ^ 31 by omega), hq c hc]
    refine nd_br (fun z => nm_r (nI_add _ 0) (nm_r (nI_1 c) (ih _ ?_))) (fun z => nm_r (nI_1 _) (nm_r (nI_1 c) (ih _ ?_)))
    · rw [nd_cnt_f z, Nat.add_zero]
    · rw [nd_cnt_t z]
/-- the answers of ask -/
def nd_ak (T : Nat → Bool) (j : Nat) : Int32 :=
  if j = 0 then nI (nd_cnt T 128) else if j = 1 then nd_ls T 128 else if j = 2 then nI (nd_m (nd_dep T) 7) else if j = 3 then nI (nd_dc T) else if j = 4 then nI (nd_cnt (nd_q T) 2187) else nI (nd_ess (nd_q T))
theorem nd_ak_0 (T : Nat → Bool) : nd_ak T 0 = nI (nd_cnt T 128) := by unfold nd_ak; rw [if_pos rfl]
theorem nd_ak_1 (T : Nat → Bool) : nd_ak T 1 = nd_ls T 128 := by unfold nd_ak; rw [if_neg (by decide), if_pos rfl]
theorem nd_ak_2 (T : Nat → Bool) : nd_ak T 2 = nI (nd_m (nd_dep T) 7) := by unfold nd_ak; rw [if_neg (by decide), if_neg (by decide), if_pos rfl]
theorem nd_ak_3 (T : Nat → Bool) : nd_ak T 3 = nI (nd_dc T) := by unfold nd_ak; rw [if_neg (by decide), if_neg (by decide), if_neg (by decide), if_pos rfl]
theorem nd_ak_4 (T : Nat → Bool) : nd_ak T 4 = nI (nd_cnt (nd_q T) 2187) := by unfold nd_ak; rw [if_neg (by decide), if_neg (by decide), if_neg (by decide), if_neg (by decide), if_pos rfl]
theorem nd_ak_5 (T : Nat → Bool) : nd_ak T 5 = nI (nd_ess (nd_q T)) := by unfold nd_ak; rw [if_neg (by decide), if_neg (by decide), if_neg (by decide), if_neg (by decide), if_neg (by decide)]
theorem nd_6 {j : Nat} (h : j < 6) : j = 0 ∨ j = 1 ∨ j = 2 ∨ j = 3 ∨ j = 4 ∨ j = 5 := by omega
theorem ye_ask {T : Nat → Nat → Bool} {n : Nat} {p0 p1 : Int32} (hY : nd_Y yl yh T) (hn : n ≤ 32) {post : Int32 → SY → Prop}
    (h : ∀ i p c : Nat → Int32, (∀ a j, a < n → j < 6 → p0 = nI a → p1 = nI j → post (nd_ak (T a) j) (nI n, ys, yt, ye, yl, yh, i, p, c, yF, yA, yQ, yR)) ∧ ((nd_in p0 n && nd_in p1 6) = false → post (-1) (nI n, ys, yt, ye, yl, yh, i, p, c, yF, yA, yQ, yR))) : wpY_ask post (nI n, ys, yt, ye, yl, yh, yI, yP, yC, yF, yA, yQ, yR) p0 p1 := by
  unfold wpY_ask
  dsimp only
  refine ya_net hn (nd_br (fun z => (h yI yP yC).2 (by rw [z, Bool.false_and])) (fun z => ?_))
  refine ya_amo 6 rfl (by omega) (nd_br (fun z2 => (h yI yP yC).2 (by rw [z2, Bool.and_false])) (fun z2 => ?_))
  obtain ⟨a, ha, rfl⟩ := (nd_in_iff (by omega)).mp z
  obtain ⟨j, hj, rfl⟩ := (nd_in_iff (by omega)).mp z2
  have h : ∀ i p c : Nat → Int32, post (nd_ak (T a) j) (nI n, ys, yt, ye, yl, yh, i, p, c, yF, yA, yQ, yR) := fun i p c => (h i p c).1 a j ha hj rfl rfl
  rcases nd_6 hj with rfl | rfl | rfl | rfl | rfl | rfl
  · rw [nd_ak_0] at h
    exact br_f (by decide) (ye_cnt hY (by omega) (fun _ => h yI yP yC) (fun z => absurd rfl z))
  · rw [nd_ak_1] at h
    exact br_f (by decide) (ye_cnt hY (by omega) (fun z => absurd z (by decide)) (fun _ => h yI yP yC))
  · rw [nd_ak_2] at h
    exact br_t (by decide) (br_t (by decide) (br_f (by decide) (br_f (by decide) (ye_139 hY (by omega) (h yI yP yC)))))
  · rw [nd_ak_3] at h
    exact br_t (by decide) (br_t (by decide) (br_f (by decide) (br_f (by decide) (ye_139n (by decide) (ye_181 hY (by omega) (h yI yP yC))))))
  · rw [nd_ak_4] at h
    exact br_t (by decide) (br_f (by decide) (yd_cubes hY (by omega) (fun i p hp => br_f (by decide) (br_t (by decide) (ye_104 hp (h i p yC))))))
  · rw [nd_ak_5] at h
    exact br_t (by decide) (br_f (by decide) (yd_cubes hY (by omega) (fun i p hp => br_t (by decide) (yd_ess hp (fun c => h i p c)))))
theorem ye_shape {T : Nat → Nat → Bool} {a v : Nat} (hY : nd_Y yl yh T) (ha : a < 36) (hv : v < 7) {post : Int32 → Prop} (hp : post (nI (nd_sh (T a) v 128))) : ∃ m, wY_shape_25 post (nI a) (nI v) yn ys yt ye yl yh yI yP yC yF yA yQ yR m 0 0 := by
  refine loop_0 (fun n i s => wY_shape_25 post (nI a) (nI v) yn ys yt ye yl yh yI yP yC yF yA yQ yR n s (nI i)) (fun i s => s = nI (nd_sh (T a) v i)) 128 0 (congrArg nI (show 0 = nd_sh (T a) v 0 from by unfold nd_sh nd_ri nd_fa; rw [nd_any, nd_any]; rfl)) ?_ ?_
  · rintro m s rfl
    exact br_t nd_128 hp
  · rintro m i s hi rfl ih
    refine br_f (nd_n128 hi) ?_
    rw [nd_bit (show i < 2 ^ 31 by omega) (by omega), nd_b1]
    refine br_c (fun z => ?_) (fun z => ?_)
    · refine nm_r (nI_1 i) (ih _ ?_)
      unfold nd_sh nd_ri nd_fa
      rw [nd_any, nd_any, z]
      simp only [Bool.not_true, Bool.false_and, Bool.or_false]
    · have z : i.testBit v = false := by
        cases y : i.testBit v
        · rfl
        · exact absurd y z
      have hr := nd_rise i hi v hv z
      refine ya_bit hY ha hi ?_
      rw [nd_orb (by omega)]
      refine ya_bit hY ha (by omega) ?_
      have key : nd_sh (T a) v (i + 1) = nd_sh (T a) v i ||| ((if (!T a i && T a (i ||| 2 ^ v)) then 1 else 0) ||| (if (T a i && !T a (i ||| 2 ^ v)) then 2 else 0)) := by
        unfold nd_sh nd_ri nd_fa
        rw [nd_any, nd_any, z]
        generalize nd_any (fun x => !x.testBit v && (!T a x && T a (x ||| 2 ^ v))) i = A
        generalize nd_any (fun x => !x.testBit v && (T a x && !T a (x ||| 2 ^ v))) i = B
        cases A <;> cases B <;> cases T a i <;> cases T a (i ||| 2 ^ v) <;> rfl
      refine nd_bq (fun w => nm_r (nI_1 i) (ih _ ?_)) (fun w => nd_br (fun w2 => ?_) (fun w2 => ?_))
      · rw [key, w]
        cases T a (i ||| 2 ^ v) <;> exact congrArg nI (Nat.or_zero _).symm
      · have w3 : T a i = true := by
          cases y : T a i
          · exact absurd (y.trans w2.symm) w
          · rfl
        refine nm_r (nd_or _ 2) (nm_r (nI_1 i) (ih _ ?_))
        rw [key, w2, w3]; rfl
      · have w3 : T a i = false := by
          cases y : T a i
          · rfl
          · exact absurd (y.trans w2.symm) w
        refine nm_r (nd_or _ 1) (nm_r (nI_1 i) (ih _ ?_))
        rw [key, w2, w3]; rfl
theorem ye_same {T : Nat → Nat → Bool} {a v w : Nat} (hY : nd_Y yl yh T) (ha : a < 36) (hv : v < 7) (hw : w < 7) {post : Int32 → Prop} (hp : post (nd_b (nd_all (fun x => T a x == T a (nd_sw x v w)) 128))) : ∃ m, wY_same_33 post (nI a) (nI v) (nI w) yn ys yt ye yl yh yI yP yC yF yA yQ yR m 0 := by
  refine loop_0 (fun n i (_ : Unit) => wY_same_33 post (nI a) (nI v) (nI w) yn ys yt ye yl yh yI yP yC yF yA yQ yR n (nI i)) (fun i _ => ∀ x, x < i → (T a x == T a (nd_sw x v w)) = true) 128 () (fun j hj => absurd hj (by omega)) ?_ ?_
  · intro m _ z
    rw [nd_all_iff.mpr z] at hp
    exact br_t nd_128 hp
  · intro m i _ hi z ih
    have hs := nd_swap v hv w hw i hi
    have b1 : ∀ b, nd_wi i v b < 128 := fun b => nd_wi_lt hi hv
    have s84 : wY_same_84 post (wY_same_33 post (nI a) (nI v) (nI w) yn ys yt ye yl yh yI yP yC yF yA yQ yR m) (nI a) (nI v) (nI w) (nI i) (nd_b (i.testBit v)) (nI w) (nI (nd_wi i v (i.testBit w))) yn ys yt ye yl yh yI yP yC yF yA yQ yR := by
      unfold wY_same_84
      refine ya_with (b1 _) hw ?_
      rw [hs.1]
      refine ya_bit hY ha hi (ya_bit hY ha hs.2 (nd_bq (fun e => nm_r (nI_1 i) (ih () (nd_lts z ?_))) (fun e => ?_)))
      · rw [e]; exact BEq.rfl
      · have e2 : nd_all (fun x => T a x == T a (nd_sw x v w)) 128 = false := nd_all_f hi (beq_eq_false_iff_ne.mpr e)
        rw [e2] at hp
        exact hp
    have s60 : wY_same_60 post (wY_same_33 post (nI a) (nI v) (nI w) yn ys yt ye yl yh yI yP yC yF yA yQ yR m) (nI a) (nI v) (nI w) (nI i) (nd_b (i.testBit w)) (nI v) (nI i) yn ys yt ye yl yh yI yP yC yF yA yQ yR := by
      unfold wY_same_60
      refine ya_with hi hv ?_
      rw [nd_bit (show i < 2 ^ 31 by omega) (by omega), nd_b1]
      revert s84
      cases i.testBit v
      · intro s84; exact br_f (by decide) s84
      · intro s84; exact br_t rfl s84
    refine br_f (nd_n128 hi) ?_
    rw [nd_bit (show i < 2 ^ 31 by omega) (by omega), nd_b1]
    revert s60
    cases i.testBit w
    · intro s60; exact br_f (by decide) s60
    · intro s60; exact br_t rfl s60
def nd_kp (q : Nat → Bool) (k : Nat) : Int32 := nd_ls (fun c => q c && decide (nd_cnt q c = k)) 2187
theorem nd_kp_t {q : Nat → Bool} {c : Nat} (hc : c < 2187) (hq : q c = true) : nd_kp q (nd_cnt q c) = nI c := by
  refine nd_ls_t (p := fun d => q d && decide (nd_cnt q d = nd_cnt q c)) hc ?_ ?_
  · intro d hd
    show (q d && decide (nd_cnt q d = nd_cnt q c)) = false
    cases y : q d
    · rfl
    · have := nd_cnt_at hd y
      rw [Bool.true_and]
      exact decide_eq_false (by omega)
  · show (q c && decide (nd_cnt q c = nd_cnt q c)) = true
    rw [hq, decide_eq_true rfl]; rfl
theorem nd_kp_f {q : Nat → Bool} {k : Nat} (h : nd_cnt q 2187 ≤ k) : nd_kp q k = -1 := by
  refine nd_ls_f (p := fun d => q d && decide (nd_cnt q d = k)) ?_
  intro d hd
  show (q d && decide (nd_cnt q d = k)) = false
  cases y : q d
  · rfl
  · have := nd_cnt_at hd y
    rw [Bool.true_and]
    exact decide_eq_false (by omega)
theorem ye_prime {q : Nat → Bool} {k : Nat} (hk : k < 2 ^ 31) (hq : nd_I yP q 2187) {post : Int32 → SY → Prop} (h : post (nd_kp q k) (yn, ys, yt, ye, yl, yh, yI, yP, yC, yF, yA, yQ, yR)) : ∃ m, wY_prime_24 post (nI k) yn ys yt ye yl yh yI yP yC yF yA yQ yR m 0 0 := by
  refine loop_0 (fun m c s => wY_prime_24 post (nI k) yn ys yt ye yl yh yI yP yC yF yA yQ yR m s (nI c)) (fun c s => s = nI (nd_cnt q c) ∧ nd_cnt q c ≤ k) 2187 0 ⟨rfl, Nat.zero_le _⟩ ?_ ?_
  · rintro m s ⟨rfl, z⟩
    rw [nd_kp_f z] at h
    exact br_t nd_c2187 h
  · rintro m c s hc ⟨rfl, z⟩ ih
    have hle := nd_cnt_le q c
    refine br_f (nd_n2187 hc) ⟨vp_in_nI hc (by omega), ?_⟩
    rw [nI_clamp (show c < 2 ^ 31 by omega), hq c hc]
    refine nd_br (fun y => nm_r (nI_1 c) (ih _ ⟨?_, ?_⟩)) (fun y => pk_eq (nd_cnt q c) k (fun w => ?_) (fun w => nm_r (nI_1 _) (nm_r (nI_1 c) (ih _ ⟨?_, ?_⟩))))
    · rw [nd_cnt_f y]
    · rw [nd_cnt_f y]; exact z
    · rw [← w, nd_kp_t hc y] at h
      exact h
    · rw [nd_cnt_t y]
    · rw [nd_cnt_t y]; omega
end NDY
end
section
/-! the reference: the machine -/
section NDY
variable {yn ys yt ye : Int32} {yl yh : Nat → Int64} {yI yP yC yF yA yQ yR : Nat → Int32}
theorem nd_s8 : ∀ s, s < 16 → ∀ i, i < 8 → nI s <<< ((3 : Int32) &&& 31) ||| nI i = nI (s * 8 + i) := by decide +kernel
theorem yf_beh {T : Nat → Nat → Bool} {s i : Nat} (hY : nd_Y yl yh T) (hs : s < 16) (hi : i < 8) {post : Int32 → Prop} (hp : post (nI (nd_nx (fun k => T (32 + k)) s i))) : wpY_behind post (yn, ys, yt, ye, yl, yh, yI, yP, yC, yF, yA, yQ, yR) (nI s) (nI i) := by
  refine loop_0 (fun m k r => wY_behind_5 post (nI s) (nI i) yn ys yt ye yl yh yI yP yC yF yA yQ yR m r (nI k)) (fun k r => r = nI (nd_m (fun k => T (32 + k) (s * 8 + i)) k)) 4 0 rfl ?_ ?_
  · rintro m r rfl
    exact br_t nd_4 hp
  · rintro m k r hk rfl ih
    refine br_f (nd_n4 hk) ?_
    rw [nd_s8 s hs i hi, show (32 : Int32) + nI k = nI (32 + k) from nI_add 32 k]
    refine ya_bit hY (by omega) (by omega) (nd_br (fun z => nm_r (nI_1 k) (ih _ ?_)) (fun z => nm_r (nd_orb (by omega)) (nm_r (nI_1 k) (ih _ ?_))))
    · rw [nd_m_f (p := fun k => T (32 + k) (s * 8 + i)) z]
    · rw [nd_m_t (p := fun k => T (32 + k) (s * 8 + i)) z]
theorem nd_so_x {T : Nat → Bool} {s : Nat} (hs : s < 16) : nd_any (fun y => T y && decide (y / 8 = s)) 128 = nd_so T s := by
  rw [Bool.eq_iff_iff, nd_any_iff]
  unfold nd_so
  rw [nd_any_iff]
  constructor
  · rintro ⟨y, hy, h⟩
    rw [Bool.and_eq_true] at h
    have e := of_decide_eq_true h.2
    refine ⟨y % 8, Nat.mod_lt _ (by decide), ?_⟩
    rw [show s * 8 + y % 8 = y by omega]
    exact h.1
  · rintro ⟨i, hi, h⟩
    refine ⟨s * 8 + i, by omega, ?_⟩
    rw [Bool.and_eq_true]
    exact ⟨h, decide_eq_true (by omega)⟩
theorem nd_x3 {x : Nat} (hx : x < 2 ^ 31) : nI x >>> ((3 : Int32) &&& 31) = nI (x / 8) := pk_shrN hx _ 3 (by decide)
theorem yf_set {T : Nat → Nat → Bool} {a : Nat} (hY : nd_Y yl yh T) (ha : a < 36) {post : Int32 → Prop} (hp : post (nI (nd_m (nd_so (T a)) 16))) : wpY_setOf post (yn, ys, yt, ye, yl, yh, yI, yP, yC, yF, yA, yQ, yR) (nI a) := by
  refine loop_0 (fun m x r => wY_setOf_4 post (nI a) yn ys yt ye yl yh yI yP yC yF yA yQ yR m r (nI x)) (fun x r => r = nI (nd_m (fun s => nd_any (fun y => T a y && decide (y / 8 = s)) x) 16)) 128 0 ?_ ?_ ?_
  · have e : nd_m (fun s => nd_any (fun y => T a y && decide (y / 8 = s)) 0) 16 = 0 := nd_m_zero.mpr (fun _ _ => rfl)
    rw [e]; rfl
  · rintro m r rfl
    refine br_t nd_128 ?_
    rw [nd_m_congr (fun s hs => nd_so_x (T := T a) hs)]
    exact hp
  · rintro m x r hx rfl ih
    refine br_f (nd_n128 hx) ?_
    rw [nd_x3 (by omega)]
    refine ya_bit hY ha hx (nd_br (fun z => nm_r (nI_1 x) (ih _ ?_)) (fun z => nm_r (nd_orb (by omega)) (nm_r (nI_1 x) (ih _ ?_))))
    · refine congrArg nI (nd_m_congr fun s _ => ?_)
      rw [nd_any, z, Bool.false_and, Bool.or_false]
    · rw [nd_m_ins (by omega)]
      refine congrArg nI (nd_m_congr fun s _ => ?_)
      rw [nd_any, z, Bool.true_and]
theorem nd_cnt_all {p : Nat → Bool} {n : Nat} : nd_cnt p n = n ↔ nd_all p n = true := by
  rw [nd_all_iff]
  constructor
  · intro h i hi
    cases z : p i
    · have h1 := nd_cnt_strict (p := p) (q := fun _ => true) (n := n) (fun _ _ _ => rfl) hi z rfl
      have h2 := nd_cnt_le (fun _ => true) n
      omega
    · rfl
  · intro h
    have h1 := nd_cnt_le p n
    have h2 : nd_cnt (fun _ => true) n ≤ nd_cnt p n := nd_cnt_mono (fun i hi _ => h i hi)
    have h3 : nd_cnt (fun _ => true) n = n := by
      clear h h1 h2
      induction n with
      | zero => rfl
      | succ n ih => rw [nd_cnt_t rfl, ih]
    omega
theorem nd_cnt_any {p : Nat → Bool} {n : Nat} : 0 < nd_cnt p n ↔ nd_any p n = true := by
  rw [nd_any_iff]
  constructor
  · intro h
    obtain ⟨c, h1, h2, _⟩ := nd_kth n h
    exact ⟨c, h1, h2⟩
  · rintro ⟨i, hi, h⟩
    exact nd_cnt_pos hi h
theorem yf_bef {T : Nat → Nat → Bool} {p : Nat → Bool} {all : Bool} (hY : nd_Y yl yh T) {post : Int32 → Prop} (hp : post (nI (nd_m (nd_ld (nd_nx (fun k => T (32 + k))) all p) 16))) : wpY_before post (yn, ys, yt, ye, yl, yh, yI, yP, yC, yF, yA, yQ, yR) (nI (nd_m p 16)) (nd_b all) := by
  have hm := nd_m16 p
  refine loop_0 (fun m s r => wY_before_5 post (nI (nd_m p 16)) (nd_b all) yn ys yt ye yl yh yI yP yC yF yA yQ yR m r (nI s)) (fun s r => r = nI (nd_m (nd_ld (nd_nx (fun k => T (32 + k))) all p) s)) 16 0 rfl ?_ ?_
  · rintro m r rfl
    exact br_t nd_16 hp
  · rintro m s r hs rfl ih
    refine br_f (nd_n16 hs) ?_
    have yes : nd_ld (nd_nx (fun k => T (32 + k))) all p s = true → wY_before_67 post (wY_before_5 post (nI (nd_m p 16)) (nd_b all) yn ys yt ye yl yh yI yP yC yF yA yQ yR m) (nI (nd_m p 16)) (nd_b all) (nI (nd_m (nd_ld (nd_nx (fun k => T (32 + k))) all p) s)) (nI s) yn ys yt ye yl yh yI yP yC yF yA yQ yR := by
      intro z
      refine nm_r (nd_orb (by omega)) (nm_r (nI_1 s) (ih _ ?_))
      rw [nd_m_t z]
    have no : nd_ld (nd_nx (fun k => T (32 + k))) all p s = false → ∀ y, y = nI s + 1 → wY_before_5 post (nI (nd_m p 16)) (nd_b all) yn ys yt ye yl yh yI yP yC yF yA yQ yR m (nI (nd_m (nd_ld (nd_nx (fun k => T (32 + k))) all p) s)) y := by
      intro z
      refine nm_r (nI_1 s) (ih _ ?_)
      rw [nd_m_f z]
    refine loop_0 (fun m' i r => wY_before_18 post (wY_before_5 post (nI (nd_m p 16)) (nd_b all) yn ys yt ye yl yh yI yP yC yF yA yQ yR m) (nI (nd_m p 16)) (nd_b all) (nI (nd_m (nd_ld (nd_nx (fun k => T (32 + k))) all p) s)) (nI s) yn ys yt ye yl yh yI yP yC yF yA yQ yR m' r (nI i)) (fun i r => r = nI (nd_cnt (fun i => p (nd_nx (fun k => T (32 + k)) s i)) i)) 8 0 rfl ?_ ?_
    · rintro m' r rfl
      have hle := nd_cnt_le (fun i => p (nd_nx (fun k => T (32 + k)) s i)) 8
      refine br_t nd_8 ?_
      cases all
      · refine br_t rfl (pk_le (nd_cnt (fun i => p (nd_nx (fun k => T (32 + k)) s i)) 8) 0 (fun z => no ?_) (fun z => yes ?_))
        · show nd_any (fun i => p (nd_nx (fun k => T (32 + k)) s i)) 8 = false
          cases y : nd_any (fun i => p (nd_nx (fun k => T (32 + k)) s i)) 8
          · rfl
          · have := nd_cnt_any.mpr y
            omega
        · exact nd_cnt_any.mp z
      · refine br_f (by decide) (pk_eq (nd_cnt (fun i => p (nd_nx (fun k => T (32 + k)) s i)) 8) 8 (fun z => yes (nd_cnt_all.mp z)) (fun z => no ?_))
        show nd_all (fun i => p (nd_nx (fun k => T (32 + k)) s i)) 8 = false
        cases y : nd_all (fun i => p (nd_nx (fun k => T (32 + k)) s i)) 8
        · rfl
        · exact absurd (nd_cnt_all.mpr y) z
    · rintro m' i r hi rfl ih2
      have hl := nd_nxl (fun k => T (32 + k)) s i
      refine br_f (nd_n8 hi) (yf_beh hY hs hi ?_)
      rw [nd_bit (show nd_m p 16 < 2 ^ 31 by omega) (by omega), nd_m_in hl, nd_bI]
      exact nm_r (nI_add _ _) (nm_r (nI_1 i) (ih2 _ rfl))
/-- distances held as ints, 99 for none -/
def nd_Fa (t : Nat → Int32) (e : Nat → Nat) : Prop := ∀ s, s < 16 → t s = nI (e s)
theorem nd_k15 {k : Nat} (hk : k < 2048) : (nI k >>> ((3 : Int32) &&& 31)) &&& 15 = nI (k / 8 % 16) := by
  rw [nd_x3 (by omega)]
  exact pk_andN (by omega) 4 (by decide)
theorem nd_k7 {k : Nat} (hk : k < 2048) : nI k &&& 7 = nI (k % 8) := pk_andN (by omega) 3 (by decide)
theorem yf_walk {T : Nat → Nat → Bool} {s0 : Nat} (h0 : s0 < 16) (hY : nd_Y yl yh T) {post : SY → Prop}
    (h : ∀ (t : Nat → Int32) (e : Nat → Nat), nd_D (nd_nx (fun k => T (32 + k))) s0 e → nd_Fa t e → post (yn, nI s0, yt, ye, yl, yh, yI, yP, yC, t, yA, yQ, yR)) : wpY_walk post (yn, nI s0, yt, ye, yl, yh, yI, yP, yC, yF, yA, yQ, yR) := by
  refine loop_0 (fun m k t => wY_walk_2 post yn (nI s0) yt ye m (nI k) yl yh yI yP yC t yA yQ yR) (fun k t => ∀ s, s < k → t s = nI (if s = s0 then 0 else 99)) 16 yF (fun u hu => absurd hu (by omega)) ?_ ?_
  · intro m t ht
    refine br_t nd_16 ?_
    refine loop_0 (fun m k t => wY_walk_36 post yn (nI s0) yt ye m (nI k) yl yh yI yP yC t yA yQ yR) (fun k t => ∃ e, nd_V (nd_nx (fun k => T (32 + k))) s0 k e ∧ nd_Fa t e) 2048 t ⟨_, nd_V_0, ht⟩ ?_ ?_
    · rintro m t ⟨e, h1, h2⟩
      exact br_t (nI_le (a := 2048) (b := 2048) (by omega) (by omega)) (h t e (nd_V_D h0 h1) h2)
    · rintro m k t hk ⟨e, h1, h2⟩ ih
      have hs : k / 8 % 16 < 16 := Nat.mod_lt _ (by decide)
      have hi : k % 8 < 8 := Nat.mod_lt _ (by decide)
      have hl := nd_nxl (fun k => T (32 + k)) (k / 8 % 16) (k % 8)
      have ha1 := h1.1 _ hs
      have ha2 := h1.1 _ hl
      refine br_f (nI_ge (b := 2048) hk (by omega)) (nm_r (nd_k15 hk) ?_)
      rw [nd_k7 hk]
      refine yf_beh hY hs hi ⟨vp_in_nI hs (by omega), vp_in_nI hl (by omega), ?_⟩
      rw [nI_clamp (show k / 8 % 16 < 2 ^ 31 by omega), nI_clamp (show nd_nx (fun k => T (32 + k)) (k / 8 % 16) (k % 8) < 2 ^ 31 by omega), h2 _ hs, h2 _ hl, nI_1]
      refine pk_le (e (nd_nx (fun k => T (32 + k)) (k / 8 % 16) (k % 8))) (e (k / 8 % 16) + 1) (fun z => ?_) (fun z => ?_)
      · exact nm_r (nI_1 k) (ih t ⟨e, nd_V_s (nd_nxF _) h1 (Or.inl ⟨rfl, z⟩) (fun _ _ => rfl), h2⟩)
      · refine ⟨vp_in_nI hs (by omega), vp_in_nI hl (by omega), nm_e (nm_r (nI_1 k) (ih _ ⟨nd_up e (nd_nx (fun k => T (32 + k)) (k / 8 % 16) (k % 8)) (e (k / 8 % 16) + 1), nd_V_s (nd_nxF _) h1 (Or.inr ⟨if_pos rfl, z⟩) (fun s hs => if_neg hs), ?_⟩))⟩
        intro s hs2
        unfold nd_up
        by_cases y : s = nd_nx (fun k => T (32 + k)) (k / 8 % 16) (k % 8)
        · rw [if_pos y, y, pk_us]
        · rw [if_neg y, pk_un y]
          exact h2 s hs2
  · intro m k t hk ht ih
    refine br_f (nd_n16 hk) (pk_eq k s0 (fun z => ⟨vp_in_nI hk (by omega), ?_⟩) (fun z => ⟨vp_in_nI hk (by omega), ?_⟩))
    · refine nm_r (e' := upd t k (nI (if k = s0 then 0 else 99))) (by rw [nI_clamp (by omega), if_pos z]; rfl) (nm_r (nI_1 k) (ih _ (nd_lts ?_ pk_us)))
      intro s hs
      rw [pk_un (by omega)]; exact ht s hs
    · refine nm_r (e' := upd t k (nI (if k = s0 then 0 else 99))) (by rw [nI_clamp (by omega), if_neg z]; rfl) (nm_r (nI_1 k) (ih _ (nd_lts ?_ pk_us)))
      intro s hs
      rw [pk_un (by omega)]; exact ht s hs
/-! reach -/
theorem yf_201 {T : Nat → Nat → Bool} {a s n : Nat} {R : Nat → Int32} (hY : nd_Y yl yh T) (ha : a < 36) (hs : s < 16) (hn : n < 16) (hx : nd_fst (fun i => T a (s * 8 + i)) 8 < 8) {post : Int32 → SY → Prop}
    (h : post (nI n) (yn, ys, yt, ye, yl, yh, yI, yP, yC, yF, yA, yQ, upd R n (nI (nd_fst (fun i => T a (s * 8 + i)) 8)))) : ∃ m, wY_reach_201 post (nI a) (nI n) (nI s) yn ys yt ye yl yh yI yP yC yF yA yQ R m 0 := by
  refine loop_0 (fun m i (_ : Unit) => wY_reach_201 post (nI a) (nI n) (nI s) yn ys yt ye yl yh yI yP yC yF yA yQ R m (nI i)) (fun i _ => True) (nd_fst (fun i => T a (s * 8 + i)) 8) () trivial ?_ ?_
  · intro m _ _
    have e := nd_fst_yes _ _ hx
    unfold wY_reach_201
    rw [nd_s8 s hs _ hx]
    refine ya_bit hY ha (by omega) (nd_br (fun z => ?_) (fun z => ⟨vp_in_nI (by omega) (by omega), nm_r (e' := upd R n (nI (nd_fst (fun i => T a (s * 8 + i)) 8))) (by rw [nI_clamp (by omega)]) h⟩))
    have e : T a (s * 8 + nd_fst (fun i => T a (s * 8 + i)) 8) = true := e
    rw [e] at z; cases z
  · intro m i _ hi _ ih
    have e := nd_fst_no _ _ _ hi
    unfold wY_reach_201
    rw [nd_s8 s hs i (by omega)]
    refine ya_bit hY ha (by omega) (nd_br (fun z => nm_r (nI_1 i) (ih () trivial)) (fun z => ?_))
    have e : T a (s * 8 + i) = false := e
    rw [e] at z; cases z
theorem yf_142 {T : Nat → Nat → Bool} {p : Nat → Bool} {a s n k : Nat} {R : Nat → Int32} (hY : nd_Y yl yh T) (hs : s < 16) (hn : n < 16) (hk : k < n) (hA : yA (n - 1 - k) = nI (nd_m p 16)) (hx : nd_fst (fun i => p (nd_nx (fun k => T (32 + k)) s i)) 8 < 8) {post : Int32 → SY → Prop} {J : Int32 → Int32 → (Nat → Int64) → (Nat → Int64) → (Nat → Int32) → (Nat → Int32) → (Nat → Int32) → (Nat → Int32) → (Nat → Int32) → (Nat → Int32) → (Nat → Int32) → Prop}
    (hJ : J (nI (nd_nx (fun k => T (32 + k)) s (nd_fst (fun i => p (nd_nx (fun k => T (32 + k)) s i)) 8))) (nI (k + 1)) yl yh yI yP yC yF yA yQ (upd R k (nI (nd_fst (fun i => p (nd_nx (fun k => T (32 + k)) s i)) 8)))) : ∃ m, wY_reach_142 post J (nI a) (nI n) (nI s) (nI k) yn ys yt ye yl yh yI yP yC yF yA yQ R m 0 := by
  have hm := nd_m16 p
  have e : nI n - nI k - 1 = nI (n - 1 - k) := by
    rw [show (1 : Int32) = nI 1 from rfl, pk_sub (by omega), pk_sub (by omega)]
    exact congrArg nI (by omega)
  refine loop_0 (fun m i (_ : Unit) => wY_reach_142 post J (nI a) (nI n) (nI s) (nI k) yn ys yt ye yl yh yI yP yC yF yA yQ R m (nI i)) (fun i _ => True) (nd_fst (fun i => p (nd_nx (fun k => T (32 + k)) s i)) 8) () trivial ?_ ?_
  · intro m _ _
    have e1 := nd_fst_yes _ _ hx
    have hl := nd_nxl (fun k => T (32 + k)) s (nd_fst (fun i => p (nd_nx (fun k => T (32 + k)) s i)) 8)
    unfold wY_reach_142
    rw [e, nI_clamp (show n - 1 - k < 2 ^ 31 by omega), hA]
    refine ⟨vp_in_nI (by omega) (by omega), yf_beh hY hs hx ?_⟩
    rw [nd_bit (show nd_m p 16 < 2 ^ 31 by omega) (by omega), nd_m_in hl]
    have e1 : p (nd_nx (fun k => T (32 + k)) s (nd_fst (fun i => p (nd_nx (fun k => T (32 + k)) s i)) 8)) = true := e1
    rw [e1]
    exact br_f (by decide) ⟨vp_in_nI (by omega) (by omega), nm_r (e' := upd R k (nI (nd_fst (fun i => p (nd_nx (fun k => T (32 + k)) s i)) 8))) (by rw [nI_clamp (by omega)]) (yf_beh hY hs hx (nm_r (nI_1 k) hJ))⟩
  · intro m i _ hi _ ih
    have e1 := nd_fst_no _ _ _ hi
    have hl := nd_nxl (fun k => T (32 + k)) s i
    unfold wY_reach_142
    rw [e, nI_clamp (show n - 1 - k < 2 ^ 31 by omega), hA]
    refine ⟨vp_in_nI (by omega) (by omega), yf_beh hY hs (by omega) ?_⟩
    rw [nd_bit (show nd_m p 16 < 2 ^ 31 by omega) (by omega), nd_m_in hl]
    have e1 : p (nd_nx (fun k => T (32 + k)) s i) = false := e1
    rw [e1]
    exact br_t rfl (nm_r (nI_1 i) (ih () trivial))
theorem yf_rt {T : Nat → Nat → Bool} {a s0 n : Nat} (hY : nd_Y yl yh T) (ha : a < 36) (h0 : s0 < 16) (hn : n < 16) (hL : nd_L (nd_nx (fun k => T (32 + k))) (nd_so (T a)) n s0 = true)
    (hA : ∀ k, k < n + 1 → yA k = nI (nd_m (nd_L (nd_nx (fun k => T (32 + k))) (nd_so (T a)) k) 16)) {post : Int32 → SY → Prop}
    (h : ∀ t : Nat → Int32, (∀ j, j < n + 1 → t j = nI (nd_row (nd_nx (fun k => T (32 + k))) (T a) s0 n j)) → post (nI n) (yn, nI s0, yt, ye, yl, yh, yI, yP, yC, yF, yA, yQ, t)) : ∃ m, wY_reach_133 post (nI a) (nI n) yn (nI s0) yt ye m (nI s0) 0 yl yh yI yP yC yF yA yQ yR := by
  have hps := nd_ps_L (nd_nxF (fun k => T (32 + k))) h0 hL
  refine loop_0 (fun m j (w : Int32 × (Nat → Int32)) => wY_reach_133 post (nI a) (nI n) yn (nI s0) yt ye m w.1 (nI j) yl yh yI yP yC yF yA yQ w.2) (fun j w => w.1 = nI (nd_ps (nd_nx (fun k => T (32 + k))) (nd_so (T a)) s0 n j) ∧ ∀ i, i < j → w.2 i = nI (nd_row (nd_nx (fun k => T (32 + k))) (T a) s0 n i)) n (nI s0, yR) ⟨rfl, fun i hi => absurd hi (by omega)⟩ ?_ ?_
  · rintro m ⟨w1, w2⟩ ⟨rfl, hw⟩
    refine br_t (nI_le (Nat.le_refl _) (by omega)) (yf_201 hY ha (hps n (Nat.le_refl _)).1 hn (nd_ps_T (nd_nxF _) h0 hL) (h _ (nd_lts ?_ ?_)))
    · intro i hi
      rw [pk_un (by omega)]; exact hw i hi
    · rw [pk_us, nd_row, if_neg (Nat.lt_irrefl n)]
  · rintro m j ⟨w1, w2⟩ hj ⟨rfl, hw⟩ ih
    obtain ⟨p1, p2, p3⟩ := hps j (by omega)
    have p3 := p3 hj
    have er : nd_row (nd_nx (fun k => T (32 + k))) (T a) s0 n j = nd_fst (fun i => nd_L (nd_nx (fun k => T (32 + k))) (nd_so (T a)) (n - 1 - j) (nd_nx (fun k => T (32 + k)) (nd_ps (nd_nx (fun k => T (32 + k))) (nd_so (T a)) s0 n j) i)) 8 := if_pos hj
    refine br_f (nI_ge hj (by omega)) (yf_142 hY p1 hn hj (hA (n - 1 - j) (by omega)) p3 ?_)
    refine ih (nI (nd_ps (nd_nx (fun k => T (32 + k))) (nd_so (T a)) s0 n (j + 1)), upd w2 j (nI (nd_fst (fun i => nd_L (nd_nx (fun k => T (32 + k))) (nd_so (T a)) (n - 1 - j) (nd_nx (fun k => T (32 + k)) (nd_ps (nd_nx (fun k => T (32 + k))) (nd_so (T a)) s0 n j) i)) 8))) ⟨rfl, nd_lts ?_ ?_⟩
    · intro i hi
      show upd w2 j _ i = _
      rw [pk_un (by omega)]; exact hw i hi
    · show upd w2 j _ j = _
      rw [pk_us, er]
theorem yf_reach {T : Nat → Nat → Bool} {a s0 : Nat} {e : Nat → Nat} (hY : nd_Y yl yh T) (ha : a < 36) (h0 : s0 < 16) (hD : nd_D (nd_nx (fun k => T (32 + k))) s0 e) (hF : nd_Fa yF e) {post : Int32 → SY → Prop}
    (h1 : nd_fst (fun k => nd_L (nd_nx (fun k => T (32 + k))) (nd_so (T a)) k s0) 16 = 16 → post (-1) (yn, nI s0, yt, ye, yl, yh, yI, yP, yC, yF, yA, yQ, yR))
    (h2 : ∀ n, n < 16 → nd_fst (fun k => nd_L (nd_nx (fun k => T (32 + k))) (nd_so (T a)) k s0) 16 = n → ∀ c t : Nat → Int32, (∀ j, j < n + 1 → t j = nI (nd_row (nd_nx (fun k => T (32 + k))) (T a) s0 n j)) → post (nI n) (yn, nI s0, yt, nI n, yl, yh, yI, yP, yC, yF, c, yQ, t)) :
    ∃ m, wY_reach_26 post (nI a) (nI (nd_m (nd_so (T a)) 16)) yn (nI s0) yt ye yl yh yI yP yC yF yA yQ yR m 99 0 := by
  have hm := nd_m16 (nd_so (T a))
  refine loop_0 (fun m s (r : Int32) => wY_reach_26 post (nI a) (nI (nd_m (nd_so (T a)) 16)) yn (nI s0) yt ye yl yh yI yP yC yF yA yQ yR m r (nI s)) (fun s r => ∃ n, r = nI n ∧ n ≤ 99 ∧ (∀ t, t < s → nd_so (T a) t = true → n ≤ e t) ∧ (n = 99 ∨ ∃ t, t < 16 ∧ nd_so (T a) t = true ∧ e t = n)) 16 99 ⟨99, rfl, by omega, fun t ht => by omega, Or.inl rfl⟩ ?_ ?_
  · rintro m r ⟨n, rfl, h3, h4, h5⟩
    refine br_t nd_16 ?_
    rcases nd_reach (nd_nxF _) h0 hD h4 h5 with ⟨h6, h7⟩ | ⟨h6, h7⟩
    · have hL : nd_L (nd_nx (fun k => T (32 + k))) (nd_so (T a)) n s0 = true := by
        have y := nd_fst_yes (fun k => nd_L (nd_nx (fun k => T (32 + k))) (nd_so (T a)) k s0) 16 (by omega)
        rw [h7] at y
        exact y
      refine br_f (fun y => absurd ((nI_eq (b := 99) (by omega) (by omega)).mp y) (by omega)) (nm_e ?_)
      refine pk_loop (fun m k t => wY_reach_91 post (nI a) (nI n) yn (nI s0) yt (nI n) m (nI k) yl yh yI yP yC yF t yQ yR) (fun k t => 1 ≤ k ∧ ∀ j, j < k → t j = nI (nd_m (nd_L (nd_nx (fun k => T (32 + k))) (nd_so (T a)) j) 16)) (n + 1) 1 _ (by omega) ⟨Nat.le_refl _, ?_⟩ ?_ ?_
      · intro j hj
        have e : j = 0 := by omega
        subst e
        exact pk_us
      · rintro m t ⟨_, ht⟩
        exact br_t (nI_lt (by omega) (by omega)) (yf_rt hY ha h0 h6 hL ht (fun t' ht' => h2 n h6 h7 t t' ht'))
      · rintro m k t hk ⟨h8, ht⟩ ih
        have em : nI k - 1 = nI (k - 1) := pk_sub (b := 1) h8
        refine br_f (nI_nlt (by omega) (by omega)) ?_
        rw [em, nI_clamp (show k - 1 < 2 ^ 31 by omega), ht (k - 1) (by omega)]
        refine ⟨vp_in_nI (by omega) (by omega), yf_bef (all := false) hY ⟨vp_in_nI (by omega) (by omega), ?_⟩⟩
        refine nm_r (e' := upd t k (nI (nd_m (nd_L (nd_nx (fun k => T (32 + k))) (nd_so (T a)) k) 16))) ?_ (nm_r (nI_1 k) (ih _ ⟨by omega, nd_lts ?_ pk_us⟩))
        · rw [nI_clamp (by omega)]
          obtain ⟨d, rfl⟩ : ∃ d, k = d + 1 := ⟨k - 1, by omega⟩
          rfl
        · intro j hj
          rw [pk_un (by omega)]; exact ht j hj
    · exact br_t ((nI_eq (b := 99) (by omega) (by omega)).mpr h6) (h1 h7)
  · rintro m s r hs ⟨n, rfl, h3, h4, h5⟩ ih
    have he := (hD s hs).2
    refine br_f (nd_n16 hs) ?_
    rw [nd_bit (show nd_m (nd_so (T a)) 16 < 2 ^ 31 by omega) (by omega), nd_m_in hs, nd_b1]
    refine br_c (fun z => ⟨vp_in_nI hs (by omega), ?_⟩) (fun z => nm_r (nI_1 s) (ih _ ⟨n, rfl, h3, ?_, h5⟩))
    · rw [nI_clamp (show s < 2 ^ 31 by omega), hF s hs]
      refine pk_le n (e s) (fun y => nm_r (nI_1 s) (ih _ ⟨n, rfl, h3, nd_lts h4 (fun _ => y), h5⟩)) (fun y => ⟨vp_in_nI hs (by omega), nm_e (nm_r (nI_1 s) (ih _ ⟨e s, rfl, by omega, nd_lts ?_ (fun _ => Nat.le_refl _), Or.inr ⟨s, hs, z, rfl⟩⟩))⟩)
      intro t ht y2
      have := h4 t ht y2
      omega
    · exact nd_lts h4 (fun y => absurd y z)
theorem yf_states {e : Nat → Nat} {j : Nat} (hj : j < 3) (hF : nd_Fa yF e) (he : ∀ s, s < 16 → e s < 16 ∨ e s = 99) {post : Int32 → SY → Prop} (h : post (nI (nd_sv e j)) (yn, ys, yt, ye, yl, yh, yI, yP, yC, yF, yA, yQ, yR)) : ∃ m, wY_states_25 post (nI j) yn ys yt ye yl yh yI yP yC yF yA yQ yR m 0 0 0 0 := by
  have hb := nd_mx_lt he
  refine loop_0 (fun m s (w : Int32 × Int32 × Int32) => wY_states_25 post (nI j) yn ys yt ye yl yh yI yP yC yF yA yQ yR m w.1 w.2.1 w.2.2 (nI s)) (fun s w => w = (nI (nd_cnt (fun s => decide (e s ≠ 99)) s), nI (nd_mx e s), nI (nd_m (fun s => decide (e s ≠ 99)) s))) 16 (0, 0, 0) rfl ?_ ?_
  · rintro m w rfl
    refine br_t nd_16 ?_
    have hj : j = 0 ∨ j = 1 ∨ j = 2 := by omega
    rcases hj with rfl | rfl | rfl
    · exact br_t (by decide) h
    · exact br_f (by decide) (br_t (by decide) h)
    · exact br_f (by decide) (br_f (by decide) h)
  · rintro m s w hs rfl ih
    have hb1 := hb s (by omega)
    have he1 := he s hs
    refine br_f (nd_n16 hs) ⟨vp_in_nI hs (by omega), ?_⟩
    rw [nI_clamp (show s < 2 ^ 31 by omega), hF s hs]
    refine pk_eq (e s) 99 (fun z => ?_) (fun z => ?_)
    · have zd : decide (e s ≠ 99) = false := decide_eq_false (fun y => y z)
      refine nm_r (nI_1 s) (ih _ ?_)
      rw [nd_cnt_f (q := fun s => decide (e s ≠ 99)) zd, nd_m_f (p := fun s => decide (e s ≠ 99)) zd, nd_mx, if_pos z]
    · have zd : decide (e s ≠ 99) = true := decide_eq_true z
      refine nm_r (nI_1 _) (nm_r (nd_orb (by omega)) ⟨vp_in_nI hs (by omega), ?_⟩)
      refine pk_le (e s) (nd_mx e s) (fun y => ?_) (fun y => ⟨vp_in_nI hs (by omega), nm_e ?_⟩)
      · refine nm_r (nI_1 s) (ih (nI (nd_cnt (fun s => decide (e s ≠ 99)) s + 1), nI (nd_mx e s), nI (nd_m (fun s => decide (e s ≠ 99)) s ||| 2 ^ s)) ?_)
        rw [nd_cnt_t (q := fun s => decide (e s ≠ 99)) zd, nd_m_t (p := fun s => decide (e s ≠ 99)) zd, nd_mx, if_neg z, if_pos y]
      · refine nm_r (nI_1 s) (ih (nI (nd_cnt (fun s => decide (e s ≠ 99)) s + 1), nI (e s), nI (nd_m (fun s => decide (e s ≠ 99)) s ||| 2 ^ s)) ?_)
        rw [nd_cnt_t (q := fun s => decide (e s ≠ 99)) zd, nd_m_t (p := fun s => decide (e s ≠ 99)) zd, nd_mx, if_neg z, if_neg (by omega)]
end NDY
end
section
/-! the reference: check, alike -/
section NDY
variable {yn ys yt ye : Int32} {yl yh : Nat → Int64} {yI yP yC yF yA yQ yR : Nat → Int32}
theorem nd_8c {j : Nat} (h : j < 8) : j = 0 ∨ j = 1 ∨ j = 2 ∨ j = 3 ∨ j = 4 ∨ j = 5 ∨ j = 6 ∨ j = 7 := by omega
theorem yg_co {T : Nat → Nat → Bool} {g t : Nat → Bool} {all : Bool} {x1 x5 : Int32} (hY : nd_Y yl yh T) (h6 : 6 ≤ x1) (h4 : 4 ≤ x1) {post : Int32 → Prop} (hp : post (nI (nd_m (nd_co (nd_nx (fun k => T (32 + k))) all g t 16) 16))) : ∃ m, wY_check_116 post x1 (nI (nd_m t 16)) (nI (nd_m g 16)) (nd_b all) yn ys yt ye yl yh yI yP yC yF yA yQ yR m (nI (nd_m g 16)) 0 := by
  refine loop_0 (fun m k r => wY_check_116 post x1 (nI (nd_m t 16)) (nI (nd_m g 16)) (nd_b all) yn ys yt ye yl yh yI yP yC yF yA yQ yR m r (nI k)) (fun k r => r = nI (nd_m (nd_co (nd_nx (fun k => T (32 + k))) all g t k) 16)) 17 _ rfl ?_ ?_
  · rintro m r rfl
    rw [← nd_m_congr (nd_co_stab (nd_nxF (fun k => T (32 + k))) all g t)] at hp
    exact br_t (nI_le (a := 17) (b := 17) (by omega) (by omega)) hp
  · rintro m k r hk rfl ih
    refine br_f (nI_ge (b := 17) hk (by omega)) (yf_bef hY (br_t h4 (br_t h6 (nm_r ?_ (nm_r (nI_1 k) (ih _ rfl))))))
    rw [nx_and, nd_m_and, nd_or, nd_m_or]
    rfl
theorem yg_ev {T : Nat → Nat → Bool} {g : Nat → Bool} {all : Bool} {x1 x5 : Int32} (hY : nd_Y yl yh T) (h4 : ¬ 4 ≤ x1) {post : Int32 → Prop} (hp : post (nI (nd_m (nd_co (nd_nx (fun k => T (32 + k))) all g (fun _ => true) 16) 16))) : ∃ m, wY_check_116 post x1 (nI (nd_m g 16)) x5 (nd_b all) yn ys yt ye yl yh yI yP yC yF yA yQ yR m (nI (nd_m g 16)) 0 := by
  refine loop_0 (fun m k r => wY_check_116 post x1 (nI (nd_m g 16)) x5 (nd_b all) yn ys yt ye yl yh yI yP yC yF yA yQ yR m r (nI k)) (fun k r => r = nI (nd_m (nd_co (nd_nx (fun k => T (32 + k))) all g (fun _ => true) k) 16)) 17 _ rfl ?_ ?_
  · rintro m r rfl
    rw [← nd_m_congr (nd_co_stab (nd_nxF (fun k => T (32 + k))) all g (fun _ => true))] at hp
    exact br_t (nI_le (a := 17) (b := 17) (by omega) (by omega)) hp
  · rintro m k r hk rfl ih
    refine br_f (nI_ge (b := 17) hk (by omega)) (yf_bef hY (br_f h4 (nm_r ?_ (nm_r (nI_1 k) (ih _ rfl)))))
    rw [nd_or, nd_m_or]
    rfl
theorem yg_st {T : Nat → Nat → Bool} {g : Nat → Bool} {all : Bool} {x1 x5 : Int32} (hY : nd_Y yl yh T) (h6 : ¬ 6 ≤ x1) (h4 : 4 ≤ x1) {post : Int32 → Prop} (hp : post (nI (nd_m (nd_st (nd_nx (fun k => T (32 + k))) all g 16) 16))) : ∃ m, wY_check_116 post x1 (nI (nd_m g 16)) x5 (nd_b all) yn ys yt ye yl yh yI yP yC yF yA yQ yR m (nI (nd_m g 16)) 0 := by
  refine loop_0 (fun m k r => wY_check_116 post x1 (nI (nd_m g 16)) x5 (nd_b all) yn ys yt ye yl yh yI yP yC yF yA yQ yR m r (nI k)) (fun k r => r = nI (nd_m (nd_st (nd_nx (fun k => T (32 + k))) all g k) 16)) 17 _ rfl ?_ ?_
  · rintro m r rfl
    rw [← nd_m_congr (nd_st_stab (nd_nxF (fun k => T (32 + k))) all g)] at hp
    exact br_t (nI_le (a := 17) (b := 17) (by omega) (by omega)) hp
  · rintro m k r hk rfl ih
    refine br_f (nI_ge (b := 17) hk (by omega)) (yf_bef hY (br_t h4 (br_f h6 (nm_r ?_ (nm_r (nI_1 k) (ih _ rfl))))))
    rw [nx_and, nd_m_and]
    rfl
theorem yg_82 {T : Nat → Nat → Bool} {j : Nat} {A B : Nat → Bool} {z : Int32} (hY : nd_Y yl yh T) (hj : j < 8) (hz : 6 ≤ j → z = nI (nd_m B 16)) {post : Int32 → Prop} (hp : post (nI (nd_ck (nd_nx (fun k => T (32 + k))) j A B))) : wY_check_82 post (nI j) (nI (nd_m A 16)) z (nd_b (decide (j % 2 = 1))) yn ys yt ye yl yh yI yP yC yF yA yQ yR := by
  unfold nd_ck at hp
  by_cases h2 : j < 2
  · rw [if_pos h2] at hp
    exact br_f (nI_ge (b := 2) h2 (by omega)) (yf_bef hY hp)
  · rw [if_neg h2] at hp
    refine br_t (nI_le (a := 2) (by omega) (by omega)) ?_
    by_cases h4 : j < 4
    · rw [if_pos h4] at hp
      exact br_f (nI_ge (b := 6) (by omega) (by omega)) (yg_ev hY (nI_ge (b := 4) h4 (by omega)) hp)
    · rw [if_neg h4] at hp
      have l4 : (4 : Int32) ≤ nI j := nI_le (a := 4) (by omega) (by omega)
      by_cases h6 : j < 6
      · rw [if_pos h6] at hp
        have l6 : ¬ (6 : Int32) ≤ nI j := nI_ge (b := 6) h6 (by omega)
        exact br_f l6 (yg_st hY l6 l4 hp)
      · rw [if_neg h6] at hp
        have l6 : (6 : Int32) ≤ nI j := nI_le (a := 6) (by omega) (by omega)
        have hz := hz (by omega)
        subst hz
        exact br_t l6 (yg_co (x5 := 0) hY l6 l4 hp)
theorem yg_54 {T : Nat → Nat → Bool} {j : Nat} {A B : Nat → Bool} {z : Int32} (hY : nd_Y yl yh T) (hj : j < 8) (hz : 6 ≤ j → z = nI (nd_m B 16)) {post : Int32 → Prop} (hp : post (nI (nd_ck (nd_nx (fun k => T (32 + k))) j A B))) : wY_check_54 post (nI j) (nI (nd_m A 16)) z yn ys yt ye yl yh yI yP yC yF yA yQ yR := by
  have h : wY_check_82 post (nI j) (nI (nd_m A 16)) z (nd_b (decide (j % 2 = 1))) yn ys yt ye yl yh yI yP yC yF yA yQ yR := yg_82 hY hj hz hp
  rcases nd_8c hj with rfl | rfl | rfl | rfl | rfl | rfl | rfl | rfl
  · exact br_f (by decide) (br_f (by decide) (br_f (by decide) (br_f (by decide) h)))
  · exact br_t (by decide) h
  · exact br_f (by decide) (br_f (by decide) (br_f (by decide) (br_f (by decide) h)))
  · exact br_f (by decide) (br_t (by decide) h)
  · exact br_f (by decide) (br_f (by decide) (br_f (by decide) (br_f (by decide) h)))
  · exact br_f (by decide) (br_f (by decide) (br_t (by decide) h))
  · exact br_f (by decide) (br_f (by decide) (br_f (by decide) (br_f (by decide) h)))
  · exact br_f (by decide) (br_f (by decide) (br_f (by decide) (br_t (by decide) h)))
theorem yg_33 {T : Nat → Nat → Bool} {j a b : Nat} {p3 : Int32} (hY : nd_Y yl yh T) (hj : j < 8) (ha : a < 36) (hb : 6 ≤ j → b < 36 ∧ p3 = nI b) {post : Int32 → Prop} (hp : post (nI (nd_ck (nd_nx (fun k => T (32 + k))) j (nd_so (T a)) (nd_so (T b))))) : wY_check_33 post (nI j) (nI a) p3 yn ys yt ye yl yh yI yP yC yF yA yQ yR := by
  unfold wY_check_33
  refine yf_set hY ha ?_
  refine pk_le j 5 (fun z => yg_54 hY hj (fun y => by omega) hp) (fun z => ?_)
  obtain ⟨hb', rfl⟩ := hb (by omega)
  exact yf_set hY hb' (yg_54 hY hj (fun _ => rfl) hp)
/-! alike -/
theorem nd_k4 {k : Nat} (hk : k < 256) : nI k >>> ((4 : Int32) &&& 31) = nI (k / 16) := pk_shrN (by omega) _ 4 (by decide)
theorem nd_kf {k : Nat} (hk : k < 256) : nI k &&& 15 = nI (k % 16) := pk_andN (by omega) 4 (by decide)
theorem nd_16s (s t : Nat) : 16 * nI s + nI t = nI (16 * s + t) := by
  rw [show (16 : Int32) = nI 16 from rfl, pk_mul, nI_add]
theorem yg_split {T : Nat → Nat → Bool} {A : Nat → Bool} {k : Nat} (hY : nd_Y yl yh T) (hk : k < 256) (hA : nd_I yQ A 256) {post : Int32 → Prop} (hp : post (nd_b (nd_any (fun i => A (16 * nd_nx (fun k => T (32 + k)) (k / 16) i + nd_nx (fun k => T (32 + k)) (k % 16) i)) 8))) : wpY_split post (yn, ys, yt, ye, yl, yh, yI, yP, yC, yF, yA, yQ, yR) (nI k) := by
  refine loop_0 (fun m i (_ : Unit) => wY_split_2 post (nI k) yn ys yt ye yl yh yI yP yC yF yA yQ yR m (nI i)) (fun n _ => ∀ i, i < n → A (16 * nd_nx (fun k => T (32 + k)) (k / 16) i + nd_nx (fun k => T (32 + k)) (k % 16) i) = false) 8 () (fun u hu => absurd hu (by omega)) ?_ ?_
  · intro m _ h
    rw [nd_any_f h] at hp
    exact br_t nd_8 hp
  · intro m i _ hi h ih
    have l1 := nd_nxl (fun k => T (32 + k)) (k / 16) i
    have l2 := nd_nxl (fun k => T (32 + k)) (k % 16) i
    refine br_f (nd_n8 hi) ?_
    rw [nd_k4 hk, nd_kf hk]
    refine yf_beh hY (by omega) hi (yf_beh hY (by omega) hi ?_)
    rw [nd_16s, nI_clamp (show 16 * nd_nx (fun k => T (32 + k)) (k / 16) i + nd_nx (fun k => T (32 + k)) (k % 16) i < 2 ^ 31 by omega), hA _ (by omega)]
    refine ⟨vp_in_nI (by omega) (by omega), nd_br (fun z => nm_r (nI_1 i) (ih () (nd_lts h z))) (fun z => ?_)⟩
    rw [nd_any_iff.mpr ⟨i, hi, z⟩] at hp
    exact hp
theorem yg_rounds {T : Nat → Nat → Bool} {g : Nat → Nat → Bool} {p : Int32} (hY : nd_Y yl yh T) {A : Nat → Bool} (hA : nd_I yQ A 256) (h0 : nd_A (nd_nx (fun k => T (32 + k))) g 0 0 A) {post : Int32 → SY → Prop}
    (h : ∀ t : Nat → Int32, nd_I t (fun j => !nd_E (nd_nx (fun k => T (32 + k))) g 16 (j / 16) (j % 16)) 256 → ∃ m, wY_alike_163 post p yn ys yt ye yl yh yI yP yC yF yA t yR m 0 0) : ∃ m, wY_alike_98 post p yn ys yt ye m 0 yl yh yI yP yC yF yA yQ yR := by
  refine loop_0 (fun m r t => wY_alike_98 post p yn ys yt ye m (nI r) yl yh yI yP yC yF yA t yR) (fun r t => ∃ A, nd_I t A 256 ∧ nd_A (nd_nx (fun k => T (32 + k))) g r 0 A) 16 yQ ⟨A, hA, h0⟩ ?_ ?_
  · rintro m t ⟨A, h1, h2⟩
    refine br_t nd_16 (h t ?_)
    intro j hj
    rw [h1 j hj, nd_A_D (nd_nxF _) h2 j hj]
  · rintro m r t hr ⟨A, h1, h2⟩ ih
    refine br_f (nd_n16 hr) ?_
    refine loop_0 (fun m' k t => wY_alike_107 post (wY_alike_98 post p yn ys yt ye m) p (nI r) yn ys yt ye m' (nI k) yl yh yI yP yC yF yA t yR) (fun k t => ∃ A, nd_I t A 256 ∧ nd_A (nd_nx (fun k => T (32 + k))) g r k A) 256 t ⟨A, h1, h2⟩ ?_ ?_
    · rintro m' t ⟨A, h1, h2⟩
      exact br_t (nI_le (a := 256) (b := 256) (by omega) (by omega)) (nm_r (nI_1 r) (ih t ⟨A, h1, nd_A_n h2⟩))
    · rintro m' k t hk ⟨A, h1, h2⟩ ih2
      have hkk : (nI k).toNatClampNeg = k := nI_clamp (by omega)
      have put : ∀ (b : Bool) (z : Int32), z = nd_b b → b = (A k || nd_any (fun i => A (16 * nd_nx (fun k => T (32 + k)) (k / 16) i + nd_nx (fun k => T (32 + k)) (k % 16) i)) 8) → ∀ w, w = upd t (nI k).toNatClampNeg (vp_nar .boolean z) → ∀ y, y = nI k + 1 → wY_alike_107 post (wY_alike_98 post p yn ys yt ye m) p (nI r) yn ys yt ye m' y yl yh yI yP yC yF yA w yR := by
        rintro b z rfl hb
        refine nm_r (e' := upd t k (nd_b b)) (by rw [hkk, nd_bv]) (nm_r (nI_1 k) (ih2 _ ⟨fun j => if j = k then b else A j, ?_, nd_A_s (nd_nxF _) hk h2 ?_ ?_⟩))
        · intro j hj
          dsimp only
          by_cases y : j = k
          · rw [y, pk_us, if_pos rfl]
          · rw [pk_un y, if_neg y]
            exact h1 j hj
        · rw [if_pos rfl]; exact hb
        · intro j hj
          exact if_neg hj
      refine br_f (nI_ge (b := 256) hk (by omega)) ⟨vp_in_nI hk (by omega), ?_⟩
      have hs : t (nI k).toNatClampNeg = nd_b (A k) := by rw [hkk]; exact h1 k hk
      rw [hs]
      refine nd_br (fun z => yg_split hY hk h1 (nd_br (fun w => ⟨vp_in_nI hk (by omega), put false 0 rfl ?_⟩) (fun w => ⟨vp_in_nI hk (by omega), put true 1 rfl ?_⟩))) (fun z => ⟨vp_in_nI hk (by omega), put true 1 rfl ?_⟩)
      · rw [z, w]; rfl
      · rw [z, w]; rfl
      · rw [z]; rfl
theorem yg_init {T : Nat → Nat → Bool} {f : Nat → Nat → Nat} {a : Nat} {p : Int32} (hY : nd_Y yl yh T) (ha : a < 36) {post : Int32 → SY → Prop}
    (h : ∀ t : Nat → Int32, nd_I t (fun j => !nd_E f (fun s i => T a (s * 8 + i)) 0 (j / 16) (j % 16)) 256 → ∃ m, wY_alike_98 post p yn ys yt ye m 0 yl yh yI yP yC yF yA t yR) : ∃ m, wY_alike_23 post (nI a) p yn ys yt ye m 0 yl yh yI yP yC yF yA yQ yR := by
  refine loop_0 (fun m k t => wY_alike_23 post (nI a) p yn ys yt ye m (nI k) yl yh yI yP yC yF yA t yR) (fun k t => nd_I t (fun j => !nd_E f (fun s i => T a (s * 8 + i)) 0 (j / 16) (j % 16)) k) 256 yQ (fun u hu => absurd hu (by omega)) ?_ ?_
  · intro m t ht
    exact br_t (nI_le (a := 256) (b := 256) (by omega) (by omega)) (h t ht)
  · intro m k t hk ht ih
    have hkk : (nI k).toNatClampNeg = k := nI_clamp (by omega)
    refine br_f (nI_ge (b := 256) hk (by omega)) ⟨vp_in_nI hk (by omega), nm_r (e' := upd t k (nd_b false)) (by rw [hkk]; exact congrArg _ (nd_bv false)) ?_⟩
    refine loop_0 (fun m' i w => wY_alike_40 post (wY_alike_23 post (nI a) p yn ys yt ye m) (nI a) p (nI k) yn ys yt ye m' (nI i) yl yh yI yP yC yF yA w yR) (fun i w => w k = nd_b (!nd_all (fun i => T a (k / 16 * 8 + i) == T a (k % 16 * 8 + i)) i) ∧ ∀ j, j ≠ k → w j = t j) 8 _ ⟨pk_us, fun j hj => pk_un hj⟩ ?_ ?_
    · rintro m' w ⟨h1, h2⟩
      refine br_t nd_8 (nm_r (nI_1 k) (ih w (nd_lts ?_ h1)))
      intro j hj
      rw [h2 j (by omega)]; exact ht j hj
    · rintro m' i w hi ⟨h1, h2⟩ ih2
      refine br_f (nd_n8 hi) ?_
      rw [nd_k4 hk, nd_kf hk, nd_s8 _ (show k / 16 < 16 by omega) i hi, nd_s8 _ (show k % 16 < 16 by omega) i hi]
      refine ya_bit hY ha (by omega) (ya_bit hY ha (by omega) (nd_bq (fun z => nm_r (nI_1 i) (ih2 _ ⟨?_, h2⟩)) (fun z => ⟨vp_in_nI hk (by omega), ?_⟩)))
      · rw [nd_all, z, BEq.rfl, Bool.and_true]; exact h1
      · refine nm_r (e' := upd w k (nd_b true)) (by rw [hkk]; exact congrArg _ (nd_bv true)) (nm_r (nI_1 i) (ih2 _ ⟨?_, ?_⟩))
        · rw [pk_us, nd_all, beq_eq_false_iff_ne.mpr z, Bool.and_false]; rfl
        · intro j hj
          rw [pk_un hj]; exact h2 j hj
theorem yg_fin {f : Nat → Nat → Nat} {g : Nat → Nat → Bool} {p : Int32} (hQ : nd_I yQ (fun j => !nd_E f g 16 (j / 16) (j % 16)) 256) {post : Int32 → SY → Prop}
    (h1 : ∀ s, s < 16 → p = nI s → post (nI (nd_lk f g 16 s)) (yn, ys, yt, ye, yl, yh, yI, yP, yC, yF, yA, yQ, yR))
    (h2 : (∀ s, s < 16 → p ≠ nI s) → post (nI (nd_cnt (fun s => nd_lk f g 16 s == s) 16)) (yn, ys, yt, ye, yl, yh, yI, yP, yC, yF, yA, yQ, yR)) : ∃ m, wY_alike_163 post p yn ys yt ye yl yh yI yP yC yF yA yQ yR m 0 0 := by
  refine loop_0 (fun m s (r : Int32) => wY_alike_163 post p yn ys yt ye yl yh yI yP yC yF yA yQ yR m r (nI s)) (fun s r => r = nI (nd_cnt (fun s => nd_lk f g 16 s == s) s) ∧ ∀ t, t < s → p ≠ nI t) 16 0 ⟨rfl, fun u hu => absurd hu (by omega)⟩ ?_ ?_
  · rintro m r ⟨rfl, h⟩
    exact br_t nd_16 (h2 h)
  · rintro m s r hs ⟨rfl, h⟩ ih
    refine br_f (nd_n16 hs) ?_
    have hle := nd_lk_le (f := f) (g := g) 16 s
    have hE := nd_lk_E (f := f) (g := g) 16 s
    have rd : ∀ t, t < 16 → yQ (16 * nI s + nI t).toNatClampNeg = nd_b (!nd_E f g 16 s t) := by
      intro t ht
      rw [nd_16s, nI_clamp (by omega), hQ _ (by omega)]
      show nd_b (!nd_E f g 16 ((16 * s + t) / 16) ((16 * s + t) % 16)) = nd_b (!nd_E f g 16 s t)
      rw [show (16 * s + t) / 16 = s by omega, show (16 * s + t) % 16 = t by omega]
    have iv : ∀ t, t < 16 → vp_in (16 * nI s + nI t) 256 := by
      intro t ht
      rw [nd_16s]
      exact vp_in_nI (by omega) (by omega)
    refine loop_0 (fun m' t (_ : Unit) => wY_alike_173 post (wY_alike_163 post p yn ys yt ye yl yh yI yP yC yF yA yQ yR m) p (nI (nd_cnt (fun s => nd_lk f g 16 s == s) s)) (nI s) yn ys yt ye yl yh yI yP yC yF yA yQ yR m' (nI t)) (fun _ _ => True) (nd_lk f g 16 s) () trivial ?_ ?_
    · intro m' _ _
      unfold wY_alike_173
      rw [rd _ (by omega), nd_E_y _ _ _ hE]
      refine ⟨iv _ (by omega), br_t rfl (br_c (fun z => h1 s hs z.symm) (fun z => ?_))⟩
      have hn : ∀ t, t < s + 1 → p ≠ nI t := nd_lts h (fun y => z y.symm)
      refine nd_lkq (by omega) hs (fun w => nm_r (nI_1 _) (nm_r (nI_1 s) (ih _ ⟨?_, hn⟩))) (fun w => nm_r (nI_1 s) (ih _ ⟨?_, hn⟩))
      · rw [nd_cnt_t (q := fun s => nd_lk f g 16 s == s) w]
      · rw [nd_cnt_f (q := fun s => nd_lk f g 16 s == s) w]
    · intro m' t _ ht _ ih2
      have e : nd_E f g 16 s t = false := by
        cases y : nd_E f g 16 s t
        · rfl
        · have := nd_lk_min (nd_E_y _ _ _ y)
          omega
      unfold wY_alike_173
      rw [rd t (by omega), e]
      exact ⟨iv t (by omega), br_f (by decide) (nm_r (nI_1 t) (ih2 () trivial))⟩
end NDY
end
section
/-! the constructors -/
def nd_t0 (a x : Nat) : Bool := (decide (a < 7) && x.testBit a) || decide (a = 8)
section NDX
variable {xn xr xm xc xl : Int32} {xT xM xN xI xP xC xH xL xD xR xK xF : Nat → Int32}
theorem xi_row {a : Nat} (ha : a < 9) {t : Nat → Int32} (h : ∀ a' x, a' < a → x < 128 → t (a' * 128 + x) = nd_b (nd_t0 a' x)) {post : SX → Prop} {J : Int32 → (Nat → Int32) → (Nat → Int32) → (Nat → Int32) → (Nat → Int32) → (Nat → Int32) → (Nat → Int32) → (Nat → Int32) → (Nat → Int32) → (Nat → Int32) → (Nat → Int32) → (Nat → Int32) → (Nat → Int32) → Prop}
    (hJ : ∀ t' : Nat → Int32, (∀ a' x, a' < a + 1 → x < 128 → t' (a' * 128 + x) = nd_b (nd_t0 a' x)) → J (nI (a + 1)) t' xM xN xI xP xC xH xL xD xR xK xF) : ∃ m, wX_init_116 post J (nI a) xn xr xm xc xl m 0 t xM xN xI xP xC xH xL xD xR xK xF := by
  refine loop_0 (fun m i s => wX_init_116 post J (nI a) xn xr xm xc xl m (nI i) s xM xN xI xP xC xH xL xD xR xK xF) (fun i s => (∀ a' x, a' < a → x < 128 → s (a' * 128 + x) = nd_b (nd_t0 a' x)) ∧ ∀ x, x < i → s (a * 128 + x) = nd_b (nd_t0 a x)) 128 t ⟨h, fun u hu => absurd hu (by omega)⟩ ?_ ?_
  · rintro m s ⟨h1, h2⟩
    refine br_t nd_128 (nm_r (nI_1 a) (hJ s ?_))
    intro a' x ha' hx
    by_cases z : a' = a
    · rw [z]; exact h2 x hx
    · exact h1 a' x (by omega) hx
  · rintro m i s hi ⟨h1, h2⟩ ih
    have put : ∀ z : Int32, z = nd_b (nd_t0 a i) → ∀ w, w = upd s (nI a * 128 + nI i).toNatClampNeg (vp_nar .boolean z) → ∀ y, y = nI i + 1 → wX_init_116 post J (nI a) xn xr xm xc xl m y w xM xN xI xP xC xH xL xD xR xK xF := by
      rintro z rfl
      refine nm_r (e' := upd s (a * 128 + i) (nd_b (nd_t0 a i))) (by rw [nd_ix, nI_clamp (by omega), nd_bv]) (nm_r (nI_1 i) (ih _ ⟨?_, nd_lts ?_ pk_us⟩))
      · intro a' x ha' hx
        rw [pk_un (by omega)]; exact h1 a' x ha' hx
      · intro x hx
        rw [pk_un (by omega)]; exact h2 x hx
    have iv : vp_in (nI a * 128 + nI i) 4096 := by rw [nd_ix]; exact vp_in_nI (by omega) (by omega)
    refine br_f (nd_n128 hi) (pk_le 7 a (fun z => pk_eq a 8 (fun z2 => ⟨iv, put 1 ?_⟩) (fun z2 => ⟨iv, put 0 ?_⟩)) (fun z => xa_bit (by omega) (by omega) ⟨iv, put _ ?_⟩))
    · unfold nd_t0
      rw [decide_eq_true z2, Bool.or_true]; rfl
    · unfold nd_t0
      rw [decide_eq_false z2, decide_eq_false (show ¬ a < 7 by omega)]; rfl
    · unfold nd_t0
      rw [decide_eq_true (show a < 7 by omega), decide_eq_false (show ¬ a = 8 by omega), Bool.true_and, Bool.or_false]
theorem xi_init {post : SX → Prop}
    (h : ∀ t w : Nat → Int32, nd_T t nd_t0 9 → nd_T w (fun k => nd_t0 (3 + k)) 4 → post (nI 9, nI 0, nI 0, 0, nI 0, t, fun _ => 0, w, fun _ => 0, fun _ => 0, fun _ => 0, fun _ => 0, fun _ => 0, fun _ => 0, fun _ => 0, fun _ => 0, fun _ => 0)) : wpX_init post := by
  refine loop_0 (fun m a t => wX_init_108 post 0 0 0 0 0 m (nI a) t (fun _ => 0) (fun _ => 0) (fun _ => 0) (fun _ => 0) (fun _ => 0) (fun _ => 0) (fun _ => 0) (fun _ => 0) (fun _ => 0) (fun _ => 0) (fun _ => 0)) (fun a t => ∀ a' x, a' < a → x < 128 → t (a' * 128 + x) = nd_b (nd_t0 a' x)) 9 (fun _ => 0) (fun a' x ha' => absurd ha' (by omega)) ?_ ?_
  · intro m t ht
    refine br_t (nI_le (a := 9) (b := 9) (by omega) (by omega)) ?_
    refine loop_0 (fun m k w => wX_init_180 post m (nI k) 9 0 0 0 0 t (fun _ => 0) w (fun _ => 0) (fun _ => 0) (fun _ => 0) (fun _ => 0) (fun _ => 0) (fun _ => 0) (fun _ => 0) (fun _ => 0) (fun _ => 0)) (fun k w => ∀ k' x, k' < k → x < 128 → w (k' * 128 + x) = nd_b (nd_t0 (3 + k') x)) 4 (fun _ => 0) (fun a' x ha' => absurd ha' (by omega)) ?_ ?_
    · intro m w hw
      exact br_t nd_4 (h t w ht hw)
    · intro m k w hk hw ih
      refine br_f (nd_n4 hk) ?_
      rw [show (3 : Int32) + nI k = nI (3 + k) from nI_add 3 k]
      refine xa_cpy ht (by omega) (by omega) hk (fun w' h1 h2 => nm_r (nI_1 k) (ih w' ?_))
      intro k' x hk' hx
      by_cases z : k' = k
      · rw [z]; exact h1 x hx
      · rw [h2 _ (by omega)]; exact hw k' x (by omega) hx
  · intro m a t ha ht ih
    exact br_f (nI_ge (b := 9) ha (by omega)) (xi_row ha ht (fun t' h' => ih t' h'))
end NDX
section NDY
variable {yn ys yt ye : Int32} {yl yh : Nat → Int64} {yI yP yC yF yA yQ yR : Nat → Int32}
theorem yi_165 {post : SY → Prop} (hb : ∀ a x, x < 128 → nd_yb yl yh a x = nd_t0 a x)
    (h : ∀ l w : Nat → Int64, (∀ a x, a < 9 → x < 128 → nd_yb l w a x = nd_t0 a x) → (∀ k x, k < 4 → x < 128 → nd_yb l w (32 + k) x = nd_t0 (3 + k) x) → post (yn, ys, yt, ye, l, w, yI, yP, yC, yF, yA, yQ, yR)) : ∃ m, wY_init_165 post m 3 yn ys yt ye yl yh yI yP yC yF yA yQ yR := by
  refine pk_loop (fun m v (s : (Nat → Int64) × (Nat → Int64)) => wY_init_165 post m (nI v) yn ys yt ye s.1 s.2 yI yP yC yF yA yQ yR) (fun v s => 3 ≤ v ∧ ∀ a x, x < 128 → nd_yb s.1 s.2 a x = if 32 ≤ a ∧ a < 29 + v then nd_t0 (a - 29) x else nd_t0 a x) 7 3 (yl, yh) (by omega) ⟨Nat.le_refl _, fun a x hx => by rw [if_neg (by omega)]; exact hb a x hx⟩ ?_ ?_
  · rintro m ⟨l, w⟩ ⟨_, h1⟩
    refine br_t nd_7 (h l w ?_ ?_)
    · intro a x ha hx
      have := h1 a x hx
      rw [if_neg (by omega)] at this
      exact this
    · intro k x hk hx
      have := h1 (32 + k) x hx
      rw [if_pos (by omega), show 32 + k - 29 = 3 + k by omega] at this
      exact this
  · rintro m v ⟨l, w⟩ hv ⟨h3, h1⟩ ih
    have h1 : ∀ a x, x < 128 → nd_yb l w a x = if 32 ≤ a ∧ a < 29 + v then nd_t0 (a - 29) x else nd_t0 a x := h1
    refine br_f (nd_n7 hv) ?_
    rw [show (29 : Int32) + nI v = nI (29 + v) from nI_add 29 v]
    refine ya_copy (by omega) (by omega) (fun l' w' hw => nm_r (nI_1 v) (ih (l', w') ⟨by omega, ?_⟩))
    intro a x hx
    show nd_yb l' w' a x = _
    rw [hw a x]
    by_cases z : a = 29 + v
    · rw [if_pos z, if_pos (by omega), h1 v x hx, if_neg (by omega), z, show 29 + v - 29 = v by omega]
    · rw [if_neg z, h1 a x hx]
      by_cases y : 32 ≤ a ∧ a < 29 + v
      · rw [if_pos y, if_pos (by omega)]
      · rw [if_neg y, if_neg (by omega)]
theorem yi_142 {post : SY → Prop} (hb : ∀ a x, x < 128 → nd_yb yl yh a x = (decide (a < 7) && x.testBit a))
    (h : ∀ l w : Nat → Int64, (∀ a x, x < 128 → nd_yb l w a x = nd_t0 a x) → ∃ m, wY_init_165 post m 3 yn ys yt ye l w yI yP yC yF yA yQ yR) : ∃ m, wY_init_142 post m 0 yn ys yt ye yl yh yI yP yC yF yA yQ yR := by
  refine loop_0 (fun m i (s : (Nat → Int64) × (Nat → Int64)) => wY_init_142 post m (nI i) yn ys yt ye s.1 s.2 yI yP yC yF yA yQ yR) (fun i s => ∀ a x, x < 128 → nd_yb s.1 s.2 a x = ((decide (a < 7) && x.testBit a) || (decide (a = 8) && decide (x < i)))) 128 (yl, yh) (fun a x hx => by rw [hb a x hx, decide_eq_false (Nat.not_lt_zero x), Bool.and_false, Bool.or_false]) ?_ ?_
  · rintro m ⟨l, w⟩ h1
    refine br_t nd_128 (h l w ?_)
    intro a x hx
    have := h1 a x hx
    rw [decide_eq_true hx, Bool.and_true] at this
    exact this
  · rintro m i ⟨l, w⟩ hi h1 ih
    have h1 : ∀ a x, x < 128 → nd_yb l w a x = ((decide (a < 7) && x.testBit a) || (decide (a = 8) && decide (x < i))) := h1
    refine br_f (nd_n128 hi) (ya_set (a := 8) (b := true) (by omega) hi (fun l' w' hw => nm_r (nI_1 i) (ih (l', w') ?_)))
    intro a x hx
    show nd_yb l' w' a x = _
    rw [hw a x hx, h1 a x hx, Bool.and_true, Bool.or_assoc, ← Bool.and_or_distrib_left]
    by_cases z : x = i
    · rw [decide_eq_true z, decide_eq_true (show x < i + 1 by omega), Bool.or_true]
    · rw [decide_eq_false z, Bool.or_false]
      by_cases y : x < i
      · rw [decide_eq_true y, decide_eq_true (show x < i + 1 by omega)]
      · rw [decide_eq_false y, decide_eq_false (show ¬ x < i + 1 by omega)]
theorem yi_101 {post : SY → Prop} {v : Nat} (hv : v < 7) {J : Int32 → Int32 → Int32 → Int32 → Int32 → (Nat → Int64) → (Nat → Int64) → (Nat → Int32) → (Nat → Int32) → (Nat → Int32) → (Nat → Int32) → (Nat → Int32) → (Nat → Int32) → (Nat → Int32) → Prop} (hb : ∀ a x, x < 128 → nd_yb yl yh a x = (decide (a < v) && x.testBit a))
    (hJ : ∀ l w : Nat → Int64, (∀ a x, x < 128 → nd_yb l w a x = (decide (a < v + 1) && x.testBit a)) → J (nI (v + 1)) yn ys yt ye l w yI yP yC yF yA yQ yR) : ∃ m, wY_init_101 post J (nI v) m 0 yn ys yt ye yl yh yI yP yC yF yA yQ yR := by
  refine loop_0 (fun m i (s : (Nat → Int64) × (Nat → Int64)) => wY_init_101 post J (nI v) m (nI i) yn ys yt ye s.1 s.2 yI yP yC yF yA yQ yR) (fun i s => ∀ a x, x < 128 → nd_yb s.1 s.2 a x = ((decide (a < v) && x.testBit a) || (decide (a = v) && (decide (x < i) && x.testBit v)))) 128 (yl, yh) (fun a x hx => by rw [hb a x hx, decide_eq_false (Nat.not_lt_zero x), Bool.false_and, Bool.and_false, Bool.or_false]) ?_ ?_
  · rintro m ⟨l, w⟩ h1
    refine br_t nd_128 (nm_r (nI_1 v) (hJ l w ?_))
    intro a x hx
    have h2 : nd_yb l w a x = ((decide (a < v) && x.testBit a) || (decide (a = v) && (decide (x < 128) && x.testBit v))) := h1 a x hx
    rw [h2, decide_eq_true hx, Bool.true_and]
    by_cases z : a = v
    · subst z
      rw [decide_eq_true rfl, decide_eq_false (Nat.lt_irrefl a), decide_eq_true (show a < a + 1 by omega), Bool.false_and, Bool.false_or]
    · rw [decide_eq_false z, Bool.false_and, Bool.or_false]
      by_cases y : a < v
      · rw [decide_eq_true y, decide_eq_true (show a < v + 1 by omega)]
      · rw [decide_eq_false y, decide_eq_false (show ¬ a < v + 1 by omega)]
  · rintro m i ⟨l, w⟩ hi h1 ih
    have h1 : ∀ a x, x < 128 → nd_yb l w a x = ((decide (a < v) && x.testBit a) || (decide (a = v) && (decide (x < i) && x.testBit v))) := h1
    have key : wY_init_125 post J (wY_init_101 post J (nI v) m) (nI v) (nI i) (nd_b (i.testBit v)) (nI i) (nI v) yn ys yt ye l w yI yP yC yF yA yQ yR := by
      unfold wY_init_125
      refine ya_set (by omega) hi (fun l' w' hw => nm_r (nI_1 i) (ih (l', w') ?_))
      intro a x hx
      show nd_yb l' w' a x = _
      rw [hw a x hx, h1 a x hx, Bool.or_assoc, ← Bool.and_or_distrib_left]
      by_cases z : x = i
      · subst z
        rw [decide_eq_true rfl, decide_eq_true (show x < x + 1 by omega), decide_eq_false (Nat.lt_irrefl x), Bool.false_and, Bool.false_or]
      · rw [decide_eq_false z, Bool.false_and, Bool.or_false]
        by_cases y : x < i
        · rw [decide_eq_true y, decide_eq_true (show x < i + 1 by omega)]
        · rw [decide_eq_false y, decide_eq_false (show ¬ x < i + 1 by omega)]
    refine br_f (nd_n128 hi) ?_
    rw [nd_bit (show i < 2 ^ 31 by omega) (by omega), nd_b1]
    revert key
    cases i.testBit v
    · intro key; exact br_f (by decide) key
    · intro key; exact br_t rfl key
theorem yi_init {post : SY → Prop}
    (h : ∀ l w : Nat → Int64, (∀ a x, a < 9 → x < 128 → nd_yb l w a x = nd_t0 a x) → (∀ k x, k < 4 → x < 128 → nd_yb l w (32 + k) x = nd_t0 (3 + k) x) → post (nI 9, nI 0, nI 0, -1, l, w, fun _ => 0, fun _ => 0, fun _ => 0, fun _ => 0, fun _ => 0, fun _ => 0, fun _ => 0)) : wpY_init post := by
  refine loop_0 (fun m v (s : (Nat → Int64) × (Nat → Int64)) => wY_init_93 post m (nI v) 9 0 0 (-1) s.1 s.2 (fun _ => 0) (fun _ => 0) (fun _ => 0) (fun _ => 0) (fun _ => 0) (fun _ => 0) (fun _ => 0)) (fun v s => ∀ a x, x < 128 → nd_yb s.1 s.2 a x = (decide (a < v) && x.testBit a)) 7 (fun _ => 0, fun _ => 0) ?_ ?_ ?_
  · intro a x _
    show nd_yb (fun _ => 0) (fun _ => 0) a x = (decide (a < 0) && x.testBit a)
    unfold nd_yb
    rw [decide_eq_false (Nat.not_lt_zero a), Bool.false_and]
    split
    · exact BitVec.getLsbD_zero
    · exact BitVec.getLsbD_zero
  · rintro m ⟨l, w⟩ h1
    exact br_t nd_7 (yi_142 h1 (fun l' w' h2 => yi_165 h2 (fun l'' w'' h3 h4 => h l'' w'' h3 h4)))
  · rintro m v ⟨l, w⟩ hv h1 ih
    exact br_f (nd_n7 hv) (yi_101 hv h1 (fun l' w' h2 => ih (l', w') h2))
end NDY
end
section
/-! whole methods, each side by itself, to one value -/
theorem nd_an {b c : Bool} {post : Int32 → Prop} {A : Prop} (hp : post (nd_b (b && c))) (f : b = true → post (nd_b c) → A) : (nd_b b = 0 → post 0) ∧ (¬ nd_b b = 0 → A) := by
  cases b
  · exact br_t rfl hp
  · exact br_f (by decide) (f rfl hp)
theorem nd_m1c (p : Int32) : p < -1 ∨ p = -1 ∨ ∃ j, j < 2 ^ 31 ∧ p = nI j := by
  by_cases h : p < 0
  · have e1 : (-1 : Int32).toInt = -1 := by decide
    have e0 : (0 : Int32).toInt = 0 := by decide
    rw [Int32.lt_iff_toInt_lt, e0] at h
    by_cases h2 : p.toInt = -1
    · exact Or.inr (Or.inl (Int32.toInt_inj.mp (h2.trans e1.symm)))
    · refine Or.inl ?_
      rw [Int32.lt_iff_toInt_lt, e1]
      omega
  · obtain ⟨j, hj, e⟩ := nI_of h
    exact Or.inr (Or.inr ⟨j, hj, e⟩)
theorem nd_lt_m1 {p : Int32} (h : p < -1) : p < 0 := Int32.lt_of_lt_of_le h (by decide)
theorem nd_nm1 {j : Nat} (hj : j < 2 ^ 31) : ¬ nI j < -1 := fun h => nI_pos hj (nd_lt_m1 h)
section NDX
variable {xn xr xm xc xl : Int32} {xT xM xN xI xP xC xH xL xD xR xK xF : Nat → Int32}
theorem xh_holds {T : Nat → Nat → Bool} {n : Nat} {p q : Int32} (hT : nd_T xT T n) (hn : n ≤ 32) {post : Int32 → Prop} (hp : post (nd_b (nd_in p n && (nd_in q 128 && T p.toNatClampNeg q.toNatClampNeg)))) : wpX_holds post (nI n, xr, xm, xc, xl, xT, xM, xN, xI, xP, xC, xH, xL, xD, xR, xK, xF) p q := by
  unfold wpX_holds
  dsimp only
  refine xa_net hn (nd_an hp (fun z hq => ?_))
  obtain ⟨a, ha, rfl⟩ := (nd_in_iff (by omega)).mp z
  rcases pk_ix q (n := 128) (by omega) with h | h | ⟨x, hx, rfl⟩
  · rw [nd_in_f (by omega) (Or.inl h), Bool.false_and] at hq
    exact br_t h hq
  · rw [nd_in_f (by omega) (Or.inr h), Bool.false_and] at hq
    obtain ⟨x, h1, h2, rfl⟩ := nd_big (by omega) h
    exact br_f (nI_pos h2) (br_f (nI_nlt (b := 128) h1 h2) hq)
  · rw [nd_in_nI hx (by omega), Bool.true_and, nI_clamp (by omega), nI_clamp (by omega)] at hq
    exact br_f (nI_pos (by omega)) (br_t (nI_lt (b := 128) hx (by omega)) (xa_T hT hn ha hx ⟨nd_bn _, hq⟩))
theorem xh_shape {T : Nat → Nat → Bool} {n : Nat} {p q : Int32} (hT : nd_T xT T n) (hn : n ≤ 32) {post : Int32 → Prop} (hp : post (if nd_in p n && nd_in q 7 then nI (nd_sh (T p.toNatClampNeg) q.toNatClampNeg 128) else -1)) : wpX_shape post (nI n, xr, xm, xc, xl, xT, xM, xN, xI, xP, xC, xH, xL, xD, xR, xK, xF) p q := by
  unfold wpX_shape
  dsimp only
  refine xa_net hn (nd_br (fun z => ?_) (fun z => xa_var (nd_br (fun z2 => ?_) (fun z2 => ?_))))
  · rw [z, Bool.false_and, if_neg Bool.false_ne_true] at hp
    exact hp
  · rw [z2, Bool.and_false, if_neg Bool.false_ne_true] at hp
    exact hp
  · rw [z, z2, Bool.true_and, if_pos rfl] at hp
    obtain ⟨a, ha, rfl⟩ := (nd_in_iff (by omega)).mp z
    obtain ⟨v, hv, rfl⟩ := (nd_in_iff (by omega)).mp z2
    rw [nI_clamp (by omega), nI_clamp (by omega)] at hp
    exact xb_shape hT hn ha hv hp
theorem xh_same {T : Nat → Nat → Bool} {n : Nat} {p q r : Int32} (hT : nd_T xT T n) (hn : n ≤ 32) {post : Int32 → Prop} (hp : post (nd_b (nd_in p n && (nd_in q 7 && (nd_in r 7 && nd_all (fun x => T p.toNatClampNeg x == T p.toNatClampNeg (nd_sw x q.toNatClampNeg r.toNatClampNeg)) 128))))) : wpX_same post (nI n, xr, xm, xc, xl, xT, xM, xN, xI, xP, xC, xH, xL, xD, xR, xK, xF) p q r := by
  unfold wpX_same
  dsimp only
  refine xa_net hn (nd_an hp (fun z hp => xa_var (nd_an hp (fun z2 hp => xa_var (nd_an hp (fun z3 hp => ?_))))))
  obtain ⟨a, ha, rfl⟩ := (nd_in_iff (by omega)).mp z
  obtain ⟨v, hv, rfl⟩ := (nd_in_iff (by omega)).mp z2
  obtain ⟨w, hw, rfl⟩ := (nd_in_iff (by omega)).mp z3
  rw [nI_clamp (by omega), nI_clamp (by omega), nI_clamp (by omega)] at hp
  exact xb_same hT hn ha hv hw hp
theorem xh_ask {T : Nat → Nat → Bool} {n : Nat} {p q : Int32} (hT : nd_T xT T n) (hn : n ≤ 32) {post : Int32 → SX → Prop}
    (h : ∀ (c : Int32) (i pr co : Nat → Int32), post (if nd_in p n && nd_in q 6 then nd_ak (T p.toNatClampNeg) q.toNatClampNeg else -1) (nI n, xr, xm, c, xl, xT, xM, xN, i, pr, co, xH, xL, xD, xR, xK, xF)) : wpX_ask post (nI n, xr, xm, xc, xl, xT, xM, xN, xI, xP, xC, xH, xL, xD, xR, xK, xF) p q := by
  unfold wpX_ask
  dsimp only
  refine xa_net hn (nd_br (fun z => ?_) (fun z => ?_))
  · rw [z, Bool.false_and, if_neg Bool.false_ne_true] at h
    exact h xc xI xP xC
  · rw [z, Bool.true_and] at h
    obtain ⟨a, ha, rfl⟩ := (nd_in_iff (by omega)).mp z
    rcases pk_ix q (n := 6) (by omega) with y | y | ⟨j, hj, rfl⟩
    · rw [nd_in_f (by omega) (Or.inl y), if_neg Bool.false_ne_true] at h
      exact br_t y (h xc xI xP xC)
    · rw [nd_in_f (by omega) (Or.inr y), if_neg Bool.false_ne_true] at h
      obtain ⟨x, h1, h2, rfl⟩ := nd_big (by omega) y
      exact br_f (nI_pos h2) (br_t (nI_lt (a := 5) (by omega) h2) (h xc xI xP xC))
    · rw [nd_in_nI hj (by omega), if_pos rfl, nI_clamp (by omega), nI_clamp (by omega)] at h
      rcases nd_6 hj with rfl | rfl | rfl | rfl | rfl | rfl
      · rw [nd_ak_0] at h
        exact br_f (by decide) (br_f (by decide) (br_t (by decide) (xb_cnt hT hn ha (h xc xI xP xC))))
      · rw [nd_ak_1] at h
        exact br_f (by decide) (br_f (by decide) (br_f (by decide) (br_t (by decide) (xb_least hT hn ha (h xc xI xP xC)))))
      · rw [nd_ak_2] at h
        exact br_f (by decide) (br_f (by decide) (br_f (by decide) (br_f (by decide) (br_t (by decide) (xb_sup hT hn ha (h xc xI xP xC))))))
      · rw [nd_ak_3] at h
        exact br_f (by decide) (br_f (by decide) (br_f (by decide) (br_f (by decide) (br_f (by decide) (br_t (by decide) (xb_dc hT hn ha (h xc xI xP xC)))))))
      · rw [nd_ak_4] at h
        exact br_f (by decide) (br_f (by decide) (br_f (by decide) (br_f (by decide) (br_f (by decide) (br_f (by decide) (br_t (by decide) (xd_find hT hn ha (fun i p _ => h _ i p xC))))))))
      · rw [nd_ak_5] at h
        exact br_f (by decide) (br_f (by decide) (br_f (by decide) (br_f (by decide) (br_f (by decide) (br_f (by decide) (br_f (by decide) (br_t (by decide) (xd_find hT hn ha (fun i p hp => xd_ess hp (fun c => h _ i p c))))))))))
theorem xh_prime {T : Nat → Nat → Bool} {n : Nat} {p q : Int32} (hT : nd_T xT T n) (hn : n ≤ 32) {post : Int32 → SX → Prop}
    (h : ∀ (c : Int32) (i pr : Nat → Int32), post (if nd_in p n && decide (¬ q < 0) then nd_kp (nd_q (T p.toNatClampNeg)) q.toNatClampNeg else -1) (nI n, xr, xm, c, xl, xT, xM, xN, i, pr, xC, xH, xL, xD, xR, xK, xF)) : wpX_prime post (nI n, xr, xm, xc, xl, xT, xM, xN, xI, xP, xC, xH, xL, xD, xR, xK, xF) p q := by
  unfold wpX_prime
  dsimp only
  refine xa_net hn (nd_br (fun z => ?_) (fun z => ?_))
  · rw [z, Bool.false_and, if_neg Bool.false_ne_true] at h
    exact h xc xI xP
  · rw [z, Bool.true_and] at h
    obtain ⟨a, ha, rfl⟩ := (nd_in_iff (by omega)).mp z
    rw [nI_clamp (by omega)] at h
    refine xd_find hT hn ha (fun i pr hP => ?_)
    have hle := nd_cnt_le (nd_q (T a)) 2187
    by_cases y : q < 0
    · rw [decide_eq_false (fun w => w y), if_neg Bool.false_ne_true] at h
      exact br_t y (h _ i pr)
    · rw [decide_eq_true y, if_pos rfl] at h
      obtain ⟨k, hk, rfl⟩ := nI_of y
      rw [nI_clamp hk] at h
      refine br_f y (pk_lt k (nd_cnt (nd_q (T a)) 2187) (fun w => ?_) (fun w => ?_))
      · obtain ⟨c, c1, c2, c3, c4⟩ := nd_P_kth hP w
        refine ⟨vp_in_nI (by omega) (by omega), ?_⟩
        show post (pr (nI k).toNatClampNeg) (nI n, xr, xm, nI (nd_cnt (nd_q (T a)) 2187), xl, xT, xM, xN, i, pr, xC, xH, xL, xD, xR, xK, xF)
        rw [nI_clamp hk, c4]
        rw [← c3, nd_kp_t c1 c2] at h
        exact h _ i pr
      · rw [nd_kp_f w] at h
        exact h _ i pr
theorem xh_reach {T N : Nat → Nat → Bool} {n s0 : Nat} {p : Int32} (hT : nd_T xT T n) (hN : nd_T xN N 4) (hn : n ≤ 32) (h0 : s0 < 16) {post : Int32 → SX → Prop}
    (h1 : ∀ w v : Nat → Int32, (nd_in p n = false ∨ ∃ a, a < n ∧ p = nI a ∧ nd_fst (fun k => nd_L (nd_nx N) (nd_so (T a)) k s0) 16 = 16) → post (-1) (nI n, nI s0, xm, xc, xl, xT, xM, xN, xI, xP, xC, w, v, xD, xR, xK, xF))
    (h2 : ∀ a k, a < n → p = nI a → k < 16 → nd_fst (fun k => nd_L (nd_nx N) (nd_so (T a)) k s0) 16 = k → ∀ w v t : Nat → Int32, (∀ j, j < k + 1 → t j = nI (nd_row (nd_nx N) (T a) s0 k j)) → post (nI k) (nI n, nI s0, xm, xc, nI (k + 1), xT, xM, xN, xI, xP, xC, w, v, xD, t, xK, xF)) : wpX_reach post (nI n, nI s0, xm, xc, xl, xT, xM, xN, xI, xP, xC, xH, xL, xD, xR, xK, xF) p := by
  unfold wpX_reach
  dsimp only
  refine xa_net hn (nd_br (fun z => h1 xH xL (Or.inl z)) (fun z => ?_))
  obtain ⟨a, ha, rfl⟩ := (nd_in_iff (by omega)).mp z
  refine xe_heirs hN (fun w hH => xe_layers hT hn ha (nd_nxF N) hH (fun v hA => ?_))
  refine loop_0 (fun m k (_ : Unit) => wX_reach_21 post (nI a) (nI n) (nI s0) xm xc xl xT xM xN xI xP xC w v xD xR xK xF m (nI k)) (fun i _ => ∀ k, k < i → nd_L (nd_nx N) (nd_so (T a)) k s0 = false) 16 () (fun u hu => absurd hu (by omega)) ?_ ?_
  · intro m _ y
    exact br_t nd_16 (h1 w v (Or.inr ⟨a, ha, rfl, nd_fst_eq (Nat.le_refl _) y (fun u => absurd u (Nat.lt_irrefl _))⟩))
  · intro m k _ hk y ih
    have hm := nd_m16 (nd_L (nd_nx N) (nd_so (T a)) k)
    refine br_f (nd_n16 hk) ⟨vp_in_nI hk (by omega), ?_⟩
    rw [nI_clamp (show k < 2 ^ 31 by omega), hA k hk]
    refine xa_bit (by omega) (by omega) ?_
    rw [nd_m_in h0]
    refine nd_br (fun u => nm_r (nI_1 k) (ih () (nd_lts y u))) (fun u => ?_)
    exact xe_keep hT hN hn ha h0 hk u hA (fun t ht => h2 a k ha rfl hk (nd_fst_eq (by omega) y (fun _ => u)) w v t ht)
theorem xh_check {T N : Nat → Nat → Bool} {n : Nat} {p q r : Int32} (hT : nd_T xT T n) (hN : nd_T xN N 4) (hn : n ≤ 32) {post : Int32 → SX → Prop}
    (h : ∀ w : Nat → Int32, post (if nd_in p 8 && (nd_in q n && (decide (p.toNatClampNeg < 6) || nd_in r n)) then nI (nd_ck (nd_nx N) p.toNatClampNeg (nd_so (T q.toNatClampNeg)) (nd_so (T r.toNatClampNeg))) else -1) (nI n, xr, xm, xc, xl, xT, xM, xN, xI, xP, xC, w, xL, xD, xR, xK, xF)) : wpX_check post (nI n, xr, xm, xc, xl, xT, xM, xN, xI, xP, xC, xH, xL, xD, xR, xK, xF) p q r := by
  rcases pk_ix p (n := 8) (by omega) with y | y | ⟨j, hj, rfl⟩
  · rw [nd_in_f (by omega) (Or.inl y), Bool.false_and, if_neg Bool.false_ne_true] at h
    exact br_t y (h xH)
  · rw [nd_in_f (by omega) (Or.inr y), Bool.false_and, if_neg Bool.false_ne_true] at h
    obtain ⟨x, h1, h2, rfl⟩ := nd_big (by omega) y
    exact br_f (nI_pos h2) (br_t (nI_lt (a := 7) (by omega) h2) (h xH))
  · rw [nd_in_nI hj (by omega), Bool.true_and, nI_clamp (show j < 2 ^ 31 by omega)] at h
    refine br_f (nI_pos (by omega)) (br_f (nI_nlt (a := 7) (b := j) (by omega) (by omega)) ?_)
    refine xa_net hn (nd_br (fun z => ?_) (fun z => ?_))
    · rw [z, Bool.false_and, if_neg Bool.false_ne_true] at h
      exact h xH
    · rw [z, Bool.true_and] at h
      obtain ⟨a, ha, rfl⟩ := (nd_in_iff (by omega)).mp z
      rw [nI_clamp (show a < 2 ^ 31 by omega)] at h
      have c36 : (6 ≤ j → r.toNatClampNeg < n ∧ r = nI r.toNatClampNeg) → (decide (j < 6) || nd_in r n) = true → wX_check_36 post (nI j) (nI a) r (nI n) xr xm xc xl xT xM xN xI xP xC xH xL xD xR xK xF := by
        intro hb hc
        rw [hc, if_pos rfl] at h
        unfold wX_check_36
        refine xe_heirs hN (fun w hH => ⟨by decide, ?_⟩)
        have e : nI j - nI j / 2 * 2 = nI (j % 2) := pk_rem (d := 2) (by omega) (by omega) (by omega)
        rw [e]
        have key := xf_check (xm := xm) (xr := xr) (xc := xc) (xl := xl) (xn := nI n) (xM := xM) (xN := xN) (xI := xI) (xP := xP) (xC := xC) (xL := xL) (xD := xD) (xR := xR) (xK := xK) (xF := xF) (b := r.toNatClampNeg) (p3 := r) hT hn ha hj hb (nd_nxF N) hH (h w)
        refine pk_eq (j % 2) 1 (fun y => ?_) (fun y => ?_)
        · rw [decide_eq_true y] at key
          exact key
        · rw [decide_eq_false y] at key
          exact key
      refine pk_lt j 6 (fun y => c36 (fun w => by omega) (by rw [decide_eq_true y, Bool.true_or])) (fun y => ?_)
      refine xa_net hn (nd_br (fun z2 => ?_) (fun z2 => c36 (fun _ => ?_) (by rw [z2, Bool.or_true])))
      · rw [z2, decide_eq_false (show ¬ j < 6 by omega), Bool.false_or, if_neg Bool.false_ne_true] at h
        exact h xH
      · obtain ⟨b, hb, rfl⟩ := (nd_in_iff (by omega)).mp z2
        rw [nI_clamp (by omega)]
        exact ⟨hb, rfl⟩
theorem xh_states {N : Nat → Nat → Bool} {s0 : Nat} {p : Int32} (hN : nd_T xN N 4) (h0 : s0 < 16) {post : Int32 → SX → Prop}
    (h : ∀ (w t : Nat → Int32) (e : Nat → Nat), nd_D (nd_nx N) s0 e → post (if nd_in p 3 then nI (nd_sv e p.toNatClampNeg) else -1) (xn, nI s0, xm, xc, xl, xT, xM, xN, xI, xP, xC, w, xL, t, xR, xK, xF)) : wpX_states post (xn, nI s0, xm, xc, xl, xT, xM, xN, xI, xP, xC, xH, xL, xD, xR, xK, xF) p := by
  unfold wpX_states
  dsimp only
  exact xf_dist h0 hN (fun w t e h1 h2 => xf_states h2 (h w t e h1))
theorem xh_alike {T N : Nat → Nat → Bool} {n : Nat} {p q : Int32} (hT : nd_T xT T n) (hN : nd_T xN N 4) (hn : n ≤ 32) {post : Int32 → SX → Prop}
    (h1 : ∀ t w : Nat → Int32, nd_in p n = false ∨ (¬ q = -1 ∧ nd_in q 16 = false) → post (-1) (nI n, xr, xm, xc, xl, xT, xM, xN, xI, xP, xC, xH, xL, xD, xR, t, w))
    (h2 : ∀ a s, a < n → s < 16 → p = nI a → q = nI s → ∀ t w : Nat → Int32, post (nI (nd_lk (nd_nx N) (fun s i => T a (s * 8 + i)) 16 s)) (nI n, xr, xm, xc, xl, xT, xM, xN, xI, xP, xC, xH, xL, xD, xR, t, w))
    (h3 : ∀ a, a < n → p = nI a → q = -1 → ∀ t w : Nat → Int32, post (nI (nd_cnt (fun s => nd_lk (nd_nx N) (fun s i => T a (s * 8 + i)) 16 s == s) 16)) (nI n, xr, xm, xc, xl, xT, xM, xN, xI, xP, xC, xH, xL, xD, xR, t, w)) : wpX_alike post (nI n, xr, xm, xc, xl, xT, xM, xN, xI, xP, xC, xH, xL, xD, xR, xK, xF) p q := by
  unfold wpX_alike
  dsimp only
  refine xa_net hn (nd_br (fun z => h1 xK xF (Or.inl z)) (fun z => ?_))
  obtain ⟨a, ha, rfl⟩ := (nd_in_iff (by omega)).mp z
  refine br_c (fun y => ?_) (fun y => xa_sta (nd_br (fun z2 => h1 xK xF (Or.inr ⟨y, z2⟩)) (fun z2 => ?_)))
  · unfold wX_alike_24
    refine xf_looks hT hN hn ha (fun t w ht => br_t y ?_)
    exact xf_cnt (fun s _ => nd_lk_le 16 s) ht (h3 a ha rfl y t w)
  · obtain ⟨s, hs, rfl⟩ := (nd_in_iff (by omega)).mp z2
    unfold wX_alike_24
    refine xf_looks hT hN hn ha (fun t w ht => br_f y ⟨vp_in_nI hs (by omega), ?_⟩)
    rw [nI_clamp (show s < 2 ^ 31 by omega), ht s hs]
    exact h2 a s ha hs rfl rfl t w
end NDX
section NDY
variable {yn ys yt ye : Int32} {yl yh : Nat → Int64} {yI yP yC yF yA yQ yR : Nat → Int32}
theorem yh_holds {T : Nat → Nat → Bool} {n : Nat} {p q : Int32} (hY : nd_Y yl yh T) (hn : n ≤ 32) {post : Int32 → Prop} (hp : post (nd_b (nd_in p n && (nd_in q 128 && T p.toNatClampNeg q.toNatClampNeg)))) : wpY_holds post (nI n, ys, yt, ye, yl, yh, yI, yP, yC, yF, yA, yQ, yR) p q := by
  unfold wpY_holds
  dsimp only
  refine ya_net hn (nd_an hp (fun z hp => ya_amo 128 rfl (by omega) (nd_an hp (fun z2 hp => ?_))))
  obtain ⟨a, ha, rfl⟩ := (nd_in_iff (by omega)).mp z
  obtain ⟨x, hx, rfl⟩ := (nd_in_iff (by omega)).mp z2
  rw [nI_clamp (by omega), nI_clamp (by omega)] at hp
  exact ya_bit hY (by omega) hx (nd_b01 hp)
theorem yh_shape {T : Nat → Nat → Bool} {n : Nat} {p q : Int32} (hY : nd_Y yl yh T) (hn : n ≤ 32) {post : Int32 → Prop} (hp : post (if nd_in p n && nd_in q 7 then nI (nd_sh (T p.toNatClampNeg) q.toNatClampNeg 128) else -1)) : wpY_shape post (nI n, ys, yt, ye, yl, yh, yI, yP, yC, yF, yA, yQ, yR) p q := by
  unfold wpY_shape
  dsimp only
  refine ya_net hn (nd_br (fun z => ?_) (fun z => ya_amo 7 rfl (by omega) (nd_br (fun z2 => ?_) (fun z2 => ?_))))
  · rw [z, Bool.false_and, if_neg Bool.false_ne_true] at hp
    exact hp
  · rw [z2, Bool.and_false, if_neg Bool.false_ne_true] at hp
    exact hp
  · rw [z, z2, Bool.true_and, if_pos rfl] at hp
    obtain ⟨a, ha, rfl⟩ := (nd_in_iff (by omega)).mp z
    obtain ⟨v, hv, rfl⟩ := (nd_in_iff (by omega)).mp z2
    rw [nI_clamp (by omega), nI_clamp (by omega)] at hp
    exact ye_shape hY (by omega) hv hp
theorem yh_same {T : Nat → Nat → Bool} {n : Nat} {p q r : Int32} (hY : nd_Y yl yh T) (hn : n ≤ 32) {post : Int32 → Prop} (hp : post (nd_b (nd_in p n && (nd_in q 7 && (nd_in r 7 && nd_all (fun x => T p.toNatClampNeg x == T p.toNatClampNeg (nd_sw x q.toNatClampNeg r.toNatClampNeg)) 128))))) : wpY_same post (nI n, ys, yt, ye, yl, yh, yI, yP, yC, yF, yA, yQ, yR) p q r := by
  unfold wpY_same
  dsimp only
  refine ya_net hn (nd_an hp (fun z hp => ya_amo 7 rfl (by omega) (nd_an hp (fun z2 hp => ya_amo 7 rfl (by omega) (nd_an hp (fun z3 hp => ?_))))))
  obtain ⟨a, ha, rfl⟩ := (nd_in_iff (by omega)).mp z
  obtain ⟨v, hv, rfl⟩ := (nd_in_iff (by omega)).mp z2
  obtain ⟨w, hw, rfl⟩ := (nd_in_iff (by omega)).mp z3
  rw [nI_clamp (by omega), nI_clamp (by omega), nI_clamp (by omega)] at hp
  exact ye_same hY (by omega) hv hw hp
theorem yh_ask {T : Nat → Nat → Bool} {n : Nat} {p q : Int32} (hY : nd_Y yl yh T) (hn : n ≤ 32) {post : Int32 → SY → Prop}
    (h : ∀ i pr co : Nat → Int32, post (if nd_in p n && nd_in q 6 then nd_ak (T p.toNatClampNeg) q.toNatClampNeg else -1) (nI n, ys, yt, ye, yl, yh, i, pr, co, yF, yA, yQ, yR)) : wpY_ask post (nI n, ys, yt, ye, yl, yh, yI, yP, yC, yF, yA, yQ, yR) p q := by
  refine ye_ask hY hn (fun i pr co => ⟨fun a j ha hj e1 e2 => ?_, fun z => ?_⟩)
  · have h := h i pr co
    subst e1 e2
    rw [nd_in_nI ha (by omega), nd_in_nI hj (by omega), Bool.true_and, if_pos rfl, nI_clamp (by omega), nI_clamp (by omega)] at h
    exact h
  · have h := h i pr co
    rw [z, if_neg Bool.false_ne_true] at h
    exact h
theorem yh_prime {T : Nat → Nat → Bool} {n : Nat} {p q : Int32} (hY : nd_Y yl yh T) (hn : n ≤ 32) {post : Int32 → SY → Prop}
    (h : ∀ i pr : Nat → Int32, post (if nd_in p n && decide (¬ q < 0) then nd_kp (nd_q (T p.toNatClampNeg)) q.toNatClampNeg else -1) (nI n, ys, yt, ye, yl, yh, i, pr, yC, yF, yA, yQ, yR)) : wpY_prime post (nI n, ys, yt, ye, yl, yh, yI, yP, yC, yF, yA, yQ, yR) p q := by
  unfold wpY_prime
  dsimp only
  refine ya_net hn (nd_br (fun z => ?_) (fun z => ?_))
  · rw [z, Bool.false_and, if_neg Bool.false_ne_true] at h
    exact h yI yP
  · rw [z, Bool.true_and] at h
    obtain ⟨a, ha, rfl⟩ := (nd_in_iff (by omega)).mp z
    rw [nI_clamp (by omega)] at h
    by_cases y : q < 0
    · rw [decide_eq_false (fun w => w y), if_neg Bool.false_ne_true] at h
      exact br_f (Int32.not_le.mpr y) (h yI yP)
    · rw [decide_eq_true y, if_pos rfl] at h
      obtain ⟨k, hk, rfl⟩ := nI_of y
      rw [nI_clamp hk] at h
      exact br_t (nI_pos' hk) (yd_cubes hY (by omega) (fun i pr hP => ye_prime hk hP (h i pr)))
theorem yh_reach {T : Nat → Nat → Bool} {n s0 : Nat} {p : Int32} (hY : nd_Y yl yh T) (hn : n ≤ 32) (h0 : s0 < 16) {post : Int32 → SY → Prop}
    (h1 : ∀ w : Nat → Int32, (nd_in p n = false ∨ ∃ a, a < n ∧ p = nI a ∧ nd_fst (fun k => nd_L (nd_nx (fun k => T (32 + k))) (nd_so (T a)) k s0) 16 = 16) → post (-1) (nI n, nI s0, yt, ye, yl, yh, yI, yP, yC, w, yA, yQ, yR))
    (h2 : ∀ a k, a < n → p = nI a → k < 16 → nd_fst (fun k => nd_L (nd_nx (fun k => T (32 + k))) (nd_so (T a)) k s0) 16 = k → ∀ w c t : Nat → Int32, (∀ j, j < k + 1 → t j = nI (nd_row (nd_nx (fun k => T (32 + k))) (T a) s0 k j)) → post (nI k) (nI n, nI s0, yt, nI k, yl, yh, yI, yP, yC, w, c, yQ, t)) : wpY_reach post (nI n, nI s0, yt, ye, yl, yh, yI, yP, yC, yF, yA, yQ, yR) p := by
  unfold wpY_reach
  dsimp only
  refine ya_net hn (nd_br (fun z => h1 yF (Or.inl z)) (fun z => ?_))
  obtain ⟨a, ha, rfl⟩ := (nd_in_iff (by omega)).mp z
  refine yf_walk h0 hY (fun w e hD hF => yf_set hY (by omega) ?_)
  exact yf_reach hY (by omega) h0 hD hF (fun y => h1 w (Or.inr ⟨a, ha, rfl, y⟩)) (fun k hk y c t ht => h2 a k ha rfl hk y w c t ht)
theorem yh_check {T : Nat → Nat → Bool} {n : Nat} {p q r : Int32} (hY : nd_Y yl yh T) (hn : n ≤ 32) {post : Int32 → Prop}
    (h : post (if nd_in p 8 && (nd_in q n && (decide (p.toNatClampNeg < 6) || nd_in r n)) then nI (nd_ck (nd_nx (fun k => T (32 + k))) p.toNatClampNeg (nd_so (T q.toNatClampNeg)) (nd_so (T r.toNatClampNeg))) else -1)) : wpY_check post (nI n, ys, yt, ye, yl, yh, yI, yP, yC, yF, yA, yQ, yR) p q r := by
  unfold wpY_check
  dsimp only
  refine ya_amo 8 rfl (by omega) (nd_br (fun z => ?_) (fun z => ya_net hn (nd_br (fun z2 => ?_) (fun z2 => ?_))))
  · rw [z, Bool.false_and, if_neg Bool.false_ne_true] at h
    exact h
  · rw [z2, Bool.false_and, Bool.and_false, if_neg Bool.false_ne_true] at h
    exact h
  · rw [z, z2, Bool.true_and, Bool.true_and] at h
    obtain ⟨j, hj, rfl⟩ := (nd_in_iff (by omega)).mp z
    obtain ⟨a, ha, rfl⟩ := (nd_in_iff (by omega)).mp z2
    rw [nI_clamp (show j < 2 ^ 31 by omega), nI_clamp (show a < 2 ^ 31 by omega)] at h
    refine pk_le j 5 (fun y => ?_) (fun y => ?_)
    · rw [decide_eq_true (show j < 6 by omega), Bool.true_or, if_pos rfl] at h
      exact yg_33 (b := r.toNatClampNeg) hY hj (by omega) (fun w => by omega) h
    · refine ya_net hn (nd_br (fun z3 => ?_) (fun z3 => ?_))
      · rw [z3, decide_eq_false (show ¬ j < 6 by omega), Bool.false_or, if_neg Bool.false_ne_true] at h
        exact h
      · rw [z3, Bool.or_true, if_pos rfl] at h
        obtain ⟨b, hb, rfl⟩ := (nd_in_iff (by omega)).mp z3
        rw [nI_clamp (by omega)] at h
        exact yg_33 hY hj (by omega) (fun _ => ⟨by omega, rfl⟩) h
theorem yh_states {T : Nat → Nat → Bool} {s0 : Nat} {p : Int32} (hY : nd_Y yl yh T) (h0 : s0 < 16) {post : Int32 → SY → Prop}
    (h : ∀ (w : Nat → Int32) (e : Nat → Nat), nd_in p 3 = false ∨ nd_D (nd_nx (fun k => T (32 + k))) s0 e → post (if nd_in p 3 then nI (nd_sv e p.toNatClampNeg) else -1) (yn, nI s0, yt, ye, yl, yh, yI, yP, yC, w, yA, yQ, yR)) : wpY_states post (yn, nI s0, yt, ye, yl, yh, yI, yP, yC, yF, yA, yQ, yR) p := by
  unfold wpY_states
  dsimp only
  refine ya_amo 3 rfl (by omega) (nd_br (fun z => ?_) (fun z => ?_))
  · have h := h yF (fun _ => 0) (Or.inl z)
    rw [z, if_neg Bool.false_ne_true] at h
    exact h
  · refine yf_walk h0 hY (fun w e hD hF => ?_)
    have h := h w e (Or.inr hD)
    rw [z, if_pos rfl] at h
    obtain ⟨j, hj, rfl⟩ := (nd_in_iff (by omega)).mp z
    rw [nI_clamp (by omega)] at h
    exact yf_states hj hF (fun s hs => (hD s hs).2) h
theorem yh_alike {T : Nat → Nat → Bool} {n : Nat} {p q : Int32} (hY : nd_Y yl yh T) (hn : n ≤ 32) {post : Int32 → SY → Prop}
    (h1 : ∀ t : Nat → Int32, nd_in p n = false ∨ (¬ q = -1 ∧ nd_in q 16 = false) → post (-1) (nI n, ys, yt, ye, yl, yh, yI, yP, yC, yF, yA, t, yR))
    (h2 : ∀ a s, a < n → s < 16 → p = nI a → q = nI s → ∀ t : Nat → Int32, post (nI (nd_lk (nd_nx (fun k => T (32 + k))) (fun s i => T a (s * 8 + i)) 16 s)) (nI n, ys, yt, ye, yl, yh, yI, yP, yC, yF, yA, t, yR))
    (h3 : ∀ a, a < n → p = nI a → q = -1 → ∀ t : Nat → Int32, post (nI (nd_cnt (fun s => nd_lk (nd_nx (fun k => T (32 + k))) (fun s i => T a (s * 8 + i)) 16 s == s) 16)) (nI n, ys, yt, ye, yl, yh, yI, yP, yC, yF, yA, t, yR)) : wpY_alike post (nI n, ys, yt, ye, yl, yh, yI, yP, yC, yF, yA, yQ, yR) p q := by
  unfold wpY_alike
  dsimp only
  refine ya_net hn (nd_br (fun z => h1 yQ (Or.inl z)) (fun z => ?_))
  obtain ⟨a, ha, rfl⟩ := (nd_in_iff (by omega)).mp z
  have go : (q = -1 ∨ ∃ s, s < 16 ∧ q = nI s) → ∃ m, wY_alike_23 post (nI a) q (nI n) ys yt ye m 0 yl yh yI yP yC yF yA yQ yR := by
    intro hq
    refine yg_init (f := nd_nx (fun k => T (32 + k))) hY (by omega) (fun t ht => ?_)
    refine yg_rounds hY ht (nd_A_0 (fun _ _ => rfl)) (fun t' ht' => yg_fin ht' (fun s hs e => h2 a s ha hs rfl e t') (fun y => h3 a ha rfl ?_ t'))
    rcases hq with hq | ⟨s, hs, e⟩
    · exact hq
    · exact absurd e (y s hs)
  rcases nd_m1c q with y | y | ⟨j, hj, rfl⟩
  · refine br_t y (h1 yQ (Or.inr ⟨?_, nd_in_f (by omega) (Or.inl (nd_lt_m1 y))⟩))
    intro e
    rw [e] at y
    exact absurd y Int32.lt_irrefl
  · rw [y] at go ⊢
    exact br_f Int32.lt_irrefl (br_t (by decide) (go (Or.inl rfl)))
  · refine br_f (nd_nm1 hj) (pk_le j 15 (fun w => go (Or.inr ⟨j, by omega, rfl⟩)) (fun w => h1 yQ (Or.inr ⟨nd_m1 hj, nd_in_f (by omega) (Or.inr (nI_le (by omega) hj))⟩)))
end NDY
end
section
/-! gate and next, each side -/
theorem nd_in_c {p : Int32} {n : Nat} (hn : n < 2 ^ 31) (h : nd_in p n = true) : p.toNatClampNeg < n ∧ p = nI p.toNatClampNeg := by
  obtain ⟨j, hj, rfl⟩ := (nd_in_iff hn).mp h
  rw [nI_clamp (by omega)]
  exact ⟨hj, rfl⟩
theorem nd_lg_f {n j : Nat} {p1 p2 p3 : Int32} (hn : n ≤ 32) (hj : j < 10) (h : nd_lg n j p1 p2 p3 = true) :
    (p1.toNatClampNeg < n ∧ p1 = nI p1.toNatClampNeg) ∧ (1 ≤ j → j < 6 → p2.toNatClampNeg < n ∧ p2 = nI p2.toNatClampNeg) ∧ (6 ≤ j → p2.toNatClampNeg < 7 ∧ p2 = nI p2.toNatClampNeg) ∧ (j = 4 ∨ j = 5 ∨ j = 8 → p3.toNatClampNeg < n ∧ p3 = nI p3.toNatClampNeg) ∧ (j = 9 → p3.toNatClampNeg < 2 ∧ p3 = nI p3.toNatClampNeg) := by
  have hn' : n < 2 ^ 31 := by omega
  have two : (decide (p3 = 0) || decide (p3 = 1)) = true → p3.toNatClampNeg < 2 ∧ p3 = nI p3.toNatClampNeg := by
    intro z
    rw [Bool.or_eq_true] at z
    rcases z with z | z
    · rw [of_decide_eq_true z]; exact ⟨by decide, by decide⟩
    · rw [of_decide_eq_true z]; exact ⟨by decide, by decide⟩
  rcases nd_10 hj with rfl | rfl | rfl | rfl | rfl | rfl | rfl | rfl | rfl | rfl
  · have h : nd_in p1 n = true := h
    exact ⟨nd_in_c hn' h, fun y => by omega, fun y => by omega, fun y => by omega, fun y => by omega⟩
  · have h : (nd_in p1 n && nd_in p2 n) = true := h
    rw [Bool.and_eq_true] at h
    exact ⟨nd_in_c hn' h.1, fun _ _ => nd_in_c hn' h.2, fun y => by omega, fun y => by omega, fun y => by omega⟩
  · have h : (nd_in p1 n && nd_in p2 n) = true := h
    rw [Bool.and_eq_true] at h
    exact ⟨nd_in_c hn' h.1, fun _ _ => nd_in_c hn' h.2, fun y => by omega, fun y => by omega, fun y => by omega⟩
  · have h : (nd_in p1 n && nd_in p2 n) = true := h
    rw [Bool.and_eq_true] at h
    exact ⟨nd_in_c hn' h.1, fun _ _ => nd_in_c hn' h.2, fun y => by omega, fun y => by omega, fun y => by omega⟩
  · have h : (nd_in p1 n && (nd_in p2 n && nd_in p3 n)) = true := h
    rw [Bool.and_eq_true, Bool.and_eq_true] at h
    exact ⟨nd_in_c hn' h.1, fun _ _ => nd_in_c hn' h.2.1, fun y => by omega, fun _ => nd_in_c hn' h.2.2, fun y => by omega⟩
  · have h : (nd_in p1 n && (nd_in p2 n && nd_in p3 n)) = true := h
    rw [Bool.and_eq_true, Bool.and_eq_true] at h
    exact ⟨nd_in_c hn' h.1, fun _ _ => nd_in_c hn' h.2.1, fun y => by omega, fun _ => nd_in_c hn' h.2.2, fun y => by omega⟩
  · have h : (nd_in p1 n && nd_in p2 7) = true := h
    rw [Bool.and_eq_true] at h
    exact ⟨nd_in_c hn' h.1, fun y z => by omega, fun _ => nd_in_c (by omega) h.2, fun y => by omega, fun y => by omega⟩
  · have h : (nd_in p1 n && nd_in p2 7) = true := h
    rw [Bool.and_eq_true] at h
    exact ⟨nd_in_c hn' h.1, fun y z => by omega, fun _ => nd_in_c (by omega) h.2, fun y => by omega, fun y => by omega⟩
  · have h : (nd_in p1 n && (nd_in p2 7 && nd_in p3 n)) = true := h
    rw [Bool.and_eq_true, Bool.and_eq_true] at h
    exact ⟨nd_in_c hn' h.1, fun y z => by omega, fun _ => nd_in_c (by omega) h.2.1, fun _ => nd_in_c hn' h.2.2, fun y => by omega⟩
  · have h : (nd_in p1 n && (nd_in p2 7 && (decide (p3 = 0) || decide (p3 = 1)))) = true := h
    rw [Bool.and_eq_true, Bool.and_eq_true] at h
    exact ⟨nd_in_c hn' h.1, fun y z => by omega, fun _ => nd_in_c (by omega) h.2.1, fun y => by omega, fun _ => two h.2.2⟩
/-- whether the gate can be made; its function -/
def nd_ok (n : Nat) (p0 p1 p2 p3 : Int32) : Bool := nd_in p0 10 && nd_lg n p0.toNatClampNeg p1 p2 p3
def nd_M (T : Nat → Nat → Bool) (p0 p1 p2 p3 : Int32) (x : Nat) : Bool := nd_gt T p0.toNatClampNeg p1.toNatClampNeg p2.toNatClampNeg p3.toNatClampNeg x
section NDX
variable {xn xr xm xc xl : Int32} {xT xM xN xI xP xC xH xL xD xR xK xF : Nat → Int32}
theorem xh_gate {T : Nat → Nat → Bool} {n : Nat} {p0 p1 p2 p3 : Int32} (hT : nd_T xT T n) (hn : n ≤ 32) {post : Int32 → SX → Prop}
    (h0 : nd_ok n p0 p1 p2 p3 = false → post (-1) (nI n, xr, xm, xc, xl, xT, xM, xN, xI, xP, xC, xH, xL, xD, xR, xK, xF))
    (h1 : nd_ok n p0 p1 p2 p3 = true → ∀ g, nd_fn T (nd_M T p0 p1 p2 p3) n < n → post (nI (nd_fn T (nd_M T p0 p1 p2 p3) n)) (nI n, xr, xm, xc, xl, xT, g, xN, xI, xP, xC, xH, xL, xD, xR, xK, xF))
    (h2 : nd_ok n p0 p1 p2 p3 = true → ∀ g, nd_fn T (nd_M T p0 p1 p2 p3) n = n → n = 32 → post (-1) (nI n, xr, xm, xc, xl, xT, g, xN, xI, xP, xC, xH, xL, xD, xR, xK, xF))
    (h3 : nd_ok n p0 p1 p2 p3 = true → ∀ g, nd_fn T (nd_M T p0 p1 p2 p3) n = n → n < 32 → ∀ t : Nat → Int32, (∀ x, x < 128 → t (n * 128 + x) = nd_b (nd_M T p0 p1 p2 p3 x)) → (∀ j, j < n * 128 → t j = xT j) → post (nI n) (nI (n + 1), xr, xm, xc, xl, t, g, xN, xI, xP, xC, xH, xL, xD, xR, xK, xF)) : wpX_gate post (nI n, xr, xm, xc, xl, xT, xM, xN, xI, xP, xC, xH, xL, xD, xR, xK, xF) p0 p1 p2 p3 := by
  unfold wpX_gate
  dsimp only
  refine xc_fits hn ?_
  cases z : (nd_in p0 10 && nd_lg n p0.toNatClampNeg p1 p2 p3)
  · exact br_t rfl (h0 z)
  · refine br_f (by decide) ?_
    have y := Bool.and_eq_true_iff.mp z
    obtain ⟨hj, ej⟩ := nd_in_c (by omega) y.1
    obtain ⟨⟨a1, a2⟩, b1, b2, c1, c2⟩ := nd_lg_f hn hj y.2
    have key : ∃ m, wX_gate_17 post (nI p0.toNatClampNeg) p1 p2 p3 (nI n) xr xm xc xl m 0 xT xM xN xI xP xC xH xL xD xR xK xF := by
      refine xc_gate (M := nd_M T p0 p1 p2 p3) hT hn hj (fun g x post hx hp => ⟨fun h6 => ?_, fun h6 => ?_⟩) (h1 z) (h2 z) (h3 z)
      · rw [a2, (b2 h6).2]
        refine xc_moved hT hn h6 hj a1 (b2 h6).1 (c := p3.toNatClampNeg) (fun h8 => ⟨?_, fun e => (c1 (by omega)).1, fun e => (c2 e).1⟩) hx hp
        by_cases e : p0.toNatClampNeg = 8
        · exact (c1 (by omega)).2
        · exact (c2 (by omega)).2
      · rw [a2]
        exact xc_joined hT hn h6 a1 (fun w => b1 w h6) (fun w => c1 (by omega)) hx hp
    rw [← ej] at key
    exact key
theorem xh_cp {T : Nat → Nat → Bool} {n a j : Nat} (hT : nd_T xT T n) (hn : n ≤ 32) (ha : a < n) (h3 : 3 ≤ j) (h7 : j < 7) {post : Int32 → SX → Prop}
    (h : ∀ t : Nat → Int32, (∀ x, x < 128 → t ((j - 3) * 128 + x) = nd_b (T a x)) → (∀ i, i < (j - 3) * 128 ∨ (j - 3) * 128 + 128 ≤ i → t i = xN i) → post 1 (xn, xr, xm, xc, xl, xT, xM, t, xI, xP, xC, xH, xL, xD, xR, xK, xF)) : wX_next_38 post (nI j) (nI a) xn xr xm xc xl xT xM xN xI xP xC xH xL xD xR xK xF := by
  unfold wX_next_38
  rw [show nI j - 3 = nI (j - 3) from pk_sub (b := 3) h3]
  exact xa_cpy hT hn ha (by omega) (fun t h1 h2 => h t h1 h2)
end NDX
section NDY
variable {yn ys yt ye : Int32} {yl yh : Nat → Int64} {yI yP yC yF yA yQ yR : Nat → Int32}
theorem yh_gate {T : Nat → Nat → Bool} {n : Nat} {p0 p1 p2 p3 : Int32} (hY : nd_Y yl yh T) (hn : n ≤ 32) {post : Int32 → SY → Prop}
    (h0 : nd_ok n p0 p1 p2 p3 = false → post (-1) (nI n, ys, yt, ye, yl, yh, yI, yP, yC, yF, yA, yQ, yR))
    (h1 : nd_ok n p0 p1 p2 p3 = true → ∀ l w, nd_Y l w T → nd_fn T (nd_M T p0 p1 p2 p3) n < n → post (nI (nd_fn T (nd_M T p0 p1 p2 p3) n)) (nI n, ys, yt, ye, l, w, yI, yP, yC, yF, yA, yQ, yR))
    (h2 : nd_ok n p0 p1 p2 p3 = true → ∀ l w, nd_Y l w T → nd_fn T (nd_M T p0 p1 p2 p3) n = n → n = 32 → post (-1) (nI n, ys, yt, ye, l, w, yI, yP, yC, yF, yA, yQ, yR))
    (h3 : nd_ok n p0 p1 p2 p3 = true → ∀ l w, nd_fn T (nd_M T p0 p1 p2 p3) n = n → n < 32 → (∀ a x, a < 36 → x < 128 → nd_yb l w a x = if a = n then nd_M T p0 p1 p2 p3 x else T a x) → post (nI n) (nI (n + 1), ys, yt, ye, l, w, yI, yP, yC, yF, yA, yQ, yR)) : wpY_gate post (nI n, ys, yt, ye, yl, yh, yI, yP, yC, yF, yA, yQ, yR) p0 p1 p2 p3 := by
  unfold wpY_gate
  dsimp only
  refine yc_legal hn ?_
  cases z : (nd_in p0 10 && nd_lg n p0.toNatClampNeg p1 p2 p3)
  · exact br_t rfl (h0 z)
  · refine br_f (by decide) (nm_e (nm_e ?_))
    have y := Bool.and_eq_true_iff.mp z
    obtain ⟨hj, ej⟩ := nd_in_c (by omega) y.1
    obtain ⟨⟨a1, a2⟩, b1, b2, c1, c2⟩ := nd_lg_f hn hj y.2
    have hY' : nd_Y (vp_updL yl 36 0) (vp_updL yh 36 0) T := by
      intro a x ha hx
      rw [← hY a x ha hx]
      unfold nd_yb
      rw [pk_uLn (by omega), pk_uLn (by omega)]
    have h36 : ∀ x, x < 128 → nd_yb (vp_updL yl 36 0) (vp_updL yh 36 0) 36 x = false := by
      intro x _
      unfold nd_yb
      rw [pk_uLs, pk_uLs]
      split
      · exact BitVec.getLsbD_zero
      · exact BitVec.getLsbD_zero
    have key : ∃ m, wY_gate_33 post (nI p0.toNatClampNeg) p1 p2 p3 m 0 (nI n) ys yt ye (vp_updL yl 36 0) (vp_updL yh 36 0) yI yP yC yF yA yQ yR := by
      refine yc_gate (M := nd_M T p0 p1 p2 p3) hY' hn h36 (fun l w x post hYl hx hp => ?_) (h1 z) (h2 z) (h3 z)
      rw [a2]
      refine yc_made hYl hj (by omega) (b := p2.toNatClampNeg) (c := p3.toNatClampNeg) (fun w => ?_) (fun w => ?_) hx hp
      · by_cases e : 6 ≤ p0.toNatClampNeg
        · exact ⟨by have := (b2 e).1; omega, (b2 e).2, fun _ => (b2 e).1⟩
        · exact ⟨by have := (b1 w (by omega)).1; omega, (b1 w (by omega)).2, fun e2 => absurd e2 e⟩
      · by_cases e : p0.toNatClampNeg = 9
        · exact ⟨by have := (c2 e).1; omega, (c2 e).2, fun _ => (c2 e).1⟩
        · exact ⟨by have := (c1 (by omega)).1; omega, (c1 (by omega)).2, fun e2 => absurd e2 e⟩
    rw [← ej] at key
    exact key
theorem yh_cp {a j : Nat} (ha : a < 37) (h7 : j < 7) {post : Int32 → SY → Prop}
    (h : ∀ l w : Nat → Int64, (∀ a' x', nd_yb l w a' x' = if a' = 29 + j then nd_yb yl yh a x' else nd_yb yl yh a' x') → post 1 (yn, ys, yt, ye, l, w, yI, yP, yC, yF, yA, yQ, yR)) : wY_next_36 post (nI j) (nI a) yn ys yt ye yl yh yI yP yC yF yA yQ yR := by
  unfold wY_next_36
  rw [show (29 : Int32) + nI j = nI (29 + j) from nI_add 29 j]
  exact ya_copy ha (by omega) (fun l w hw => h l w hw)
end NDY
end
section
/-! the relation, and what is owed -/
/-- n nets with the same functions, the same NEXT functions, RESET state, state and row of inputs; all else is scratch -/
def nd_RR (n s0 st L : Nat) (xT xN xR : Nat → Int32) (yl yh : Nat → Int64) (yR : Nat → Int32) : Prop :=
  9 ≤ n ∧ n ≤ 32 ∧ s0 < 16 ∧ st < 16 ∧ L ≤ 16 ∧ nd_T xT (nd_yb yl yh) n ∧ nd_T xN (fun k => nd_yb yl yh (32 + k)) 4 ∧ ∀ k, k < L → xR k = yR k
def i_Rel (k : Nat) (u : SX) (v : SY) : Prop := 
  ∃ (n s0 st L : Nat) (xc : Int32) (xT xM xN xI xP xC xH xL xD xR xK xF : Nat → Int32) (yl yh : Nat → Int64) (yI yP yC yF yA yQ yR : Nat → Int32),
    u = (nI n, nI s0, nI st, xc, nI L, xT, xM, xN, xI, xP, xC, xH, xL, xD, xR, xK, xF) ∧ v = (nI n, nI s0, nI st, nI L - 1, yl, yh, yI, yP, yC, yF, yA, yQ, yR) ∧ nd_RR n s0 st L xT xN xR yl yh yR
section NDR
variable {xn xr xm xc xl : Int32} {xT xM xN xI xP xC xH xL xD xR xK xF : Nat → Int32}
variable {yn ys yt ye : Int32} {yl yh : Nat → Int64} {yI yP yC yF yA yQ yR : Nat → Int32}
theorem nd_mk {k n s0 st L : Nat} {e : Int32} (he : e = nI L - 1) (R : nd_RR n s0 st L xT xN xR yl yh yR) : i_Rel k (nI n, nI s0, nI st, xc, nI L, xT, xM, xN, xI, xP, xC, xH, xL, xD, xR, xK, xF) (nI n, nI s0, nI st, e, yl, yh, yI, yP, yC, yF, yA, yQ, yR) := by
  subst he
  exact ⟨n, s0, st, L, xc, xT, xM, xN, xI, xP, xC, xH, xL, xD, xR, xK, xF, yl, yh, yI, yP, yC, yF, yA, yQ, yR, rfl, rfl, R⟩
theorem nd_RY {n s0 st L : Nat} {l w : Nat → Int64} (R : nd_RR n s0 st L xT xN xR yl yh yR) (h : nd_Y l w (nd_yb yl yh)) : nd_RR n s0 st L xT xN xR l w yR := by
  obtain ⟨h9, hn, h0, hst, hL, hT, hN, hR⟩ := R
  refine ⟨h9, hn, h0, hst, hL, ?_, ?_, hR⟩
  · intro a x ha hx
    rw [h a x (by omega) hx]; exact hT a x ha hx
  · intro k x hk hx
    show _ = nd_b (nd_yb l w (32 + k) x)
    rw [h (32 + k) x (by omega) hx]; exact hN k x hk hx
theorem nd_RN {n s0 st L : Nat} {l w : Nat → Int64} {t : Nat → Int32} {M : Nat → Bool} (R : nd_RR n s0 st L xT xN xR yl yh yR) (h32 : n < 32) (h : ∀ a x, a < 36 → x < 128 → nd_yb l w a x = if a = n then M x else nd_yb yl yh a x)
    (h1 : ∀ x, x < 128 → t (n * 128 + x) = nd_b (M x)) (h2 : ∀ j, j < n * 128 → t j = xT j) : nd_RR (n + 1) s0 st L t xN xR l w yR := by
  obtain ⟨h9, hn, h0, hst, hL, hT, hN, hR⟩ := R
  refine ⟨by omega, by omega, h0, hst, hL, ?_, ?_, hR⟩
  · intro a x ha hx
    rw [h a x (by omega) hx]
    by_cases z : a = n
    · rw [if_pos z, z]; exact h1 x hx
    · rw [if_neg z, h2 _ (by omega)]; exact hT a x (by omega) hx
  · intro k x hk hx
    show _ = nd_b (nd_yb l w (32 + k) x)
    rw [h (32 + k) x (by omega) hx, if_neg (by omega)]; exact hN k x hk hx
theorem nd_RX {n s0 st L a j : Nat} {l w : Nat → Int64} {t : Nat → Int32} (R : nd_RR n s0 st L xT xN xR yl yh yR) (h3 : 3 ≤ j) (h7 : j < 7) (h : ∀ a' x', nd_yb l w a' x' = if a' = 29 + j then nd_yb yl yh a x' else nd_yb yl yh a' x')
    (h1 : ∀ x, x < 128 → t ((j - 3) * 128 + x) = nd_b (nd_yb yl yh a x)) (h2 : ∀ i, i < (j - 3) * 128 ∨ (j - 3) * 128 + 128 ≤ i → t i = xN i) : nd_RR n s0 st L xT t xR l w yR := by
  obtain ⟨h9, hn, h0, hst, hL, hT, hN, hR⟩ := R
  refine ⟨h9, hn, h0, hst, hL, ?_, ?_, hR⟩
  · intro a' x ha hx
    rw [h a' x, if_neg (by omega)]; exact hT a' x ha hx
  · intro k x hk hx
    show _ = nd_b (nd_yb l w (32 + k) x)
    rw [h (32 + k) x]
    by_cases z : k = j - 3
    · rw [if_pos (by omega), z]; exact h1 x hx
    · rw [if_neg (by omega), h2 _ (by omega)]; exact hN k x hk hx
end NDR
theorem i_up {k : Nat} {u : SX} {v : SY} (h : i_Rel k u v) : i_Rel (k + 5) u v := h
theorem i_vc0 : wpX_init (fun u => wpY_init (fun v => i_Rel 0 u v)) := by
  refine xi_init (fun t w ht hw => yi_init (fun l h h1 h2 => nd_mk (by decide) ⟨by omega, by omega, by omega, by omega, by omega, ?_, ?_, fun k hk => absurd hk (by omega)⟩))
  · intro a x ha hx
    rw [ht a x ha hx, h1 a x ha hx]
  · intro k x hk hx
    rw [hw k x hk hx]
    show _ = nd_b (nd_yb l h (32 + k) x)
    rw [h2 k x hk hx]
theorem i_vc_gate {k : Nat} {u : SX} {v : SY} (I : i_Rel k u v) (hk : k + 5 ≤ 2560) (v1 : Int32) (v2 : Int32) (v3 : Int32) (v4 : Int32) : wpX_gate (fun r u' => wpY_gate (fun r' v' => r' = r ∧ i_Rel (k + 5) u' v') v v1 v2 v3 v4) u v1 v2 v3 v4 := by
  obtain ⟨n, s0, st, L, xc, xT, xM, xN, xI, xP, xC, xH, xL, xD, xR, xK, xF, yl, yh, yI, yP, yC, yF, yA, yQ, yR, rfl, rfl, R⟩ := I
  have R' := R
  obtain ⟨h9, hn, h0, hst, hL, hT, hN, hR⟩ := R'
  have hY : nd_Y yl yh (nd_yb yl yh) := fun _ _ _ _ => rfl
  refine xh_gate hT hn (fun z => ?_) (fun z g e => ?_) (fun z g e e2 => ?_) (fun z g e e2 t h1 h2 => ?_)
  · exact yh_gate hY hn (fun _ => ⟨rfl, nd_mk rfl R⟩) (fun y => by rw [z] at y; cases y) (fun y => by rw [z] at y; cases y) (fun y => by rw [z] at y; cases y)
  · exact yh_gate hY hn (fun y => by rw [z] at y; cases y) (fun _ l w h3 _ => ⟨rfl, nd_mk rfl (nd_RY R h3)⟩) (fun _ l w h3 e3 => by omega) (fun _ l w e3 => by omega)
  · exact yh_gate hY hn (fun y => by rw [z] at y; cases y) (fun _ l w h3 e3 => by omega) (fun _ l w h3 _ _ => ⟨rfl, nd_mk rfl (nd_RY R h3)⟩) (fun _ l w e3 e4 => by omega)
  · exact yh_gate hY hn (fun y => by rw [z] at y; cases y) (fun _ l w h3 e3 => by omega) (fun _ l w h3 _ e4 => by omega) (fun _ l w _ _ h3 => ⟨rfl, nd_mk rfl (nd_RN R e2 h3 h1 h2)⟩)
theorem i_vc_undo {k : Nat} {u : SX} {v : SY} (I : i_Rel k u v) (hk : k + 5 ≤ 2560) (v1 : Int32) : wpX_undo (fun r u' => wpY_undo (fun r' v' => r' = r ∧ i_Rel (k + 5) u' v') v v1) u v1 := by
  obtain ⟨n, s0, st, L, xc, xT, xM, xN, xI, xP, xC, xH, xL, xD, xR, xK, xF, yl, yh, yI, yP, yC, yF, yA, yQ, yR, rfl, rfl, R⟩ := I
  have R' := R
  obtain ⟨h9, hn, h0, hst, hL, hT, hN, hR⟩ := R'
  have hY : nd_Y yl yh (nd_yb yl yh) := fun _ _ _ _ => rfl
  by_cases z : v1 < 9
  · exact br_t z (br_t z ⟨rfl, nd_mk rfl R⟩)
  · obtain ⟨j, h1, h2, rfl⟩ := nd_big (n := 9) (by omega) (Int32.not_lt.mp z)
    by_cases y : j ≤ n
    · have e : nI j ≤ nI n := nI_le y (by omega)
      refine br_f z (br_t e (nm_r (pk_sub y) (br_f z (br_t e (nm_r (pk_sub y) ⟨rfl, nd_mk rfl ?_⟩)))))
      exact ⟨h1, by omega, h0, hst, hL, fun a x ha hx => hT a x (by omega) hx, hN, hR⟩
    · have e : ¬ nI j ≤ nI n := nI_ge (by omega) h2
      exact br_f z (br_f e (br_f z (br_f e ⟨rfl, nd_mk rfl R⟩)))
theorem i_vc_next {k : Nat} {u : SX} {v : SY} (I : i_Rel k u v) (hk : k + 5 ≤ 2560) (v1 : Int32) (v2 : Int32) : wpX_next (fun r u' => wpY_next (fun r' v' => r' = r ∧ i_Rel (k + 5) u' v') v v1 v2) u v1 v2 := by
  obtain ⟨n, s0, st, L, xc, xT, xM, xN, xI, xP, xC, xH, xL, xD, xR, xK, xF, yl, yh, yI, yP, yC, yF, yA, yQ, yR, rfl, rfl, R⟩ := I
  have R' := R
  obtain ⟨h9, hn, h0, hst, hL, hT, hN, hR⟩ := R'
  have hY : nd_Y yl yh (nd_yb yl yh) := fun _ _ _ _ => rfl
  by_cases z : v1 < 3
  · exact br_t z (br_t z ⟨rfl, nd_mk rfl R⟩)
  · obtain ⟨j, h1, h2, rfl⟩ := nd_big (n := 3) (by omega) (Int32.not_lt.mp z)
    by_cases y : j < 7
    · have e1 : nI j < 7 := nI_lt (b := 7) y (by omega)
      have e2 : ¬ (6 : Int32) < nI j := nI_nlt (a := 6) (by omega) (by omega)
      have both : ∀ a, a < n → wX_next_38 (fun r u' => wY_next_36 (fun r' v' => r' = r ∧ i_Rel (k + 5) u' v') (nI j) (nI a) (nI n) (nI s0) (nI st) (nI L - 1) yl yh yI yP yC yF yA yQ yR) (nI j) (nI a) (nI n) (nI s0) (nI st) xc (nI L) xT xM xN xI xP xC xH xL xD xR xK xF := by
        intro a ha
        exact xh_cp hT hn ha h1 y (fun t t1 t2 => yh_cp (by omega) y (fun l w hw => ⟨rfl, nd_mk rfl (nd_RX R h1 y hw t1 t2)⟩))
      by_cases e3 : v2 = -1
      · subst e3
        have hb := both j (by omega)
        refine br_f z (br_t e1 (br_t rfl (br_t rfl ?_)))
        unfold wX_next_38 at hb ⊢
        rw [show nI j - 3 = nI (j - 3) from pk_sub (b := 3) h1] at hb ⊢
        refine xa_cpy hT hn (by omega) (by omega) (fun t t1 t2 => ?_)
        refine br_f z (br_f e2 (br_t rfl (br_f (by decide) ?_)))
        exact yh_cp (by omega) y (fun l w hw => ⟨rfl, nd_mk rfl (nd_RX R h1 y hw t1 t2)⟩)
      · refine br_f z (br_t e1 (br_f e3 (xa_net hn (nd_br (fun w => ?_) (fun w => ?_)))))
        · refine br_f z (br_f e2 (br_f e3 (ya_net hn ?_)))
          rw [w]
          exact br_t rfl ⟨rfl, nd_mk rfl R⟩
        · obtain ⟨a, ha, rfl⟩ := (nd_in_iff (by omega)).mp w
          refine br_f e3 ?_
          unfold wX_next_38
          rw [show nI j - 3 = nI (j - 3) from pk_sub (b := 3) h1]
          refine xa_cpy hT hn ha (by omega) (fun t t1 t2 => ?_)
          refine br_f z (br_f e2 (br_f e3 (ya_net hn ?_)))
          rw [w]
          refine br_f (by decide) (br_t (nI_pos' (by omega)) ?_)
          exact yh_cp (by omega) y (fun l w hw => ⟨rfl, nd_mk rfl (nd_RX R h1 y hw t1 t2)⟩)
    · have e1 : ¬ nI j < 7 := nI_nlt (b := 7) (by omega) h2
      have e2 : (6 : Int32) < nI j := nI_lt (a := 6) (by omega) h2
      exact br_f z (br_f e1 (br_f z (br_t e2 ⟨rfl, nd_mk rfl R⟩)))
theorem i_vc_reset {k : Nat} {u : SX} {v : SY} (I : i_Rel k u v) (hk : k + 5 ≤ 2560) (v1 : Int32) : wpX_reset (fun r u' => wpY_reset (fun r' v' => r' = r ∧ i_Rel (k + 5) u' v') v v1) u v1 := by
  obtain ⟨n, s0, st, L, xc, xT, xM, xN, xI, xP, xC, xH, xL, xD, xR, xK, xF, yl, yh, yI, yP, yC, yF, yA, yQ, yR, rfl, rfl, R⟩ := I
  have R' := R
  obtain ⟨h9, hn, h0, hst, hL, hT, hN, hR⟩ := R'
  have hY : nd_Y yl yh (nd_yb yl yh) := fun _ _ _ _ => rfl
  unfold wpX_reset
  dsimp only
  refine xa_sta (nd_br (fun z => ?_) (fun z => ?_))
  · unfold wpY_reset
    dsimp only
    refine ya_amo 16 rfl (by omega) ?_
    rw [z]
    exact br_t rfl ⟨rfl, nd_mk rfl R⟩
  · unfold wpY_reset
    dsimp only
    refine ya_amo 16 rfl (by omega) ?_
    rw [z]
    obtain ⟨s, hs, rfl⟩ := (nd_in_iff (by omega)).mp z
    exact br_f (by decide) ⟨rfl, nd_mk rfl ⟨h9, hn, hs, hst, hL, hT, hN, hR⟩⟩
theorem i_vc_ask {k : Nat} {u : SX} {v : SY} (I : i_Rel k u v) (hk : k + 5 ≤ 2560) (v1 : Int32) (v2 : Int32) : wpX_ask (fun r u' => wpY_ask (fun r' v' => r' = r ∧ i_Rel (k + 5) u' v') v v1 v2) u v1 v2 := by
  obtain ⟨n, s0, st, L, xc, xT, xM, xN, xI, xP, xC, xH, xL, xD, xR, xK, xF, yl, yh, yI, yP, yC, yF, yA, yQ, yR, rfl, rfl, R⟩ := I
  have R' := R
  obtain ⟨h9, hn, h0, hst, hL, hT, hN, hR⟩ := R'
  have hY : nd_Y yl yh (nd_yb yl yh) := fun _ _ _ _ => rfl
  exact xh_ask hT hn (fun c i p co => yh_ask hY hn (fun i' p' co' => ⟨rfl, nd_mk rfl R⟩))
theorem i_vc_shape {k : Nat} {u : SX} {v : SY} (I : i_Rel k u v) (hk : k + 5 ≤ 2560) (v1 : Int32) (v2 : Int32) : wpX_shape (fun r => wpY_shape (fun r' => r' = r ∧ i_Rel (k + 5) u v) v v1 v2) u v1 v2 := by
  obtain ⟨n, s0, st, L, xc, xT, xM, xN, xI, xP, xC, xH, xL, xD, xR, xK, xF, yl, yh, yI, yP, yC, yF, yA, yQ, yR, rfl, rfl, R⟩ := I
  have R' := R
  obtain ⟨h9, hn, h0, hst, hL, hT, hN, hR⟩ := R'
  have hY : nd_Y yl yh (nd_yb yl yh) := fun _ _ _ _ => rfl
  exact xh_shape hT hn (yh_shape hY hn ⟨rfl, nd_mk rfl R⟩)
theorem i_vc_same {k : Nat} {u : SX} {v : SY} (I : i_Rel k u v) (hk : k + 5 ≤ 2560) (v1 : Int32) (v2 : Int32) (v3 : Int32) : wpX_same (fun r => wpY_same (fun r' => r' = r ∧ i_Rel (k + 5) u v) v v1 v2 v3) u v1 v2 v3 := by
  obtain ⟨n, s0, st, L, xc, xT, xM, xN, xI, xP, xC, xH, xL, xD, xR, xK, xF, yl, yh, yI, yP, yC, yF, yA, yQ, yR, rfl, rfl, R⟩ := I
  have R' := R
  obtain ⟨h9, hn, h0, hst, hL, hT, hN, hR⟩ := R'
  have hY : nd_Y yl yh (nd_yb yl yh) := fun _ _ _ _ => rfl
  exact xh_same hT hn (yh_same hY hn ⟨rfl, nd_mk rfl R⟩)
theorem i_vc_holds {k : Nat} {u : SX} {v : SY} (I : i_Rel k u v) (hk : k + 5 ≤ 2560) (v1 : Int32) (v2 : Int32) : wpX_holds (fun r => wpY_holds (fun r' => r' = r ∧ i_Rel (k + 5) u v) v v1 v2) u v1 v2 := by
  obtain ⟨n, s0, st, L, xc, xT, xM, xN, xI, xP, xC, xH, xL, xD, xR, xK, xF, yl, yh, yI, yP, yC, yF, yA, yQ, yR, rfl, rfl, R⟩ := I
  have R' := R
  obtain ⟨h9, hn, h0, hst, hL, hT, hN, hR⟩ := R'
  have hY : nd_Y yl yh (nd_yb yl yh) := fun _ _ _ _ => rfl
  exact xh_holds hT hn (yh_holds hY hn ⟨rfl, nd_mk rfl R⟩)
theorem i_vc_prime {k : Nat} {u : SX} {v : SY} (I : i_Rel k u v) (hk : k + 5 ≤ 2560) (v1 : Int32) (v2 : Int32) : wpX_prime (fun r u' => wpY_prime (fun r' v' => r' = r ∧ i_Rel (k + 5) u' v') v v1 v2) u v1 v2 := by
  obtain ⟨n, s0, st, L, xc, xT, xM, xN, xI, xP, xC, xH, xL, xD, xR, xK, xF, yl, yh, yI, yP, yC, yF, yA, yQ, yR, rfl, rfl, R⟩ := I
  have R' := R
  obtain ⟨h9, hn, h0, hst, hL, hT, hN, hR⟩ := R'
  have hY : nd_Y yl yh (nd_yb yl yh) := fun _ _ _ _ => rfl
  exact xh_prime hT hn (fun c i p => yh_prime hY hn (fun i' p' => ⟨rfl, nd_mk rfl R⟩))
theorem i_vc_step {k : Nat} {u : SX} {v : SY} (I : i_Rel k u v) (hk : k + 5 ≤ 2560) (v1 : Int32) : wpX_step (fun r u' => wpY_step (fun r' v' => r' = r ∧ i_Rel (k + 5) u' v') v v1) u v1 := by
  obtain ⟨n, s0, st, L, xc, xT, xM, xN, xI, xP, xC, xH, xL, xD, xR, xK, xF, yl, yh, yI, yP, yC, yF, yA, yQ, yR, rfl, rfl, R⟩ := I
  have R' := R
  obtain ⟨h9, hn, h0, hst, hL, hT, hN, hR⟩ := R'
  have hY : nd_Y yl yh (nd_yb yl yh) := fun _ _ _ _ => rfl
  rcases nd_m1c v1 with z | rfl | ⟨j, hj, rfl⟩
  · exact br_t z (br_t z ⟨rfl, nd_mk rfl R⟩)
  · exact br_f Int32.lt_irrefl (br_t (by decide) (br_t rfl (br_f Int32.lt_irrefl (br_t (by decide) (br_f (by decide) ⟨rfl, nd_mk rfl ⟨h9, hn, h0, h0, hL, hT, hN, hR⟩⟩)))))
  · have e1 := nd_nm1 hj
    by_cases y : j < 8
    · have e2 : nI j < 8 := nI_lt (b := 8) y (by omega)
      have e3 : nI j ≤ 7 := nI_le (b := 7) (by omega) (by omega)
      refine br_f e1 (br_t e2 (br_f (nd_m1 hj) (xe_suc hN hst y ?_)))
      refine br_f e1 (br_t e3 (br_t (nI_pos' hj) (yf_beh hY hst y ⟨rfl, nd_mk rfl ⟨h9, hn, h0, nd_nxl _ _ _, hL, hT, hN, hR⟩⟩)))
    · have e2 : ¬ nI j < 8 := nI_nlt (b := 8) (by omega) hj
      have e3 : ¬ nI j ≤ 7 := nI_ge (a := 7) (by omega) hj
      exact br_f e1 (br_f e2 (br_f e1 (br_f e3 ⟨rfl, nd_mk rfl R⟩)))
theorem i_vc_reach {k : Nat} {u : SX} {v : SY} (I : i_Rel k u v) (hk : k + 5 ≤ 2560) (v1 : Int32) : wpX_reach (fun r u' => wpY_reach (fun r' v' => r' = r ∧ i_Rel (k + 5) u' v') v v1) u v1 := by
  obtain ⟨n, s0, st, L, xc, xT, xM, xN, xI, xP, xC, xH, xL, xD, xR, xK, xF, yl, yh, yI, yP, yC, yF, yA, yQ, yR, rfl, rfl, R⟩ := I
  have R' := R
  obtain ⟨h9, hn, h0, hst, hL, hT, hN, hR⟩ := R'
  have hY : nd_Y yl yh (nd_yb yl yh) := fun _ _ _ _ => rfl
  refine xh_reach hT hN hn h0 (fun w v h => ?_) (fun a k' ha e hk' h1 w v t ht => ?_)
  · refine yh_reach hY hn h0 (fun w' _ => ⟨rfl, nd_mk rfl R⟩) (fun a k' ha e hk' h1 => ?_)
    rcases h with h | ⟨a', ha', e', h2⟩
    · rw [e, nd_in_nI ha (by omega)] at h
      cases h
    · rw [e] at e'
      have e2 := (nI_eq (by omega) (by omega)).mp e'
      subst e2
      omega
  · refine yh_reach hY hn h0 (fun w' h => ?_) (fun a' k2 ha' e' hk2 h2 w' c t' ht' => ?_)
    · rcases h with h | ⟨a', ha', e', h2⟩
      · rw [e, nd_in_nI ha (by omega)] at h
        cases h
      · rw [e] at e'
        have e2 := (nI_eq (by omega) (by omega)).mp e'
        subst e2
        omega
    · rw [e] at e'
      have e2 := (nI_eq (by omega) (by omega)).mp e'
      subst e2
      have e3 : k2 = k' := by omega
      subst e3
      refine ⟨rfl, nd_mk (nI_pred k2).symm ⟨h9, hn, h0, hst, by omega, hT, hN, fun j hj => ?_⟩⟩
      rw [ht j hj, ht' j hj]
theorem i_vc_witness {k : Nat} {u : SX} {v : SY} (I : i_Rel k u v) (hk : k + 5 ≤ 2560) (v1 : Int32) : wpX_witness (fun r => wpY_witness (fun r' => r' = r ∧ i_Rel (k + 5) u v) v v1) u v1 := by
  obtain ⟨n, s0, st, L, xc, xT, xM, xN, xI, xP, xC, xH, xL, xD, xR, xK, xF, yl, yh, yI, yP, yC, yF, yA, yQ, yR, rfl, rfl, R⟩ := I
  have R' := R
  obtain ⟨h9, hn, h0, hst, hL, hT, hN, hR⟩ := R'
  have hY : nd_Y yl yh (nd_yb yl yh) := fun _ _ _ _ => rfl
  by_cases z : v1 < 0
  · exact br_t z (br_t z ⟨rfl, nd_mk rfl R⟩)
  · obtain ⟨j, hj, rfl⟩ := nI_of z
    by_cases y : j < L
    · have e1 : nI j < nI L := nI_lt y (by omega)
      have e2 : nI j ≤ nI L - 1 := by
        rw [show (1 : Int32) = nI 1 from rfl, pk_sub (by omega)]
        exact nI_le (by omega) (by omega)
      refine br_f z (br_t e1 ⟨vp_in_nI (by omega) (by omega), br_f z (br_t e2 ⟨vp_in_nI (by omega) (by omega), ?_, nd_mk rfl R⟩)⟩)
      rw [nI_clamp hj]
      exact (hR j y).symm
    · have e1 : ¬ nI j < nI L := nI_nlt (by omega) hj
      have e2 : ¬ nI j ≤ nI L - 1 := by
        by_cases w : L = 0
        · subst w
          intro h
          exact absurd (Int32.lt_of_le_of_lt h (show nI 0 - 1 < 0 by decide)) z
        · rw [show (1 : Int32) = nI 1 from rfl, pk_sub (by omega)]
          exact nI_ge (by omega) hj
      exact br_f z (br_f e1 (br_f z (br_f e2 ⟨rfl, nd_mk rfl R⟩)))
theorem i_vc_states {k : Nat} {u : SX} {v : SY} (I : i_Rel k u v) (hk : k + 5 ≤ 2560) (v1 : Int32) : wpX_states (fun r u' => wpY_states (fun r' v' => r' = r ∧ i_Rel (k + 5) u' v') v v1) u v1 := by
  obtain ⟨n, s0, st, L, xc, xT, xM, xN, xI, xP, xC, xH, xL, xD, xR, xK, xF, yl, yh, yI, yP, yC, yF, yA, yQ, yR, rfl, rfl, R⟩ := I
  have R' := R
  obtain ⟨h9, hn, h0, hst, hL, hT, hN, hR⟩ := R'
  have hY : nd_Y yl yh (nd_yb yl yh) := fun _ _ _ _ => rfl
  refine xh_states hN h0 (fun w t e hD => yh_states hY h0 (fun w' e' h => ⟨?_, nd_mk rfl R⟩))
  rcases h with h | h
  · rw [h]; rfl
  · rw [nd_sv_congr (nd_D_eq h hD)]
theorem i_vc_check {k : Nat} {u : SX} {v : SY} (I : i_Rel k u v) (hk : k + 5 ≤ 2560) (v1 : Int32) (v2 : Int32) (v3 : Int32) : wpX_check (fun r u' => wpY_check (fun r' => r' = r ∧ i_Rel (k + 5) u' v) v v1 v2 v3) u v1 v2 v3 := by
  obtain ⟨n, s0, st, L, xc, xT, xM, xN, xI, xP, xC, xH, xL, xD, xR, xK, xF, yl, yh, yI, yP, yC, yF, yA, yQ, yR, rfl, rfl, R⟩ := I
  have R' := R
  obtain ⟨h9, hn, h0, hst, hL, hT, hN, hR⟩ := R'
  have hY : nd_Y yl yh (nd_yb yl yh) := fun _ _ _ _ => rfl
  exact xh_check hT hN hn (fun w => yh_check hY hn ⟨rfl, nd_mk rfl R⟩)
theorem i_vc_alike {k : Nat} {u : SX} {v : SY} (I : i_Rel k u v) (hk : k + 5 ≤ 2560) (v1 : Int32) (v2 : Int32) : wpX_alike (fun r u' => wpY_alike (fun r' v' => r' = r ∧ i_Rel (k + 5) u' v') v v1 v2) u v1 v2 := by
  obtain ⟨n, s0, st, L, xc, xT, xM, xN, xI, xP, xC, xH, xL, xD, xR, xK, xF, yl, yh, yI, yP, yC, yF, yA, yQ, yR, rfl, rfl, R⟩ := I
  have R' := R
  obtain ⟨h9, hn, h0, hst, hL, hT, hN, hR⟩ := R'
  have hY : nd_Y yl yh (nd_yb yl yh) := fun _ _ _ _ => rfl
  refine xh_alike hT hN hn (fun t w h => ?_) (fun a s ha hs e1 e2 t w => ?_) (fun a ha e1 e2 t w => ?_)
  · refine yh_alike hY hn (fun t' _ => ⟨rfl, nd_mk rfl R⟩) (fun a s ha hs e1 e2 t' => ?_) (fun a ha e1 e2 t' => ?_)
    · rcases h with h | ⟨_, h⟩
      · rw [e1, nd_in_nI ha (by omega)] at h; cases h
      · rw [e2, nd_in_nI hs (by omega)] at h; cases h
    · rcases h with h | ⟨h, _⟩
      · rw [e1, nd_in_nI ha (by omega)] at h; cases h
      · exact absurd e2 h
  · refine yh_alike hY hn (fun t' h => ?_) (fun a' s' ha' hs' e1' e2' t' => ?_) (fun a' ha' e1' e2' t' => ?_)
    · rcases h with h | ⟨_, h⟩
      · rw [e1, nd_in_nI ha (by omega)] at h; cases h
      · rw [e2, nd_in_nI hs (by omega)] at h; cases h
    · rw [e1] at e1'
      rw [e2] at e2'
      have e3 := (nI_eq (by omega) (by omega)).mp e1'
      have e4 := (nI_eq (by omega) (by omega)).mp e2'
      subst e3 e4
      exact ⟨rfl, nd_mk rfl R⟩
    · rw [e2] at e2'
      exact absurd e2' (nd_m1 (by omega))
  · refine yh_alike hY hn (fun t' h => ?_) (fun a' s' ha' hs' e1' e2' t' => ?_) (fun a' ha' e1' e2' t' => ?_)
    · rcases h with h | ⟨h, _⟩
      · rw [e1, nd_in_nI ha (by omega)] at h; cases h
      · exact absurd e2 h
    · rw [e2] at e2'
      exact absurd e2'.symm (nd_m1 (by omega))
    · rw [e1] at e1'
      have e3 := (nI_eq (by omega) (by omega)).mp e1'
      subst e3
      exact ⟨rfl, nd_mk rfl R⟩
end
