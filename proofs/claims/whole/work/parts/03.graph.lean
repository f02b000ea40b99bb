/-! sixteen states: growing sets stand still, ways, distances, states that look alike: pure -/
theorem nd_ni {a b : Bool} (h : (!a) = !b) : a = b := by revert h; cases a <;> cases b <;> decide
theorem nd_stab (P : Nat → Nat → Bool) (c : Nat) (hm : ∀ r s, s < 16 → P r s = true → P (r + 1) s = true)
    (hs : ∀ r, (∀ s, s < 16 → P (r + 1) s = P r s) → ∀ s, s < 16 → P (r + 2) s = P (r + 1) s)
    (hc : c ≤ nd_cnt (P 0) 16) : ∀ r, 16 ≤ r + c → ∀ s, s < 16 → P (r + 1) s = P r s := by
  have dich : ∀ r, (∀ s, s < 16 → P (r + 1) s = P r s) ∨ nd_cnt (P r) 16 < nd_cnt (P (r + 1)) 16 := by
    intro r
    by_cases h : ∀ s, s < 16 → P (r + 1) s = P r s
    · exact Or.inl h
    · refine Or.inr ?_
      have ⟨s, h2⟩ := Classical.not_forall.mp h
      have ⟨h3, h4⟩ := Classical.not_imp.mp h2
      have hp : P r s = false := by
        cases z : P r s
        · rfl
        · rw [z, hm r s h3 z] at h4; exact absurd rfl h4
      have hq : P (r + 1) s = true := by
        cases z : P (r + 1) s
        · rw [z, hp] at h4; exact absurd rfl h4
        · rfl
      exact nd_cnt_strict (hm r) h3 hp hq
  have key : ∀ r, (∀ s, s < 16 → P (r + 1) s = P r s) ∨ r + 1 + c ≤ nd_cnt (P (r + 1)) 16 := by
    intro r
    induction r with
    | zero =>
      rcases dich 0 with h | h
      · exact Or.inl h
      · exact Or.inr (by omega)
    | succ r ih =>
      rcases ih with h | h
      · exact Or.inl (hs r h)
      · rcases dich (r + 1) with h2 | h2
        · exact Or.inl h2
        · exact Or.inr (by omega)
  intro r hr
  rcases key r with h | h
  · exact h
  · have := nd_cnt_le (P (r + 1)) 16
    omega
/-! some STEP, all STEPS -/
def nd_ld (f : Nat → Nat → Nat) (all : Bool) (p : Nat → Bool) (s : Nat) : Bool :=
  if all then nd_all (fun i => p (f s i)) 8 else nd_any (fun i => p (f s i)) 8
def nd_F (f : Nat → Nat → Nat) : Prop := ∀ s i, s < 16 → i < 8 → f s i < 16
theorem nd_ld_congr {f : Nat → Nat → Nat} (hf : nd_F f) {all : Bool} {p q : Nat → Bool} (h : ∀ s, s < 16 → p s = q s) : ∀ s, s < 16 → nd_ld f all p s = nd_ld f all q s := by
  intro s hs
  unfold nd_ld
  rw [nd_all_congr (fun i hi => h _ (hf s i hs hi)), nd_any_congr (fun i hi => h _ (hf s i hs hi))]
theorem nd_ld_mono {f : Nat → Nat → Nat} (hf : nd_F f) {all : Bool} {p q : Nat → Bool} (h : ∀ s, s < 16 → p s = true → q s = true) : ∀ s, s < 16 → nd_ld f all p s = true → nd_ld f all q s = true := by
  intro s hs
  unfold nd_ld
  cases all
  · rw [if_neg Bool.false_ne_true, if_neg Bool.false_ne_true, nd_any_iff, nd_any_iff]
    rintro ⟨i, hi, z⟩
    exact ⟨i, hi, h _ (hf s i hs hi) z⟩
  · rw [if_pos rfl, if_pos rfl, nd_all_iff, nd_all_iff]
    intro z i hi
    exact h _ (hf s i hs hi) (z i hi)
/-- B is come to through A -/
def nd_co (f : Nat → Nat → Nat) (all : Bool) (g t : Nat → Bool) : Nat → Nat → Bool
  | 0 => g
  | r + 1 => fun s => g s || (t s && nd_ld f all (nd_co f all g t r) s)
/-- A is never left -/
def nd_st (f : Nat → Nat → Nat) (all : Bool) (g : Nat → Bool) : Nat → Nat → Bool
  | 0 => g
  | r + 1 => fun s => g s && nd_ld f all (nd_st f all g r) s
theorem nd_co_stab {f : Nat → Nat → Nat} (hf : nd_F f) (all : Bool) (g t : Nat → Bool) : ∀ s, s < 16 → nd_co f all g t 17 s = nd_co f all g t 16 s := by
  refine nd_stab (nd_co f all g t) 0 ?_ ?_ (Nat.zero_le _) 16 (by omega)
  · intro r
    induction r with
    | zero =>
      intro s hs h
      show (g s || _) = true
      rw [show g s = true from h, Bool.true_or]
    | succ r ih =>
      intro s hs h
      rw [nd_co, Bool.or_eq_true, Bool.and_eq_true] at h ⊢
      rcases h with h | ⟨h1, h2⟩
      · exact Or.inl h
      · exact Or.inr ⟨h1, nd_ld_mono hf ih s hs h2⟩
  · intro r h s hs
    show (g s || (t s && nd_ld f all (nd_co f all g t (r + 1)) s)) = (g s || (t s && nd_ld f all (nd_co f all g t r) s))
    rw [nd_ld_congr hf h s hs]
theorem nd_st_stab {f : Nat → Nat → Nat} (hf : nd_F f) (all : Bool) (g : Nat → Bool) : ∀ s, s < 16 → nd_st f all g 17 s = nd_st f all g 16 s := by
  have dec : ∀ r s, s < 16 → nd_st f all g (r + 1) s = true → nd_st f all g r s = true := by
    intro r
    induction r with
    | zero =>
      intro s hs h
      rw [nd_st, Bool.and_eq_true] at h
      exact h.1
    | succ r ih =>
      intro s hs h
      rw [nd_st, Bool.and_eq_true] at h ⊢
      exact ⟨h.1, nd_ld_mono hf ih s hs h.2⟩
  have key := nd_stab (fun r s => !nd_st f all g r s) 0 ?_ ?_ (Nat.zero_le _) 16 (by omega)
  · intro s hs
    exact nd_ni (key s hs)
  · intro r s hs h
    simp only [Bool.not_eq_true'] at h ⊢
    cases z : nd_st f all g (r + 1) s
    · rfl
    · rw [dec r s hs z] at h; cases h
  · intro r h s hs
    have h2 : ∀ s, s < 16 → nd_st f all g (r + 1) s = nd_st f all g r s := by
      intro s hs
      exact nd_ni (h s hs)
    show (!(g s && nd_ld f all (nd_st f all g (r + 1)) s)) = !(g s && nd_ld f all (nd_st f all g r) s)
    rw [nd_ld_congr hf h2 s hs]
/-! layers: just n STEPS lead into g -/
def nd_L (f : Nat → Nat → Nat) (g : Nat → Bool) : Nat → Nat → Bool
  | 0 => g
  | n + 1 => nd_ld f false (nd_L f g n)
/-- within n STEPS of s0 -/
def nd_W (f : Nat → Nat → Nat) (s0 : Nat) : Nat → Nat → Bool
  | 0 => fun s => decide (s = s0)
  | n + 1 => fun s => nd_W f s0 n s || nd_any (fun t => nd_W f s0 n t && nd_any (fun i => decide (f t i = s)) 8) 16
theorem nd_W_s {f : Nat → Nat → Nat} {s0 n s : Nat} : nd_W f s0 (n + 1) s = true ↔ nd_W f s0 n s = true ∨ ∃ t i, t < 16 ∧ i < 8 ∧ nd_W f s0 n t = true ∧ f t i = s := by
  rw [nd_W, Bool.or_eq_true, nd_any_iff]
  constructor
  · rintro (h | ⟨t, ht, h⟩)
    · exact Or.inl h
    · rw [Bool.and_eq_true, nd_any_iff] at h
      obtain ⟨h1, i, hi, h2⟩ := h
      exact Or.inr ⟨t, i, ht, hi, h1, of_decide_eq_true h2⟩
  · rintro (h | ⟨t, i, ht, hi, h1, h2⟩)
    · exact Or.inl h
    · refine Or.inr ⟨t, ht, ?_⟩
      rw [Bool.and_eq_true, nd_any_iff]
      exact ⟨h1, i, hi, decide_eq_true h2⟩
theorem nd_W_up {f : Nat → Nat → Nat} {s0 s : Nat} : ∀ {n m : Nat}, n ≤ m → nd_W f s0 n s = true → nd_W f s0 m s = true := by
  intro n m h
  induction h with
  | refl => exact id
  | step _ ih => exact fun z => nd_W_s.mpr (Or.inl (ih z))
theorem nd_W_lt {f : Nat → Nat → Nat} (hf : nd_F f) {s0 : Nat} (h0 : s0 < 16) : ∀ {n s : Nat}, nd_W f s0 n s = true → s < 16 := by
  intro n
  induction n with
  | zero =>
    intro s h
    rw [of_decide_eq_true h]; exact h0
  | succ n ih =>
    intro s h
    rcases nd_W_s.mp h with h | ⟨t, i, ht, hi, _, rfl⟩
    · exact ih h
    · exact hf t i ht hi
theorem nd_W_15 {f : Nat → Nat → Nat} {s0 : Nat} (h0 : s0 < 16) {n s : Nat} (hs : s < 16) (h : nd_W f s0 n s = true) : nd_W f s0 15 s = true := by
  have stab : ∀ r, 16 ≤ r + 1 → ∀ s, s < 16 → nd_W f s0 (r + 1) s = nd_W f s0 r s := by
    refine nd_stab (nd_W f s0) 1 ?_ ?_ ?_
    · intro r s _ h
      exact nd_W_s.mpr (Or.inl h)
    · intro r h s hs
      show (nd_W f s0 (r + 1) s || nd_any (fun t => nd_W f s0 (r + 1) t && nd_any (fun i => decide (f t i = s)) 8) 16) = (nd_W f s0 r s || nd_any (fun t => nd_W f s0 r t && nd_any (fun i => decide (f t i = s)) 8) 16)
      rw [h s hs]
      refine congrArg _ (nd_any_congr ?_)
      intro t ht
      rw [h t ht]
    · exact nd_cnt_pos h0 (decide_eq_true rfl)
  rcases Nat.lt_or_ge n 16 with z | z
  · exact nd_W_up (by omega) h
  · obtain ⟨d, rfl⟩ : ∃ d, n = 15 + d := ⟨n - 15, by omega⟩
    clear z
    induction d with
    | zero => exact h
    | succ d ih =>
      refine ih ?_
      rw [← stab (15 + d) (by omega) s hs]
      exact h
/-- what both sides' distances are -/
def nd_D (f : Nat → Nat → Nat) (s0 : Nat) (e : Nat → Nat) : Prop :=
  ∀ t, t < 16 → (∀ m, m < 16 → (e t ≤ m ↔ nd_W f s0 m t = true)) ∧ (e t < 16 ∨ e t = 99)
theorem nd_D_eq {f : Nat → Nat → Nat} {s0 : Nat} {e e' : Nat → Nat} (h : nd_D f s0 e) (h' : nd_D f s0 e') : ∀ t, t < 16 → e t = e' t := by
  intro t ht
  obtain ⟨a, b⟩ := h t ht
  obtain ⟨a', b'⟩ := h' t ht
  rcases b with b | b
  · have h1 := (a' _ b).mpr ((a _ b).mp (Nat.le_refl _))
    have h2 := (a (e' t) (by omega)).mpr ((a' (e' t) (by omega)).mp (Nat.le_refl _))
    omega
  · rcases b' with b' | b'
    · have h2 := (a (e' t) b').mpr ((a' (e' t) b').mp (Nat.le_refl _))
      omega
    · omega
/-- the layers and the distances tell the same least number -/
theorem nd_L_W {f : Nat → Nat → Nat} (hf : nd_F f) {g : Nat → Bool} : ∀ n s0, s0 < 16 → nd_L f g n s0 = true → ∃ s, s < 16 ∧ g s = true ∧ nd_W f s0 n s = true := by
  intro n
  induction n with
  | zero => intro s0 h0 h; exact ⟨s0, h0, h, decide_eq_true rfl⟩
  | succ n ih =>
    intro s0 h0 h
    rw [nd_L, nd_ld, if_neg Bool.false_ne_true, nd_any_iff] at h
    obtain ⟨i, hi, h⟩ := h
    obtain ⟨s, hs, hg, hw⟩ := ih _ (hf s0 i h0 hi) h
    refine ⟨s, hs, hg, ?_⟩
    clear h hg ih
    have : ∀ m s, nd_W f (f s0 i) m s = true → nd_W f s0 (m + 1) s = true := by
      intro m
      induction m with
      | zero =>
        intro s z
        exact nd_W_s.mpr (Or.inr ⟨s0, i, h0, hi, decide_eq_true rfl, (of_decide_eq_true z).symm⟩)
      | succ m ih =>
        intro s z
        rcases nd_W_s.mp z with z | ⟨t, j, ht, hj, z, e⟩
        · exact nd_W_s.mpr (Or.inl (ih s z))
        · exact nd_W_s.mpr (Or.inr ⟨t, j, ht, hj, ih t z, e⟩)
    exact this n s hw
theorem nd_W_L {f : Nat → Nat → Nat} {g : Nat → Bool} {s0 : Nat} : ∀ n s k, nd_W f s0 n s = true → nd_L f g k s = true → ∃ m, m ≤ n ∧ nd_L f g (m + k) s0 = true := by
  intro n
  induction n with
  | zero =>
    intro s k h hl
    rw [of_decide_eq_true h] at hl
    exact ⟨0, Nat.le_refl 0, by rw [Nat.zero_add]; exact hl⟩
  | succ n ih =>
    intro s k h hl
    rcases nd_W_s.mp h with h | ⟨t, i, ht, hi, h, e⟩
    · obtain ⟨m, hm, z⟩ := ih s k h hl
      exact ⟨m, by omega, z⟩
    · obtain ⟨m, hm, z⟩ := ih t (k + 1) h (by
        rw [nd_L, nd_ld, if_neg Bool.false_ne_true, nd_any_iff]
        exact ⟨i, hi, by rw [e]; exact hl⟩)
      exact ⟨m + 1, by omega, by rw [Nat.add_right_comm m 1 k]; exact z⟩
/-- the least distance of g, n, is what the layers say -/
theorem nd_reach {f : Nat → Nat → Nat} (hf : nd_F f) {g : Nat → Bool} {s0 : Nat} (h0 : s0 < 16) {e : Nat → Nat} (hD : nd_D f s0 e) {n : Nat}
    (h1 : ∀ s, s < 16 → g s = true → n ≤ e s) (h2 : n = 99 ∨ ∃ s, s < 16 ∧ g s = true ∧ e s = n) :
    (n < 16 ∧ nd_fst (fun k => nd_L f g k s0) 16 = n) ∨ (n = 99 ∧ nd_fst (fun k => nd_L f g k s0) 16 = 16) := by
  have lo : ∀ k, k < 16 → nd_L f g k s0 = true → n ≤ k := by
    intro k hk z
    obtain ⟨s, hs, hg, hw⟩ := nd_L_W hf k s0 h0 z
    have := h1 s hs hg
    have := ((hD s hs).1 k hk).mpr hw
    omega
  have hi : n < 16 → nd_L f g n s0 = true := by
    intro hn
    rcases h2 with h2 | ⟨s, hs, hg, e2⟩
    · omega
    · have hw := ((hD s hs).1 n hn).mp (by omega)
      obtain ⟨m, hm, z⟩ := nd_W_L (g := g) n s 0 hw hg
      have := lo m (by omega) z
      have e3 : m + 0 = n := by omega
      rw [e3] at z
      exact z
  have hn : n < 16 ∨ n = 99 := by
    rcases h2 with h2 | ⟨s, hs, hg, e2⟩
    · exact Or.inr h2
    · rw [← e2]; exact (hD s hs).2
  rcases hn with hn | hn
  · refine Or.inl ⟨hn, nd_fst_eq (by omega) ?_ (fun _ => hi hn)⟩
    intro i hi2
    cases z : nd_L f g i s0
    · rfl
    · have := lo i (by omega) z
      omega
  · refine Or.inr ⟨hn, nd_fst_eq (Nat.le_refl _) ?_ (fun z => absurd z (Nat.lt_irrefl _))⟩
    intro i hi2
    cases z : nd_L f g i s0
    · rfl
    · have := lo i hi2 z
      omega
/-! the reference's walk: relaxing in place, 16 times over the 128 edges -/
def nd_V (f : Nat → Nat → Nat) (s0 k : Nat) (e : Nat → Nat) : Prop :=
  (∀ s, s < 16 → e s = 99 ∨ (e s < 99 ∧ nd_W f s0 (e s) s = true)) ∧
  (∀ s n, s < 16 → n ≤ k / 128 → nd_W f s0 n s = true → e s ≤ n) ∧
  (∀ j n, k / 128 * 128 ≤ j → j < k → n ≤ k / 128 → nd_W f s0 n (j / 8 % 16) = true → e (f (j / 8 % 16) (j % 8)) ≤ n + 1)
def nd_up (e : Nat → Nat) (k v : Nat) : Nat → Nat := fun j => if j = k then v else e j
theorem nd_V_0 {f : Nat → Nat → Nat} {s0 : Nat} : nd_V f s0 0 (fun s => if s = s0 then 0 else 99) := by
  refine ⟨?_, ?_, ?_⟩
  · intro s _
    dsimp only
    split
    · rename_i h
      exact Or.inr ⟨by omega, decide_eq_true h⟩
    · exact Or.inl rfl
  · intro s n _ hn h
    have : n = 0 := by omega
    subst this
    dsimp only
    rw [if_pos (of_decide_eq_true h)]
    exact Nat.le_refl 0
  · intro j n _ hj
    omega
theorem nd_V_s {f : Nat → Nat → Nat} (hf : nd_F f) {s0 k : Nat} {e e' : Nat → Nat} (h : nd_V f s0 k e)
    (ht : e' (f (k / 8 % 16) (k % 8)) = e (f (k / 8 % 16) (k % 8)) ∧ e (f (k / 8 % 16) (k % 8)) ≤ e (k / 8 % 16) + 1 ∨ e' (f (k / 8 % 16) (k % 8)) = e (k / 8 % 16) + 1 ∧ e (k / 8 % 16) + 1 < e (f (k / 8 % 16) (k % 8)))
    (ho : ∀ s, s ≠ f (k / 8 % 16) (k % 8) → e' s = e s) : nd_V f s0 (k + 1) e' := by
  obtain ⟨hA, hB, hC⟩ := h
  have hs : k / 8 % 16 < 16 := Nat.mod_lt _ (by decide)
  have hi : k % 8 < 8 := Nat.mod_lt _ (by decide)
  have hto := hf _ _ hs hi
  generalize hS : k / 8 % 16 = S at *
  generalize hI : k % 8 = I at *
  generalize hTo : f S I = To at *
  have dec : ∀ s, e' s ≤ e s := by
    intro s
    by_cases z : s = To
    · subst z; omega
    · rw [ho s z]; exact Nat.le_refl _
  have hA' : ∀ s, s < 16 → e' s = 99 ∨ (e' s < 99 ∧ nd_W f s0 (e' s) s = true) := by
    intro s h16
    by_cases z : s = To
    · subst z
      rcases ht with ⟨h1, h2⟩ | ⟨h1, h2⟩
      · rw [h1]; exact hA s h16
      · rw [h1]
        have a1 := hA S hs
        have a2 := hA s h16
        rcases a1 with a1 | ⟨a1, a3⟩
        · omega
        · exact Or.inr ⟨by omega, nd_W_s.mpr (Or.inr ⟨S, I, hs, hi, a3, hTo⟩)⟩
    · rw [ho s z]; exact hA s h16
  have hB' : ∀ s n, s < 16 → n ≤ k / 128 → nd_W f s0 n s = true → e' s ≤ n := by
    intro s n h16 hn hw
    exact Nat.le_trans (dec s) (hB s n h16 hn hw)
  have hC' : ∀ j n, k / 128 * 128 ≤ j → j < k + 1 → n ≤ k / 128 → nd_W f s0 n (j / 8 % 16) = true → e' (f (j / 8 % 16) (j % 8)) ≤ n + 1 := by
    intro j n hj hj2 hn hw
    by_cases z : j = k
    · subst z
      rw [hS] at hw
      rw [hS, hI, hTo]
      have := hB S n hs hn hw
      omega
    · exact Nat.le_trans (dec _) (hC j n hj (by omega) hn hw)
  refine ⟨hA', ?_, ?_⟩
  · intro s n h16 hn hw
    by_cases z : n ≤ k / 128
    · exact hB' s n h16 z hw
    · have hk : (k + 1) / 128 = k / 128 + 1 := by omega
      have hn2 : n = k / 128 + 1 := by omega
      rw [hn2] at hw
      rcases nd_W_s.mp hw with hw | ⟨t, i, ht2, hi2, hw, e2⟩
      · have := hB' s _ h16 (Nat.le_refl _) hw
        omega
      · have e3 : (k / 128 * 128 + t * 8 + i) / 8 % 16 = t := by omega
        have e4 : (k / 128 * 128 + t * 8 + i) % 8 = i := by omega
        have := hC' (k / 128 * 128 + t * 8 + i) (k / 128) (by omega) (by omega) (Nat.le_refl _) (by rw [e3]; exact hw)
        rw [e3, e4, e2] at this
        omega
  · intro j n hj hj2 hn hw
    by_cases z : (k + 1) / 128 = k / 128
    · rw [z] at hj hn
      exact hC' j n hj hj2 hn hw
    · omega
theorem nd_V_D {f : Nat → Nat → Nat} {s0 : Nat} (h0 : s0 < 16) {e : Nat → Nat} (h : nd_V f s0 2048 e) : nd_D f s0 e := by
  obtain ⟨hA, hB, _⟩ := h
  have hB : ∀ s n, s < 16 → n ≤ 16 → nd_W f s0 n s = true → e s ≤ n := hB
  intro t ht
  have h15 : e t < 99 → e t < 16 := by
    intro z
    rcases hA t ht with a | ⟨a, a2⟩
    · omega
    · have := hB t 15 ht (by omega) (nd_W_15 h0 ht a2)
      omega
  refine ⟨?_, ?_⟩
  · intro m hm
    constructor
    · intro z
      rcases hA t ht with a | ⟨a, a2⟩
      · omega
      · exact nd_W_up z a2
    · intro z
      exact hB t m ht (by omega) z
  · rcases hA t ht with a | ⟨a, a2⟩
    · exact Or.inr a
    · exact Or.inl (h15 a)
/-! the component's levels: round n, states below s done -/
def nd_Q (f : Nat → Nat → Nat) (s0 n s : Nat) (e : Nat → Nat) : Prop :=
  (∀ t m, t < 16 → m < n → (e t ≤ m ↔ nd_W f s0 m t = true)) ∧
  (∀ t, t < 16 → e t < n ∨ e t = 99 ∨ (e t = n ∧ nd_W f s0 n t = true)) ∧
  (∀ t i, t < s → t < 16 → i < 8 → e t = n - 1 → e (f t i) ≤ n)
theorem nd_Q_0 {f : Nat → Nat → Nat} {s0 : Nat} : nd_Q f s0 1 0 (fun s => if s = s0 then 0 else 99) := by
  refine ⟨?_, ?_, ?_⟩
  · intro t m _ hm
    have : m = 0 := by omega
    subst this
    dsimp only
    constructor
    · intro z
      split at z
      · rename_i h; exact decide_eq_true h
      · omega
    · intro z
      rw [if_pos (of_decide_eq_true z)]
      exact Nat.le_refl 0
  · intro t _
    dsimp only
    split
    · exact Or.inl (by omega)
    · exact Or.inr (Or.inl rfl)
  · intro t i ht
    omega
/-- one state's heirs: e' differs from e in heirs without a distance alone -/
theorem nd_Q_s {f : Nat → Nat → Nat} {s0 n s : Nat} (hn : 1 ≤ n) (hn2 : n < 16) (hs : s < 16) {e e' : Nat → Nat} (h : nd_Q f s0 n s e)
    (h1 : e s = n - 1 → ∀ t, t < 16 → e' t = if nd_any (fun i => decide (f s i = t)) 8 = true ∧ e t = 99 then n else e t)
    (h2 : e s ≠ n - 1 → ∀ t, t < 16 → e' t = e t) (hf : nd_F f) : nd_Q f s0 n (s + 1) e' := by
  obtain ⟨hA, hB, hC⟩ := h
  by_cases z : e s = n - 1
  · have h1 := h1 z
    clear h2
    have hw : nd_W f s0 (n - 1) s = true := (hA s (n - 1) hs (by omega)).mp (by omega)
    refine ⟨?_, ?_, ?_⟩
    · intro t m ht hm
      rw [h1 t ht, ← hA t m ht hm]
      split
      · omega
      · exact Iff.rfl
    · intro t ht
      rw [h1 t ht]
      split
      · rename_i hh
        obtain ⟨i, hi, z2⟩ := nd_any_iff.mp hh.1
        refine Or.inr (Or.inr ⟨rfl, ?_⟩)
        obtain ⟨d, rfl⟩ : ∃ d, n = d + 1 := ⟨n - 1, by omega⟩
        exact nd_W_s.mpr (Or.inr ⟨s, i, hs, hi, hw, of_decide_eq_true z2⟩)
      · exact hB t ht
    · intro t i ht ht2 hi z2
      have hto := hf t i ht2 hi
      have ez : e t = n - 1 := by
        rw [h1 t ht2] at z2
        split at z2
        · omega
        · exact z2
      rw [h1 _ hto]
      split
      · exact Nat.le_refl _
      · rename_i hh
        by_cases zt : t = s
        · subst zt
          have hany : nd_any (fun j => decide (f t j = f t i)) 8 = true := nd_any_iff.mpr ⟨i, hi, decide_eq_true rfl⟩
          rcases hB _ hto with b | b | b
          · omega
          · exact absurd ⟨hany, b⟩ hh
          · omega
        · exact hC t i (by omega) ht2 hi ez
  · have h2 := h2 z
    clear h1
    refine ⟨?_, ?_, ?_⟩
    · intro t m ht hm
      rw [h2 t ht]; exact hA t m ht hm
    · intro t ht
      rw [h2 t ht]; exact hB t ht
    · intro t i ht ht2 hi z2
      rw [h2 t ht2] at z2
      rw [h2 _ (hf t i ht2 hi)]
      by_cases zt : t = s
      · subst zt; exact absurd z2 z
      · exact hC t i (by omega) ht2 hi z2
theorem nd_Q_n {f : Nat → Nat → Nat} {s0 n : Nat} (hn : 1 ≤ n) (hn2 : n < 16) {e : Nat → Nat} (h : nd_Q f s0 n 16 e) : nd_Q f s0 (n + 1) 0 e := by
  obtain ⟨hA, hB, hC⟩ := h
  obtain ⟨d, rfl⟩ : ∃ d, n = d + 1 := ⟨n - 1, by omega⟩
  refine ⟨?_, ?_, ?_⟩
  · intro t m ht hm
    by_cases z : m < d + 1
    · exact hA t m ht z
    · have e2 : m = d + 1 := by omega
      subst e2
      constructor
      · intro z2
        rcases hB t ht with b | b | b
        · exact nd_W_up (Nat.le_succ d) ((hA t d ht (by omega)).mp (by omega))
        · omega
        · exact b.2
      · intro z2
        rcases nd_W_s.mp z2 with hw | ⟨s, i, hs, hi, hw, rfl⟩
        · have := (hA t d ht (by omega)).mpr hw
          omega
        · have h3 := (hA s d hs (by omega)).mpr hw
          by_cases z3 : e s = d
          · exact hC s i hs hs hi (by omega)
          · obtain ⟨c, rfl⟩ : ∃ c, d = c + 1 := ⟨d - 1, by omega⟩
            have hw2 := (hA s c hs (by omega)).mp (by omega)
            have := (hA (f s i) (c + 1) ht (by omega)).mpr (nd_W_s.mpr (Or.inr ⟨s, i, hs, hi, hw2, rfl⟩))
            omega
  · intro t ht
    rcases hB t ht with b | b | b
    · exact Or.inl (by omega)
    · exact Or.inr (Or.inl b)
    · exact Or.inl (by omega)
  · intro t i ht
    omega
/-- at the head of round n -/
def nd_H (f : Nat → Nat → Nat) (s0 n : Nat) (e : Nat → Nat) : Prop := nd_Q f s0 n 0 e ∧ ∀ t, t < 16 → e t < n ∨ e t = 99
theorem nd_H_0 {f : Nat → Nat → Nat} {s0 : Nat} : nd_H f s0 1 (fun s => if s = s0 then 0 else 99) := by
  refine ⟨nd_Q_0, ?_⟩
  intro t _
  dsimp only
  split
  · exact Or.inl (by omega)
  · exact Or.inr rfl
theorem nd_H_s {f : Nat → Nat → Nat} {s0 n : Nat} (hn : 1 ≤ n) (hn2 : n < 16) {e : Nat → Nat} (h : nd_Q f s0 n 16 e) : nd_H f s0 (n + 1) e := by
  refine ⟨nd_Q_n hn hn2 h, ?_⟩
  intro t ht
  rcases h.2.1 t ht with b | b | b
  · exact Or.inl (by omega)
  · exact Or.inr b
  · exact Or.inl (by omega)
theorem nd_H_D {f : Nat → Nat → Nat} {s0 : Nat} {e : Nat → Nat} (h : nd_H f s0 16 e) : nd_D f s0 e :=
  fun t ht => ⟨fun m hm => h.1.1 t m ht hm, h.2 t ht⟩
/-! states that look alike after r STEPS -/
def nd_E (f : Nat → Nat → Nat) (g : Nat → Nat → Bool) : Nat → Nat → Nat → Bool
  | 0 => fun s t => nd_all (fun i => g s i == g t i) 8
  | r + 1 => fun s t => nd_E f g r s t && nd_all (fun i => nd_E f g r (f s i) (f t i)) 8
theorem nd_E_0 {f : Nat → Nat → Nat} {g : Nat → Nat → Bool} {s t : Nat} : nd_E f g 0 s t = true ↔ ∀ i, i < 8 → g s i = g t i := by
  rw [nd_E, nd_all_iff]
  constructor
  · intro h i hi; exact eq_of_beq (h i hi)
  · intro h i hi; rw [h i hi]; exact BEq.rfl
theorem nd_E_s {f : Nat → Nat → Nat} {g : Nat → Nat → Bool} {r s t : Nat} : nd_E f g (r + 1) s t = true ↔ nd_E f g r s t = true ∧ ∀ i, i < 8 → nd_E f g r (f s i) (f t i) = true := by
  rw [nd_E, Bool.and_eq_true, nd_all_iff]
theorem nd_E_r {f : Nat → Nat → Nat} {g : Nat → Nat → Bool} : ∀ r s, nd_E f g r s s = true := by
  intro r
  induction r with
  | zero => intro s; exact nd_E_0.mpr (fun _ _ => rfl)
  | succ r ih => intro s; exact nd_E_s.mpr ⟨ih s, fun i _ => ih _⟩
theorem nd_E_y {f : Nat → Nat → Nat} {g : Nat → Nat → Bool} : ∀ r s t, nd_E f g r s t = true → nd_E f g r t s = true := by
  intro r
  induction r with
  | zero => intro s t h; exact nd_E_0.mpr (fun i hi => (nd_E_0.mp h i hi).symm)
  | succ r ih =>
    intro s t h
    have h := nd_E_s.mp h
    exact nd_E_s.mpr ⟨ih _ _ h.1, fun i hi => ih _ _ (h.2 i hi)⟩
theorem nd_E_yb {f : Nat → Nat → Nat} {g : Nat → Nat → Bool} (r s t : Nat) : nd_E f g r s t = nd_E f g r t s := by
  cases h : nd_E f g r s t
  · cases h2 : nd_E f g r t s
    · rfl
    · rw [nd_E_y _ _ _ h2] at h; cases h
  · exact (nd_E_y _ _ _ h).symm
theorem nd_E_t {f : Nat → Nat → Nat} {g : Nat → Nat → Bool} : ∀ r s t u, nd_E f g r s t = true → nd_E f g r t u = true → nd_E f g r s u = true := by
  intro r
  induction r with
  | zero => intro s t u h h2; exact nd_E_0.mpr (fun i hi => (nd_E_0.mp h i hi).trans (nd_E_0.mp h2 i hi))
  | succ r ih =>
    intro s t u h h2
    have h := nd_E_s.mp h
    have h2 := nd_E_s.mp h2
    exact nd_E_s.mpr ⟨ih _ _ _ h.1 h2.1, fun i hi => ih _ _ _ (h.2 i hi) (h2.2 i hi)⟩
theorem nd_E_dn {f : Nat → Nat → Nat} {g : Nat → Nat → Bool} {r s t : Nat} (h : nd_E f g (r + 1) s t = true) : nd_E f g r s t = true := (nd_E_s.mp h).1
theorem nd_E_le {f : Nat → Nat → Nat} {g : Nat → Nat → Bool} {s t : Nat} : ∀ {r q : Nat}, r ≤ q → nd_E f g q s t = true → nd_E f g r s t = true := by
  intro r q h
  induction h with
  | refl => exact id
  | step _ ih => exact fun z => ih (nd_E_dn z)
/-- the least state that looks like s -/
def nd_lk (f : Nat → Nat → Nat) (g : Nat → Nat → Bool) (r s : Nat) : Nat := nd_fst (fun t => nd_E f g r t s) s
theorem nd_lk_le {f : Nat → Nat → Nat} {g : Nat → Nat → Bool} (r s : Nat) : nd_lk f g r s ≤ s := nd_fst_le _ _
theorem nd_lk_E {f : Nat → Nat → Nat} {g : Nat → Nat → Bool} (r s : Nat) : nd_E f g r (nd_lk f g r s) s = true := by
  rcases Nat.lt_or_ge (nd_lk f g r s) s with h | h
  · exact nd_fst_yes _ _ h
  · have e : nd_lk f g r s = s := Nat.le_antisymm (nd_lk_le r s) h
    rw [e]; exact nd_E_r r s
theorem nd_lk_min {f : Nat → Nat → Nat} {g : Nat → Nat → Bool} {r s t : Nat} (h : nd_E f g r t s = true) : nd_lk f g r s ≤ t := by
  rcases Nat.lt_or_ge t s with z | z
  · exact nd_fst_lt z h
  · exact Nat.le_trans (nd_lk_le r s) z
theorem nd_lk_eq {f : Nat → Nat → Nat} {g : Nat → Nat → Bool} {r s t : Nat} : nd_lk f g r s = nd_lk f g r t ↔ nd_E f g r s t = true := by
  constructor
  · intro h
    have h1 := nd_lk_E (f := f) (g := g) r s
    have h2 := nd_lk_E (f := f) (g := g) r t
    rw [h] at h1
    exact nd_E_t _ _ _ _ (nd_E_y _ _ _ h1) h2
  · intro h
    have h1 : nd_lk f g r s ≤ nd_lk f g r t := nd_lk_min (nd_E_t _ _ _ _ (nd_lk_E r t) (nd_E_y _ _ _ h))
    have h2 : nd_lk f g r t ≤ nd_lk f g r s := nd_lk_min (nd_E_t _ _ _ _ (nd_lk_E r s) h)
    omega
/-- the next look by the looks: what the component reckons -/
theorem nd_lk_s {f : Nat → Nat → Nat} {g : Nat → Nat → Bool} {r s : Nat} : nd_fst (fun t => nd_all (fun i => nd_lk f g r (f t i) == nd_lk f g r (f s i)) 8 && (nd_lk f g r t == nd_lk f g r s)) s = nd_lk f g (r + 1) s := by
  refine nd_fst_congr ?_
  intro t _
  rw [Bool.eq_iff_iff, Bool.and_eq_true, nd_all_iff, nd_E_s, beq_iff_eq, nd_lk_eq]
  constructor
  · rintro ⟨h1, h2⟩
    exact ⟨h2, fun i hi => nd_lk_eq.mp (eq_of_beq (h1 i hi))⟩
  · rintro ⟨h1, h2⟩
    exact ⟨fun i hi => beq_iff_eq.mpr (nd_lk_eq.mpr (h2 i hi)), h1⟩
theorem nd_E_stab {f : Nat → Nat → Nat} (hf : nd_F f) {g : Nat → Nat → Bool} : ∀ r s t, s < 16 → t < 16 → nd_E f g 16 s t = true → nd_E f g r s t = true := by
  have same : ∀ r, (∀ s, s < 16 → decide (nd_lk f g (r + 1) s = s) = decide (nd_lk f g r s = s)) → ∀ s t, s < 16 → t < 16 → nd_E f g r s t = true → nd_E f g (r + 1) s t = true := by
    intro r h
    have hl : ∀ s, s < 16 → nd_lk f g (r + 1) s = nd_lk f g r s := by
      intro s hs
      have a1 := nd_lk_E (f := f) (g := g) (r + 1) s
      have a2 : nd_lk f g (r + 1) (nd_lk f g (r + 1) s) = nd_lk f g (r + 1) s := nd_lk_eq.mpr a1
      have hm : nd_lk f g (r + 1) s < 16 := Nat.lt_of_le_of_lt (nd_lk_le _ _) hs
      have a3 := h _ hm
      rw [decide_eq_true a2] at a3
      have a4 := of_decide_eq_true a3.symm
      rw [← a4]
      exact nd_lk_eq.mpr (nd_E_dn a1)
    intro s t hs ht z
    refine nd_lk_eq.mp ?_
    rw [hl s hs, hl t ht]
    exact nd_lk_eq.mpr z
  have keep : ∀ r, (∀ s t, s < 16 → t < 16 → nd_E f g r s t = true → nd_E f g (r + 1) s t = true) → ∀ s t, s < 16 → t < 16 → nd_E f g (r + 1) s t = true → nd_E f g (r + 2) s t = true := by
    intro r h s t hs ht z
    refine nd_E_s.mpr ⟨z, fun i hi => ?_⟩
    exact h _ _ (hf s i hs hi) (hf t i ht hi) ((nd_E_s.mp z).2 i hi)
  have back : ∀ r, (∀ s t, s < 16 → t < 16 → nd_E f g r s t = true → nd_E f g (r + 1) s t = true) → ∀ s, s < 16 → decide (nd_lk f g (r + 1) s = s) = decide (nd_lk f g r s = s) := by
    intro r h s hs
    have hl : nd_lk f g (r + 1) s = nd_lk f g r s := by
      refine nd_fst_congr ?_
      intro t ht
      rw [Bool.eq_iff_iff]
      exact ⟨nd_E_dn, h t s (by omega) hs⟩
    rw [hl]
  have st := nd_stab (fun r s => decide (nd_lk f g r s = s)) 0 ?_ ?_ (Nat.zero_le _) 16 (by omega)
  · have h16 := same 16 st
    have all : ∀ d s t, s < 16 → t < 16 → nd_E f g (16 + d) s t = true → nd_E f g (16 + d + 1) s t = true := by
      intro d
      induction d with
      | zero => exact h16
      | succ d ih => exact keep _ ih
    intro r s t hs ht h
    rcases Nat.lt_or_ge 16 r with z | z
    · obtain ⟨d, rfl⟩ : ∃ d, r = 16 + d := ⟨r - 16, by omega⟩
      clear z
      induction d with
      | zero => exact h
      | succ d ih => exact all d s t hs ht ih
    · exact nd_E_le z h
  · intro r s hs h
    have h := of_decide_eq_true h
    refine decide_eq_true ?_
    have h1 : nd_lk f g r s ≤ nd_lk f g (r + 1) s := nd_lk_min (nd_E_dn (nd_lk_E (r + 1) s))
    have h2 : nd_lk f g (r + 1) s ≤ s := nd_lk_le _ _
    omega
  · intro r h
    exact back (r + 1) (keep r (same r h))
/-! the reference's pairs: apart in place -/
def nd_A (f : Nat → Nat → Nat) (g : Nat → Nat → Bool) (r k : Nat) (a : Nat → Bool) : Prop :=
  (∀ j, j < 256 → a j = true → ∃ q, nd_E f g q (j / 16) (j % 16) = false) ∧
  (∀ j, j < 256 → nd_E f g r (j / 16) (j % 16) = false → a j = true) ∧
  (∀ j, j < k → j < 256 → nd_E f g (r + 1) (j / 16) (j % 16) = false → a j = true)
theorem nd_A_0 {f : Nat → Nat → Nat} {g : Nat → Nat → Bool} {a : Nat → Bool} (h : ∀ j, j < 256 → a j = !nd_E f g 0 (j / 16) (j % 16)) : nd_A f g 0 0 a := by
  refine ⟨?_, ?_, ?_⟩
  · intro j hj z
    rw [h j hj] at z
    exact ⟨0, by simpa using z⟩
  · intro j hj z
    rw [h j hj, z]; rfl
  · intro j hj
    omega
theorem nd_A_s {f : Nat → Nat → Nat} (hf : nd_F f) {g : Nat → Nat → Bool} {r k : Nat} (hk : k < 256) {a a' : Nat → Bool} (h : nd_A f g r k a)
    (h1 : a' k = (a k || nd_any (fun i => a (16 * f (k / 16) i + f (k % 16) i)) 8)) (h2 : ∀ j, j ≠ k → a' j = a j) : nd_A f g r (k + 1) a' := by
  obtain ⟨hA, hB, hC⟩ := h
  have up : ∀ j, a j = true → a' j = true := by
    intro j z
    by_cases e : j = k
    · subst e; rw [h1, z, Bool.true_or]
    · rw [h2 j e, z]
  refine ⟨?_, ?_, ?_⟩
  · intro j hj z
    by_cases e : j = k
    · subst e
      rw [h1, Bool.or_eq_true] at z
      rcases z with z | z
      · exact hA j hj z
      · obtain ⟨i, hi, z⟩ := nd_any_iff.mp z
        have b1 : f (j / 16) i < 16 := hf _ _ (by omega) hi
        have b2 : f (j % 16) i < 16 := hf _ _ (by omega) hi
        obtain ⟨q, hq⟩ := hA _ (by omega) z
        rw [show (16 * f (j / 16) i + f (j % 16) i) / 16 = f (j / 16) i from by omega, show (16 * f (j / 16) i + f (j % 16) i) % 16 = f (j % 16) i from by omega] at hq
        refine ⟨q + 1, ?_⟩
        cases w : nd_E f g (q + 1) (j / 16) (j % 16)
        · rfl
        · rw [(nd_E_s.mp w).2 i hi] at hq; cases hq
    · rw [h2 j e] at z
      exact hA j hj z
  · intro j hj z
    exact up j (hB j hj z)
  · intro j hj hj2 z
    by_cases e : j = k
    · subst e
      rw [h1]
      cases w : nd_E f g r (j / 16) (j % 16)
      · rw [hB j hj2 w, Bool.true_or]
      · rw [Bool.or_eq_true]
        refine Or.inr (nd_any_iff.mpr ?_)
        have z : (nd_E f g r (j / 16) (j % 16) && nd_all (fun i => nd_E f g r (f (j / 16) i) (f (j % 16) i)) 8) = false := z
        rw [w, Bool.true_and] at z
        refine Classical.byContradiction fun hn => ?_
        have : nd_all (fun i => nd_E f g r (f (j / 16) i) (f (j % 16) i)) 8 = true := by
          refine nd_all_iff.mpr fun i hi => ?_
          have b1 : f (j / 16) i < 16 := hf _ _ (by omega) hi
          have b2 : f (j % 16) i < 16 := hf _ _ (by omega) hi
          cases w2 : nd_E f g r (f (j / 16) i) (f (j % 16) i)
          · refine absurd ⟨i, hi, hB (16 * f (j / 16) i + f (j % 16) i) (by omega) ?_⟩ hn
            rw [show (16 * f (j / 16) i + f (j % 16) i) / 16 = f (j / 16) i from by omega, show (16 * f (j / 16) i + f (j % 16) i) % 16 = f (j % 16) i from by omega]
            exact w2
          · rfl
        rw [this] at z; cases z
    · exact up j (hC j (by omega) hj2 z)
theorem nd_A_n {f : Nat → Nat → Nat} {g : Nat → Nat → Bool} {r : Nat} {a : Nat → Bool} (h : nd_A f g r 256 a) : nd_A f g (r + 1) 0 a :=
  ⟨h.1, fun j hj z => h.2.2 j hj hj z, fun j hj => by omega⟩
theorem nd_A_D {f : Nat → Nat → Nat} (hf : nd_F f) {g : Nat → Nat → Bool} {a : Nat → Bool} (h : nd_A f g 16 0 a) : ∀ j, j < 256 → a j = !nd_E f g 16 (j / 16) (j % 16) := by
  intro j hj
  cases w : nd_E f g 16 (j / 16) (j % 16)
  · rw [h.2.1 j hj w]; rfl
  · cases z : a j
    · rfl
    · obtain ⟨q, hq⟩ := h.1 j hj z
      rw [nd_E_stab hf q _ _ (by omega) (by omega) w] at hq
      cases hq
/-- the reference's least state -/
theorem nd_lk_Y {f : Nat → Nat → Nat} {g : Nat → Nat → Bool} {r s x : Nat} (h1 : nd_E f g r s x = true) (h2 : ∀ t, t < x → nd_E f g r s t = false) : x = nd_lk f g r s := by
  have a1 : nd_lk f g r s ≤ x := nd_lk_min (nd_E_y _ _ _ h1)
  rcases Nat.lt_or_ge (nd_lk f g r s) x with z | z
  · have := h2 _ z
    rw [nd_E_y _ _ _ (nd_lk_E r s)] at this
    cases this
  · omega
