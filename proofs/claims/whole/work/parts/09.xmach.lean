/-! the component: the machine -/
section NDX
variable {xn xr xm xc xl : Int32} {xT xM xN xI xP xC xH xL xD xR xK xF : Nat → Int32}
theorem nd_m_t {p : Nat → Bool} {n : Nat} (h : p n = true) : nd_m p (n + 1) = nd_m p n ||| 2 ^ n := by rw [nd_m, h, if_pos rfl]
theorem nd_m_f {p : Nat → Bool} {n : Nat} (h : p n = false) : nd_m p (n + 1) = nd_m p n := by rw [nd_m, h, if_neg Bool.false_ne_true, Nat.or_zero]
theorem nd_m_in {p : Nat → Bool} {n s : Nat} (hs : s < n) : (nd_m p n).testBit s = p s := by rw [nd_m_bit, decide_eq_true hs, Bool.true_and]
theorem nd_orb {m k : Nat} (hk : k < 31) : nI m ||| (1 : Int32) <<< (nI k &&& 31) = nI (m ||| 2 ^ k) := by rw [nd_shl k hk, nd_or]
def nd_nx (N : Nat → Nat → Bool) (s i : Nat) : Nat := nd_m (fun k => N k (s * 8 + i)) 4
theorem nd_nxl (N : Nat → Nat → Bool) (s i : Nat) : nd_nx N s i < 16 := nd_m_lt _ 4
theorem nd_nxF (N : Nat → Nat → Bool) : nd_F (nd_nx N) := fun s i _ _ => nd_nxl N s i
theorem xe_suc {N : Nat → Nat → Bool} {s i : Nat} (hN : nd_T xN N 4) (hs : s < 16) (hi : i < 8) {post : Int32 → Prop} (hp : post (nI (nd_nx N s i))) : wpX_successor post (xn, xr, xm, xc, xl, xT, xM, xN, xI, xP, xC, xH, xL, xD, xR, xK, xF) (nI s) (nI i) := by
  refine nm_r (nd_ix8 s i) ?_
  refine loop_0 (fun m k r => wX_successor_13 post (nI (s * 8 + i)) xn xr xm xc xl xT xM xN xI xP xC xH xL xD xR xK xF m r (nI k)) (fun k r => r = nI (nd_m (fun k => N k (s * 8 + i)) k)) 4 0 rfl ?_ ?_
  · rintro m r rfl
    exact br_t nd_4 hp
  · rintro m k r hk rfl ih
    refine br_f (nd_n4 hk) ⟨by rw [nd_ix]; exact vp_in_nI (by omega) (by omega), ?_⟩
    rw [nd_ix, nI_clamp (show k * 128 + (s * 8 + i) < 2 ^ 31 by omega), hN k (s * 8 + i) hk (by omega)]
    refine nd_br (fun z => nm_r (nI_1 k) (ih _ ?_)) (fun z => nm_r (nd_orb (by omega)) (nm_r (nI_1 k) (ih _ ?_)))
    · rw [nd_m_f (p := fun k => N k (s * 8 + i)) z]
    · rw [nd_m_t (p := fun k => N k (s * 8 + i)) z]
/-- the heirs of s -/
def nd_hr (f : Nat → Nat → Nat) (s t : Nat) : Bool := nd_any (fun i => decide (f s i = t)) 8
theorem nd_m_ins {p : Nat → Bool} {n x : Nat} (hx : x < n) : nd_m p n ||| 2 ^ x = nd_m (fun t => p t || decide (x = t)) n := by
  apply Nat.eq_of_testBit_eq
  intro i
  rw [Nat.testBit_or, nd_m_bit, nd_m_bit, Nat.testBit_two_pow]
  by_cases h : x = i
  · subst h
    rw [decide_eq_true hx, decide_eq_true rfl, Bool.or_true, Bool.or_true, Bool.true_and]
  · rw [decide_eq_false h, Bool.or_false, Bool.or_false]
theorem nd_hr_some {f : Nat → Nat → Nat} {p : Nat → Bool} {s : Nat} (hf : nd_F f) (hs : s < 16) : (nd_m (fun t => nd_hr f s t && p t) 16 = 0) ↔ nd_ld f false p s = false := by
  rw [nd_m_zero, nd_ld, if_neg Bool.false_ne_true]
  constructor
  · intro h
    refine nd_any_f fun i hi => ?_
    have h1 := h _ (hf s i hs hi)
    rw [show nd_hr f s (f s i) = true from nd_any_iff.mpr ⟨i, hi, decide_eq_true rfl⟩, Bool.true_and] at h1
    exact h1
  · intro h t ht
    cases z : nd_hr f s t
    · rfl
    · obtain ⟨i, hi, e⟩ := nd_any_iff.mp z
      rw [Bool.true_and]
      cases w : p t
      · rfl
      · rw [nd_any_iff.mpr ⟨i, hi, by rw [of_decide_eq_true e]; exact w⟩] at h
        cases h
theorem nd_hr_all {f : Nat → Nat → Nat} {p : Nat → Bool} {s : Nat} (hf : nd_F f) (hs : s < 16) : (nd_m (fun t => nd_hr f s t && p t) 16 = nd_m (nd_hr f s) 16) ↔ nd_ld f true p s = true := by
  rw [nd_ld, if_pos rfl, nd_all_iff]
  constructor
  · intro h i hi
    have h1 := nd_m_inj h _ (hf s i hs hi)
    rw [show nd_hr f s (f s i) = true from nd_any_iff.mpr ⟨i, hi, decide_eq_true rfl⟩, Bool.true_and] at h1
    exact h1
  · intro h
    refine nd_m_congr fun t _ => ?_
    cases z : nd_hr f s t
    · rfl
    · obtain ⟨i, hi, e⟩ := nd_any_iff.mp z
      rw [Bool.true_and, ← of_decide_eq_true e]
      exact h i hi
def nd_Hr (t : Nat → Int32) (f : Nat → Nat → Nat) (n : Nat) : Prop := ∀ s, s < n → t s = nI (nd_m (nd_hr f s) 16)
theorem xe_heirs {N : Nat → Nat → Bool} (hN : nd_T xN N 4) {post : SX → Prop} (h : ∀ t : Nat → Int32, nd_Hr t (nd_nx N) 16 → post (xn, xr, xm, xc, xl, xT, xM, xN, xI, xP, xC, t, xL, xD, xR, xK, xF)) : wpX_findHeirs post (xn, xr, xm, xc, xl, xT, xM, xN, xI, xP, xC, xH, xL, xD, xR, xK, xF) := by
  refine loop_0 (fun m s t => wX_findHeirs_2 post xn xr xm xc xl m (nI s) xT xM xN xI xP xC t xL xD xR xK xF) (fun s t => nd_Hr t (nd_nx N) s) 16 xH (fun d hd => absurd hd (by omega)) ?_ ?_
  · intro m t ht
    exact br_t nd_16 (h t ht)
  · intro m s t hs ht ih
    refine br_f (nd_n16 hs) ⟨vp_in_nI hs (by omega), nm_r (e' := upd t s 0) (by rw [nI_clamp (by omega)]) ?_⟩
    refine loop_0 (fun m' i w => wX_findHeirs_17 post (wX_findHeirs_2 post xn xr xm xc xl m) (nI s) xn xr xm xc xl m' (nI i) xT xM xN xI xP xC w xL xD xR xK xF) (fun i w => w s = nI (nd_m (fun t => nd_any (fun i => decide (nd_nx N s i = t)) i) 16) ∧ ∀ j, j ≠ s → w j = t j) 8 _ ⟨?_, fun j hj => pk_un hj⟩ ?_ ?_
    · rw [pk_us]
      have e : nd_m (fun t => nd_any (fun i => decide (nd_nx N s i = t)) 0) 16 = 0 := nd_m_zero.mpr (fun _ _ => rfl)
      rw [e]; rfl
    · rintro m' w ⟨h1, h2⟩
      refine br_t nd_8 (nm_r (nI_1 s) (ih w ?_))
      refine nd_lts ?_ h1
      intro j hj
      rw [h2 j (by omega)]; exact ht j hj
    · rintro m' i w hi ⟨h1, h2⟩ ih2
      refine br_f (nd_n8 hi) ⟨vp_in_nI hs (by omega), xe_suc hN hs hi ⟨vp_in_nI hs (by omega), ?_⟩⟩
      have hl := nd_nxl N s i
      refine nm_r (e' := upd w s (nI (nd_m (fun t => nd_any (fun i => decide (nd_nx N s i = t)) (i + 1)) 16))) ?_ (nm_r (nI_1 i) (ih2 _ ⟨pk_us, ?_⟩))
      · rw [nI_clamp (show s < 2 ^ 31 by omega), h1, nd_orb (by omega), nd_m_ins hl]
        rfl
      · intro j hj
        rw [pk_un hj]; exact h2 j hj
def nd_so (T : Nat → Bool) (s : Nat) : Bool := nd_any (fun i => T (s * 8 + i)) 8
theorem xe_set {T : Nat → Nat → Bool} {n a : Nat} (hT : nd_T xT T n) (hn : n ≤ 32) (ha : a < n) {post : Int32 → Prop} (hp : post (nI (nd_m (nd_so (T a)) 16))) : wpX_setOf post (xn, xr, xm, xc, xl, xT, xM, xN, xI, xP, xC, xH, xL, xD, xR, xK, xF) (nI a) := by
  refine loop_0 (fun m s r => wX_setOf_4 post (nI a) xn xr xm xc xl xT xM xN xI xP xC xH xL xD xR xK xF m r (nI s)) (fun s r => r = nI (nd_m (nd_so (T a)) s)) 16 0 rfl ?_ ?_
  · rintro m r rfl
    exact br_t nd_16 hp
  · rintro m s r hs rfl ih
    refine br_f (nd_n16 hs) ?_
    refine loop_0 (fun m' i r => wX_setOf_13 post (wX_setOf_4 post (nI a) xn xr xm xc xl xT xM xN xI xP xC xH xL xD xR xK xF m) (nI a) (nI s) xn xr xm xc xl xT xM xN xI xP xC xH xL xD xR xK xF m' r (nI i)) (fun i r => r = nI (nd_m (nd_so (T a)) s ||| (if nd_any (fun i => T a (s * 8 + i)) i then 2 ^ s else 0))) 8 _ (by rw [nd_any, if_neg Bool.false_ne_true, Nat.or_zero]) ?_ ?_
    · rintro m' r rfl
      exact br_t nd_8 (nm_r (nI_1 s) (ih _ rfl))
    · rintro m' i r hi rfl ih2
      refine br_f (nd_n8 hi) (xa_TI hT hn ha hs hi ?_)
      refine nd_br (fun z => nm_r (nI_1 i) (ih2 _ ?_)) (fun z => nm_r (nd_orb (by omega)) (nm_r (nI_1 i) (ih2 _ ?_)))
      · rw [nd_any, z, Bool.or_false]
      · rw [nd_any, z, Bool.or_true, if_pos rfl, Nat.or_assoc]
        split
        · rw [Nat.or_self]
        · rw [Nat.zero_or]
theorem xe_lead {f : Nat → Nat → Nat} {p : Nat → Bool} {all : Bool} (hf : nd_F f) (hH : nd_Hr xH f 16) {post : Int32 → Prop} (hp : post (nI (nd_m (nd_ld f all p) 16))) : wpX_leadingInto post (xn, xr, xm, xc, xl, xT, xM, xN, xI, xP, xC, xH, xL, xD, xR, xK, xF) (nI (nd_m p 16)) (nd_b all) := by
  refine loop_0 (fun m s r => wX_leadingInto_5 post (nI (nd_m p 16)) (nd_b all) xn xr xm xc xl xT xM xN xI xP xC xH xL xD xR xK xF m r (nI s)) (fun s r => r = nI (nd_m (nd_ld f all p) s)) 16 0 rfl ?_ ?_
  · rintro m r rfl
    exact br_t nd_16 hp
  · rintro m s r hs rfl ih
    have h1 := nd_m16 (nd_hr f s)
    have h2 := nd_m16 (fun t => nd_hr f s t && p t)
    have yes : nd_ld f all p s = true → wX_leadingInto_47 post (wX_leadingInto_5 post (nI (nd_m p 16)) (nd_b all) xn xr xm xc xl xT xM xN xI xP xC xH xL xD xR xK xF m) (nI (nd_m p 16)) (nd_b all) (nI (nd_m (nd_ld f all p) s)) (nI s) xn xr xm xc xl xT xM xN xI xP xC xH xL xD xR xK xF := by
      intro z
      refine nm_r (nd_orb (by omega)) (nm_r (nI_1 s) (ih _ ?_))
      rw [nd_m_t z]
    have no : nd_ld f all p s = false → ∀ y, y = nI s + 1 → wX_leadingInto_5 post (nI (nd_m p 16)) (nd_b all) xn xr xm xc xl xT xM xN xI xP xC xH xL xD xR xK xF m (nI (nd_m (nd_ld f all p) s)) y := by
      intro z
      refine nm_r (nI_1 s) (ih _ ?_)
      rw [nd_m_f z]
    refine br_f (nd_n16 hs) ⟨vp_in_nI hs (by omega), ?_⟩
    rw [nI_clamp (show s < 2 ^ 31 by omega), hH s hs]
    refine nm_r (e' := nI (nd_m (fun t => nd_hr f s t && p t) 16)) (by rw [nx_and, nd_m_and]) ?_
    cases all
    · refine br_t rfl (pk_eq (nd_m (fun t => nd_hr f s t && p t) 16) 0 (fun z => no ((nd_hr_some hf hs).mp z)) (fun z => yes ?_))
      cases w : nd_ld f false p s
      · exact absurd ((nd_hr_some hf hs).mpr w) z
      · rfl
    · refine br_f (by decide) ⟨vp_in_nI hs (by omega), ?_⟩
      refine pk_eq (nd_m (fun t => nd_hr f s t && p t) 16) (nd_m (nd_hr f s) 16) (fun z => yes ((nd_hr_all hf hs).mp z)) (fun z => no ?_)
      cases w : nd_ld f true p s
      · rfl
      · exact absurd ((nd_hr_all hf hs).mpr w) z
theorem xe_layers {T : Nat → Nat → Bool} {f : Nat → Nat → Nat} {n a : Nat} (hT : nd_T xT T n) (hn : n ≤ 32) (ha : a < n) (hf : nd_F f) (hH : nd_Hr xH f 16) {post : SX → Prop}
    (h : ∀ t : Nat → Int32, (∀ k, k < 16 → t k = nI (nd_m (nd_L f (nd_so (T a)) k) 16)) → post (xn, xr, xm, xc, xl, xT, xM, xN, xI, xP, xC, xH, t, xD, xR, xK, xF)) : wpX_findLayers post (xn, xr, xm, xc, xl, xT, xM, xN, xI, xP, xC, xH, xL, xD, xR, xK, xF) (nI a) := by
  refine xe_set hT hn ha ?_
  refine nm_e ?_
  refine pk_loop (fun m k t => wX_findLayers_13 post xn xr xm xc xl m (nI k) xT xM xN xI xP xC xH t xD xR xK xF) (fun k t => 1 ≤ k ∧ ∀ j, j < k → t j = nI (nd_m (nd_L f (nd_so (T a)) j) 16)) 16 1 _ (by omega) ⟨Nat.le_refl _, ?_⟩ ?_ ?_
  · intro j hj
    have e : j = 0 := by omega
    subst e
    exact pk_us
  · rintro m t ⟨_, ht⟩
    exact br_t nd_16 (h t ht)
  · rintro m k t hk ⟨h1, ht⟩ ih
    have e : nI k - 1 = nI (k - 1) := pk_sub (b := 1) h1
    refine br_f (nd_n16 hk) ?_
    rw [e, nI_clamp (show k - 1 < 2 ^ 31 by omega), ht (k - 1) (by omega)]
    refine ⟨vp_in_nI (by omega) (by omega), xe_lead (all := false) hf hH ⟨vp_in_nI hk (by omega), ?_⟩⟩
    refine nm_r (e' := upd t k (nI (nd_m (nd_L f (nd_so (T a)) k) 16))) ?_ (nm_r (nI_1 k) (ih _ ⟨by omega, nd_lts ?_ pk_us⟩))
    · rw [nI_clamp (by omega)]
      obtain ⟨d, rfl⟩ : ∃ d, k = d + 1 := ⟨k - 1, by omega⟩
      rfl
    · intro j hj
      rw [pk_un (by omega)]; exact ht j hj
/-! reach: the row of inputs -/
def nd_ps (f : Nat → Nat → Nat) (g : Nat → Bool) (s0 n : Nat) : Nat → Nat
  | 0 => s0
  | k + 1 => f (nd_ps f g s0 n k) (nd_fst (fun i => nd_L f g (n - 1 - k) (f (nd_ps f g s0 n k) i)) 8)
def nd_row (f : Nat → Nat → Nat) (T : Nat → Bool) (s0 n k : Nat) : Nat :=
  if k < n then nd_fst (fun i => nd_L f (nd_so T) (n - 1 - k) (f (nd_ps f (nd_so T) s0 n k) i)) 8 else nd_fst (fun i => T (nd_ps f (nd_so T) s0 n n * 8 + i)) 8
theorem nd_ps_L {f : Nat → Nat → Nat} {g : Nat → Bool} {s0 n : Nat} (hf : nd_F f) (h0 : s0 < 16) (hL : nd_L f g n s0 = true) : ∀ k, k ≤ n → nd_ps f g s0 n k < 16 ∧ nd_L f g (n - k) (nd_ps f g s0 n k) = true ∧ (k < n → nd_fst (fun i => nd_L f g (n - 1 - k) (f (nd_ps f g s0 n k) i)) 8 < 8) := by
  intro k
  have last : ∀ k, nd_L f g (n - k) (nd_ps f g s0 n k) = true → k < n → nd_fst (fun i => nd_L f g (n - 1 - k) (f (nd_ps f g s0 n k) i)) 8 < 8 := by
    intro k h hk
    obtain ⟨d, hd⟩ : ∃ d, n - k = d + 1 := ⟨n - k - 1, by omega⟩
    have hd2 : n - 1 - k = d := by omega
    rw [hd, nd_L, nd_ld, if_neg Bool.false_ne_true, nd_any_iff] at h
    obtain ⟨i, hi, h⟩ := h
    rw [hd2]
    exact Nat.lt_of_le_of_lt (nd_fst_lt hi h) hi
  induction k with
  | zero => intro _; exact ⟨h0, hL, last 0 hL⟩
  | succ k ih =>
    intro hk
    obtain ⟨h1, h2, h3⟩ := ih (by omega)
    have h4 := h3 (by omega)
    have h5 := nd_fst_yes _ _ h4
    have e : n - (k + 1) = n - 1 - k := by omega
    have h6 : nd_L f g (n - (k + 1)) (nd_ps f g s0 n (k + 1)) = true := by rw [e]; exact h5
    exact ⟨hf _ _ h1 h4, h6, last (k + 1) h6⟩
theorem nd_ps_T {f : Nat → Nat → Nat} {T : Nat → Bool} {s0 n : Nat} (hf : nd_F f) (h0 : s0 < 16) (hL : nd_L f (nd_so T) n s0 = true) : nd_fst (fun i => T (nd_ps f (nd_so T) s0 n n * 8 + i)) 8 < 8 := by
  have h := (nd_ps_L hf h0 hL n (Nat.le_refl _)).2.1
  rw [Nat.sub_self] at h
  obtain ⟨i, hi, h⟩ := nd_any_iff.mp h
  exact Nat.lt_of_le_of_lt (nd_fst_lt hi h) hi
theorem xe_lii {N : Nat → Nat → Bool} {p : Nat → Bool} {s : Nat} (hN : nd_T xN N 4) (hs : s < 16) (hx : nd_fst (fun i => p (nd_nx N s i)) 8 < 8) {post : Int32 → Prop} (hp : post (nI (nd_fst (fun i => p (nd_nx N s i)) 8))) : wpX_leastInputsInto post (xn, xr, xm, xc, xl, xT, xM, xN, xI, xP, xC, xH, xL, xD, xR, xK, xF) (nI s) (nI (nd_m p 16)) := by
  have hm := nd_m16 p
  refine loop_0 (fun m i (_ : Unit) => wX_leastInputsInto_2 post (nI s) (nI (nd_m p 16)) xn xr xm xc xl xT xM xN xI xP xC xH xL xD xR xK xF m (nI i)) (fun i _ => ∀ j, j < i → p (nd_nx N s j) = false) 8 () (fun u hu => absurd hu (by omega)) ?_ ?_
  · intro m _ h
    have := nd_fst_yes _ _ hx
    rw [h _ hx] at this
    cases this
  · intro m i _ hi h ih
    have hl := nd_nxl N s i
    refine br_f (nd_n8 hi) (xe_suc hN hs hi (xa_bit (by omega) (by omega) ?_))
    rw [nd_m_in hl]
    refine nd_br (fun z => nm_r (nI_1 i) (ih () (nd_lts h z))) (fun z => ?_)
    rw [nd_fst_eq (p := fun i => p (nd_nx N s i)) (by omega) h (fun _ => z)] at hp
    exact hp
theorem xe_lif {T : Nat → Nat → Bool} {n a s : Nat} (hT : nd_T xT T n) (hn : n ≤ 32) (ha : a < n) (hs : s < 16) (hx : nd_fst (fun i => T a (s * 8 + i)) 8 < 8) {post : Int32 → Prop} (hp : post (nI (nd_fst (fun i => T a (s * 8 + i)) 8))) : wpX_leastInputsFor post (xn, xr, xm, xc, xl, xT, xM, xN, xI, xP, xC, xH, xL, xD, xR, xK, xF) (nI a) (nI s) := by
  refine loop_0 (fun m i (_ : Unit) => wX_leastInputsFor_2 post (nI a) (nI s) xn xr xm xc xl xT xM xN xI xP xC xH xL xD xR xK xF m (nI i)) (fun i _ => ∀ j, j < i → T a (s * 8 + j) = false) 8 () (fun u hu => absurd hu (by omega)) ?_ ?_
  · intro m _ h
    have := nd_fst_yes _ _ hx
    rw [h _ hx] at this
    cases this
  · intro m i _ hi h ih
    refine br_f (nd_n8 hi) (xa_TI hT hn ha hs hi ?_)
    refine nd_br (fun z => nm_r (nI_1 i) (ih () (nd_lts h z))) (fun z => ?_)
    rw [nd_fst_eq (p := fun i => T a (s * 8 + i)) (by omega) h (fun _ => z)] at hp
    exact hp
theorem xe_keep {T N : Nat → Nat → Bool} {n a s0 k : Nat} (hT : nd_T xT T n) (hN : nd_T xN N 4) (hn : n ≤ 32) (ha : a < n) (h0 : s0 < 16) (hk : k < 16) (hL : nd_L (nd_nx N) (nd_so (T a)) k s0 = true)
    (hA : ∀ k, k < 16 → xL k = nI (nd_m (nd_L (nd_nx N) (nd_so (T a)) k) 16)) {post : SX → Prop}
    (h : ∀ t : Nat → Int32, (∀ j, j < k + 1 → t j = nI (nd_row (nd_nx N) (T a) s0 k j)) → post (xn, nI s0, xm, xc, nI (k + 1), xT, xM, xN, xI, xP, xC, xH, xL, xD, t, xK, xF)) : wpX_keepRoute post (xn, nI s0, xm, xc, xl, xT, xM, xN, xI, xP, xC, xH, xL, xD, xR, xK, xF) (nI a) (nI k) := by
  have hps := nd_ps_L (nd_nxF N) h0 hL
  refine loop_0 (fun m j (w : Int32 × (Nat → Int32)) => wX_keepRoute_8 post (nI a) (nI k) xn (nI s0) xm xc xl m w.1 (nI j) xT xM xN xI xP xC xH xL xD w.2 xK xF) (fun j w => w.1 = nI (nd_ps (nd_nx N) (nd_so (T a)) s0 k j) ∧ ∀ i, i < j → w.2 i = nI (nd_row (nd_nx N) (T a) s0 k i)) k (nI s0, xR) ⟨rfl, fun i hi => absurd hi (by omega)⟩ ?_ ?_
  · rintro m ⟨w1, w2⟩ ⟨rfl, hw⟩
    refine br_t (nI_le (Nat.le_refl _) (by omega)) (xe_lif hT hn ha (hps k (Nat.le_refl _)).1 (nd_ps_T (nd_nxF N) h0 hL) ⟨vp_in_nI hk (by omega), ?_⟩)
    refine nm_r (e' := upd w2 k (nI (nd_row (nd_nx N) (T a) s0 k k))) ?_ (nm_r (nI_1 k) (h _ (nd_lts ?_ pk_us)))
    · rw [nI_clamp (by omega), nd_row, if_neg (Nat.lt_irrefl k)]
    · intro i hi
      rw [pk_un (by omega)]; exact hw i hi
  · rintro m j ⟨w1, w2⟩ hj ⟨rfl, hw⟩ ih
    obtain ⟨p1, p2, p3⟩ := hps j (by omega)
    have p3 := p3 hj
    have e : nI k - 1 - nI j = nI (k - 1 - j) := by
      rw [show (1 : Int32) = nI 1 from rfl, pk_sub (by omega), pk_sub (by omega)]
    have er : nd_row (nd_nx N) (T a) s0 k j = nd_fst (fun i => nd_L (nd_nx N) (nd_so (T a)) (k - 1 - j) (nd_nx N (nd_ps (nd_nx N) (nd_so (T a)) s0 k j) i)) 8 := if_pos hj
    refine br_f (nI_ge hj (by omega)) ?_
    rw [e, nI_clamp (show k - 1 - j < 2 ^ 31 by omega), hA (k - 1 - j) (by omega)]
    refine ⟨vp_in_nI (by omega) (by omega), xe_lii hN p1 p3 ⟨vp_in_nI (by omega) (by omega), ?_⟩⟩
    refine nm_r (e' := upd w2 j (nI (nd_row (nd_nx N) (T a) s0 k j))) (by rw [nI_clamp (by omega), er]) ⟨vp_in_nI (by omega) (by omega), ?_⟩
    rw [nI_clamp (show j < 2 ^ 31 by omega), pk_us]
    refine xe_suc hN p1 (by rw [er]; exact p3) (nm_r (nI_1 j) (ih (nI (nd_nx N (nd_ps (nd_nx N) (nd_so (T a)) s0 k j) (nd_row (nd_nx N) (T a) s0 k j)), upd w2 j (nI (nd_row (nd_nx N) (T a) s0 k j))) ⟨?_, nd_lts ?_ pk_us⟩))
    · show nI (nd_nx N (nd_ps (nd_nx N) (nd_so (T a)) s0 k j) (nd_row (nd_nx N) (T a) s0 k j)) = nI (nd_ps (nd_nx N) (nd_so (T a)) s0 k (j + 1))
      rw [er, nd_ps]
    · intro i hi
      show upd w2 j (nI (nd_row (nd_nx N) (T a) s0 k j)) i = _
      rw [pk_un (by omega)]; exact hw i hi
end NDX
