/-! the component: cubes -/
section NDX
variable {xn xr xm xc xl : Int32} {xT xM xN xI xP xC xH xL xD xR xK xF : Nat → Int32}
theorem nd_3 : ¬ (3 : Int32) = 0 := by decide
theorem nd_d3 {a : Nat} (ha : a < 2 ^ 31) : nI a / 3 = nI (a / 3) := pk_div (d := 3) ha (by omega) (by omega)
theorem nd_r3 {a : Nat} (ha : a < 2 ^ 31) : nI a - nI a / 3 * 3 = nI (a % 3) := pk_rem (d := 3) ha (by omega) (by omega)
theorem nd_t3 (a : Nat) : nI a * 3 = nI (a * 3) := pk_mul a 3
theorem nd_lc (c v : Nat) : c / 3 ^ v ≤ c := Nat.div_le_self _ _
theorem nd_729 : ∀ v, v < 7 → 3 ^ v ≤ 729 := by decide
theorem nd_c2187 : (2187 : Int32) ≤ nI 2187 := nI_le (a := 2187) (b := 2187) (by omega) (by omega)
theorem nd_n2187 {i : Nat} (h : i < 2187) : ¬ (2187 : Int32) ≤ nI i := nI_ge (b := 2187) h (by omega)
/-- the implicants so far -/
def nd_I (t : Nat → Int32) (F : Nat → Bool) (c : Nat) : Prop := ∀ d, d < c → t d = nd_b (F d)
theorem xd_imp {T : Nat → Nat → Bool} {n a c : Nat} (hT : nd_T xT T n) (hn : n ≤ 32) (ha : a < n) (hc : c < 2187) (hI : nd_I xI (nd_imp (T a)) c) {post : Int32 → Prop} (hp : post (nd_b (nd_imp (T a) c))) : wpX_isImplicant post (xn, xr, xm, xc, xl, xT, xM, xN, xI, xP, xC, xH, xL, xD, xR, xK, xF) (nI a) (nI c) := by
  refine loop_0 (fun m v (s : Int32 × Int32 × Int32) => wX_isImplicant_11 post (nI a) (nI c) xn xr xm xc xl xT xM xN xI xP xC xH xL xD xR xK xF m s.1 s.2.1 s.2.2 (nI v)) (fun v s => s = (nI (c / 3 ^ v), nI (3 ^ v), nI (nd_as c v)) ∧ ∀ u, u < v → nd_dg c u ≠ 2) 7 (nI c, 1, 0) ⟨by rw [Nat.pow_zero, Nat.div_one]; rfl, fun u hu => absurd hu (by omega)⟩ ?_ ?_
  · rintro m s ⟨rfl, h⟩
    rw [nd_imp_0 h] at hp
    exact br_t nd_7 (xa_T hT hn ha (nd_as_lt h) ⟨nd_bn _, hp⟩)
  · rintro m v s hv ⟨rfl, h⟩ ih
    have h1 := nd_lc c v
    have h2 := nd_729 v hv
    have h3 := nd_p3 v
    have h4 := nd_dg_lt c v
    refine br_f (nd_n7 hv) ⟨nd_3, nm_r (e' := nI (nd_dg c v)) (nd_r3 (by omega)) ?_⟩
    refine pk_eq (nd_dg c v) 2 (fun z => ?_) (fun z => ?_)
    · have h5 := nd_dg2 z
      rw [nd_imp_2 hv h z] at hp
      have e1 : nI c - nI (3 ^ v) = nI (c - 3 ^ v) := pk_sub (by omega)
      have e2 : nI c - 2 * nI (3 ^ v) = nI (c - 2 * 3 ^ v) := by
        rw [show (2 : Int32) = nI 2 from rfl, pk_mul, pk_sub h5]
      show vp_in (nI c - nI (3 ^ v)) 2187 ∧ _
      rw [e1, e2, nI_clamp (show c - 3 ^ v < 2 ^ 31 by omega), nI_clamp (show c - 2 * 3 ^ v < 2 ^ 31 by omega), hI (c - 3 ^ v) (by omega), hI (c - 2 * 3 ^ v) (by omega)]
      exact ⟨vp_in_nI (by omega) (by omega), nd_and hp (fun hp => ⟨vp_in_nI (by omega) (by omega), nd_b01 hp⟩)⟩
    · have e5 : nI (nd_as c v) + nI (nd_dg c v) <<< (nI v &&& 31) = nI (nd_as c (v + 1)) := by
        have h6 : nd_dg c v * 2 ^ v ≤ 2 * 64 := Nat.mul_le_mul (by omega) (nd_pk v hv).1
        rw [nd_shlN (by omega) (by omega), nI_add]
        rfl
      refine nm_r e5 ⟨nd_3, nm_r (e' := nI (c / 3 ^ (v + 1))) ((nd_d3 (by omega)).trans (congrArg nI (nd_dgs c v))) (nm_r (e' := nI (3 ^ (v + 1))) ((nd_t3 _).trans (congrArg nI (Nat.pow_succ 3 v).symm)) (nm_r (nI_1 v) (ih _ ⟨rfl, nd_lts h z⟩)))⟩
theorem xd_pri {F : Nat → Bool} {c : Nat} (hc : c < 2187) (hI : nd_I xI F 2187) {post : Int32 → Prop} (hp : post (nd_b (nd_pr F c))) : wpX_isPrime post (xn, xr, xm, xc, xl, xT, xM, xN, xI, xP, xC, xH, xL, xD, xR, xK, xF) (nI c) := by
  have hx : xI (nI c).toNatClampNeg = nd_b (F c) := by rw [nI_clamp (by omega)]; exact hI c hc
  refine ⟨vp_in_nI hc (by omega), ?_⟩
  rw [hx]
  refine nd_and hp (fun hp => ?_)
  refine loop_0 (fun m v (s : Int32 × Int32) => wX_isPrime_18 post (nI c) xn xr xm xc xl xT xM xN xI xP xC xH xL xD xR xK xF m s.1 s.2 (nI v)) (fun v s => s = (nI (c / 3 ^ v), nI (3 ^ v)) ∧ ∀ u, u < v → (!(decide (nd_dg c u ≠ 2) && F (c + (2 - nd_dg c u) * 3 ^ u))) = true) 7 (nI c, 1) ⟨by rw [Nat.pow_zero, Nat.div_one]; rfl, fun u hu => absurd hu (by omega)⟩ ?_ ?_
  · rintro m s ⟨rfl, h⟩
    rw [nd_all_iff.mpr h] at hp
    exact br_t nd_7 hp
  · rintro m v s hv ⟨rfl, h⟩ ih
    have h1 := nd_lc c v
    have h2 := nd_729 v hv
    have h3 := nd_p3 v
    have h4 := nd_dg_lt c v
    have go : (!(decide (nd_dg c v ≠ 2) && F (c + (2 - nd_dg c v) * 3 ^ v))) = true → wX_isPrime_54 post (wX_isPrime_18 post (nI c) xn xr xm xc xl xT xM xN xI xP xC xH xL xD xR xK xF m) (nI c) (nI (c / 3 ^ v)) (nI (3 ^ v)) (nI v) xn xr xm xc xl xT xM xN xI xP xC xH xL xD xR xK xF := by
      intro w
      exact ⟨nd_3, nm_r (e' := nI (c / 3 ^ (v + 1))) ((nd_d3 (by omega)).trans (congrArg nI (nd_dgs c v))) (nm_r (e' := nI (3 ^ (v + 1))) ((nd_t3 _).trans (congrArg nI (Nat.pow_succ 3 v).symm)) (nm_r (nI_1 v) (ih _ ⟨rfl, nd_lts h w⟩)))⟩
    refine br_f (nd_n7 hv) ⟨nd_3, nm_r (e' := nI (nd_dg c v)) (nd_r3 (by omega)) ?_⟩
    refine pk_eq (nd_dg c v) 2 (fun z => ?_) (fun z => ?_)
    · exact go (by rw [decide_eq_false (fun y => y z)]; rfl)
    · have hw := nd_wide hc hv z
      have e1 : nI c + (2 - nI (nd_dg c v)) * nI (3 ^ v) = nI (c + (2 - nd_dg c v) * 3 ^ v) := by
        rw [show (2 : Int32) = nI 2 from rfl, pk_sub (by omega), pk_mul, nI_add]
      show vp_in (nI c + (2 - nI (nd_dg c v)) * nI (3 ^ v)) 2187 ∧ _
      rw [e1, nI_clamp (show c + (2 - nd_dg c v) * 3 ^ v < 2 ^ 31 by omega), hI _ hw]
      refine ⟨vp_in_nI hw (by omega), nd_br (fun w => go (by rw [w, Bool.and_false]; rfl)) (fun w => ?_)⟩
      have e : nd_all (fun u => !(decide (nd_dg c u ≠ 2) && F (c + (2 - nd_dg c u) * 3 ^ u))) 7 = false := nd_all_f hv (by rw [w, decide_eq_true z]; rfl)
      rw [e] at hp
      exact hp
/-- the list of the primes so far -/
def nd_P (t : Nat → Int32) (q : Nat → Bool) (c : Nat) : Prop := ∀ d, d < c → q d = true → t (nd_cnt q d) = nI d
theorem xd_find {T : Nat → Nat → Bool} {n a : Nat} (hT : nd_T xT T n) (hn : n ≤ 32) (ha : a < n) {post : SX → Prop}
    (h : ∀ i p : Nat → Int32, nd_P p (nd_q (T a)) 2187 → post (xn, xr, xm, nI (nd_cnt (nd_q (T a)) 2187), xl, xT, xM, xN, i, p, xC, xH, xL, xD, xR, xK, xF)) : wpX_findPrimes post (xn, xr, xm, xc, xl, xT, xM, xN, xI, xP, xC, xH, xL, xD, xR, xK, xF) (nI a) := by
  refine loop_0 (fun m c s => wX_findPrimes_2 post (nI a) xn xr xm xc xl m (nI c) xT xM xN s xP xC xH xL xD xR xK xF) (fun c s => nd_I s (nd_imp (T a)) c) 2187 xI (fun d hd => absurd hd (by omega)) ?_ ?_
  · intro m s hs
    refine br_t nd_c2187 ?_
    refine loop_0 (fun m c (w : Int32 × (Nat → Int32)) => wX_findPrimes_34 post xn xr xm xl m (nI c) w.1 xT xM xN s w.2 xC xH xL xD xR xK xF) (fun c w => w.1 = nI (nd_cnt (nd_q (T a)) c) ∧ nd_P w.2 (nd_q (T a)) c) 2187 (0, xP) ⟨rfl, fun d hd => absurd hd (by omega)⟩ ?_ ?_
    · rintro m ⟨w1, w2⟩ ⟨rfl, hw⟩
      exact br_t nd_c2187 (h s w2 hw)
    · rintro m c ⟨w1, w2⟩ hc ⟨rfl, hw⟩ ih
      refine br_f (nd_n2187 hc) (xd_pri hc hs ?_)
      have hle := nd_cnt_le (nd_q (T a)) c
      refine nd_br (fun z => ?_) (fun z => ?_)
      · refine nm_r (nI_1 c) (ih (_, _) ⟨?_, ?_⟩)
        · rw [nd_cnt_f (q := nd_q (T a)) z]
        · refine nd_lts hw ?_
          intro z2
          rw [show nd_q (T a) c = false from z] at z2; cases z2
      · refine ⟨vp_in_nI (by omega) (by omega), ?_⟩
        refine nm_r (e' := upd w2 (nd_cnt (nd_q (T a)) c) (nI c)) (by rw [nI_clamp (by omega)]) (nm_r (e' := nI (nd_cnt (nd_q (T a)) (c + 1))) (by rw [nI_1, nd_cnt_t (q := nd_q (T a)) z]) (nm_r (nI_1 c) (ih (nI (nd_cnt (nd_q (T a)) (c + 1)), upd w2 (nd_cnt (nd_q (T a)) c) (nI c)) ⟨rfl, ?_⟩)))
        refine nd_lts ?_ (fun _ => pk_us)
        intro d hd hq
        have := nd_cnt_at (q := nd_q (T a)) hd hq
        show upd w2 (nd_cnt (nd_q (T a)) c) (nI c) (nd_cnt (nd_q (T a)) d) = nI d
        rw [pk_un (by omega)]
        exact hw d hd hq
  · intro m c s hc hs ih
    refine br_f (nd_n2187 hc) (xd_imp hT hn ha hc hs ⟨vp_in_nI hc (by omega), ?_⟩)
    refine nm_r (e' := upd s c (nd_b (nd_imp (T a) c))) (by rw [nI_clamp (by omega), nd_bv]) (nm_r (nI_1 c) (ih _ ?_))
    refine nd_lts ?_ pk_us
    intro d hd
    rw [pk_un (by omega)]; exact hs d hd
theorem xd_cov {c x : Nat} (hc : c < 2187) (hx : x < 128) {post : Int32 → Prop} (hp : post (nd_b (nd_fit c x))) : wpX_covers post (nI c) (nI x) := by
  refine loop_0 (fun m v s => wX_covers_4 post (nI x) m s (nI v)) (fun v s => s = nI (c / 3 ^ v) ∧ ∀ u, u < v → (decide (nd_dg c u = 2) || (x.testBit u == decide (nd_dg c u = 1))) = true) 7 (nI c) ⟨by rw [Nat.pow_zero, Nat.div_one], fun u hu => absurd hu (by omega)⟩ ?_ ?_
  · rintro m s ⟨rfl, h⟩
    have e : nd_fit c x = true := nd_all_iff.mpr h
    rw [e] at hp
    exact br_t nd_7 hp
  · rintro m v s hv ⟨rfl, h⟩ ih
    have h1 := nd_lc c v
    have h4 := nd_dg_lt c v
    have go : (decide (nd_dg c v = 2) || (x.testBit v == decide (nd_dg c v = 1))) = true → ∀ y, y = nI (c / 3 ^ v) / 3 → ∀ z, z = nI v + 1 → wX_covers_4 post (nI x) m y z := by
      intro w
      exact nm_r (e' := nI (c / 3 ^ (v + 1))) ((nd_d3 (by omega)).trans (congrArg nI (nd_dgs c v))) (nm_r (nI_1 v) (ih _ ⟨rfl, nd_lts h w⟩))
    have stop : (decide (nd_dg c v = 2) || (x.testBit v == decide (nd_dg c v = 1))) = false → post 0 := by
      intro w
      have e : nd_fit c x = false := nd_all_f hv w
      rw [e] at hp
      exact hp
    refine br_f (nd_n7 hv) ⟨nd_3, nm_r (e' := nI (nd_dg c v)) (nd_r3 (by omega)) ?_⟩
    refine pk_eq (nd_dg c v) 2 (fun z => ?_) (fun z => ?_)
    · exact ⟨nd_3, go (by rw [decide_eq_true z, Bool.true_or])⟩
    · rw [decide_eq_false z, Bool.false_or] at go stop
      refine xa_bit (by omega) (by omega) ?_
      refine pk_eq (nd_dg c v) 1 (fun z1 => ?_) (fun z1 => ?_)
      · rw [decide_eq_true z1] at go stop
        unfold wX_covers_37
        revert go stop
        cases x.testBit v
        · intro go stop
          exact br_f (by decide) (stop rfl)
        · intro go stop
          exact br_t rfl ⟨nd_3, go rfl⟩
      · rw [decide_eq_false z1] at go stop
        unfold wX_covers_37
        revert go stop
        cases x.testBit v
        · intro go stop
          exact br_t rfl ⟨nd_3, go rfl⟩
        · intro go stop
          exact br_f (by decide) (stop rfl)
theorem nd_i1 {n : Nat} (h : n < 2 ^ 31) {A B : Prop} (f : n = 1 → A) (g : n ≠ 1 → B) : (nI n = 1 → A) ∧ (¬ nI n = 1 → B) := pk_eq n 1 f g rfl rfl h (by omega)
theorem xd_alone {q : Nat → Bool} {c : Nat} (hc : c < 2187) (hC : ∀ x, x < 128 → xC x = nI (nd_cov q x)) {post : Int32 → Prop} (hp : post (nd_b (nd_alone q c))) : wpX_coversAlone post (xn, xr, xm, xc, xl, xT, xM, xN, xI, xP, xC, xH, xL, xD, xR, xK, xF) (nI c) := by
  refine loop_0 (fun m x (_ : Unit) => wX_coversAlone_2 post (nI c) xn xr xm xc xl xT xM xN xI xP xC xH xL xD xR xK xF m (nI x)) (fun i _ => ∀ x, x < i → (decide (nd_cov q x = 1) && nd_fit c x) = false) 128 () (fun u hu => absurd hu (by omega)) ?_ ?_
  · intro m _ h
    have e : nd_alone q c = false := nd_any_f h
    rw [e] at hp
    exact br_t nd_128 hp
  · intro m x _ hx h ih
    have hle : nd_cov q x ≤ 2187 := nd_cnt_le _ _
    refine br_f (nd_n128 hx) ⟨vp_in_nI hx (by omega), ?_⟩
    rw [nI_clamp (show x < 2 ^ 31 by omega), hC x hx]
    refine nd_i1 (by omega) (fun z => ?_) (fun z => ?_)
    · refine xd_cov hc hx (nd_br (fun w => nm_r (nI_1 x) (ih () (nd_lts h ?_))) (fun w => ?_))
      · rw [w, Bool.and_false]
      · have e : nd_alone q c = true := nd_any_iff.mpr ⟨x, hx, by rw [decide_eq_true z, w]; rfl⟩
        rw [e] at hp
        exact hp
    · exact nm_r (nI_1 x) (ih () (nd_lts h (by rw [decide_eq_false z, Bool.false_and])))
theorem nd_P_kth {t : Nat → Int32} {q : Nat → Bool} (hP : nd_P t q 2187) {k : Nat} (hk : k < nd_cnt q 2187) : ∃ c, c < 2187 ∧ q c = true ∧ nd_cnt q c = k ∧ t k = nI c := by
  obtain ⟨c, h1, h2, h3⟩ := nd_kth 2187 hk
  exact ⟨c, h1, h2, h3, by rw [← h3]; exact hP c h1 h2⟩
theorem nd_P_pl {t : Nat → Int32} {q : Nat → Bool} (hP : nd_P t q 2187) : nd_PL q 2187 (fun k => (t k).toNatClampNeg) := by
  intro c hc hq
  show (t (nd_cnt q c)).toNatClampNeg = c
  rw [hP c hc hq, nI_clamp (by omega)]
theorem xd_ess1 {q : Nat → Bool} {x : Nat} (hx : x < 128) (hP : nd_P xP q 2187) {post : Int32 → SX → Prop} {J : Int32 → (Nat → Int32) → (Nat → Int32) → (Nat → Int32) → (Nat → Int32) → (Nat → Int32) → (Nat → Int32) → (Nat → Int32) → (Nat → Int32) → (Nat → Int32) → (Nat → Int32) → (Nat → Int32) → (Nat → Int32) → Prop} {t : Nat → Int32}
    (hJ : ∀ t' : Nat → Int32, t' x = nI (nd_cov q x) → (∀ j, j ≠ x → t' j = t j) → J (nI (x + 1)) xT xM xN xI xP t' xH xL xD xR xK xF) (h0 : t x = nI 0) : ∃ m, wX_essentialCount_18 post J (nI x) xn xr xm (nI (nd_cnt q 2187)) xl m 0 xT xM xN xI xP t xH xL xD xR xK xF := by
  have hle := nd_cnt_le q 2187
  refine loop_0 (fun m k s => wX_essentialCount_18 post J (nI x) xn xr xm (nI (nd_cnt q 2187)) xl m (nI k) xT xM xN xI xP s xH xL xD xR xK xF) (fun k s => s x = nI (nd_cnt (fun k => nd_fit (xP k).toNatClampNeg x) k) ∧ ∀ j, j ≠ x → s j = t j) (nd_cnt q 2187) t ⟨h0, fun _ _ => rfl⟩ ?_ ?_
  · rintro m s ⟨h1, h2⟩
    refine br_t (nI_le (Nat.le_refl _) (by omega)) (nm_r (nI_1 x) (hJ s ?_ h2))
    rw [h1, nd_pl_cnt (fun c => nd_fit c x) 2187 (nd_P_pl hP)]
    rfl
  · rintro m k s hk ⟨h1, h2⟩ ih
    obtain ⟨c, c1, c2, c3, c4⟩ := nd_P_kth hP hk
    have e : nd_fit (xP k).toNatClampNeg x = nd_fit c x := by rw [c4, nI_clamp (by omega)]
    refine br_f (nI_ge hk (by omega)) ⟨vp_in_nI (by omega) (by omega), ?_⟩
    rw [nI_clamp (show k < 2 ^ 31 by omega), c4]
    refine xd_cov c1 hx (nd_br (fun w => nm_r (nI_1 k) (ih _ ⟨?_, h2⟩)) (fun w => ⟨vp_in_nI hx (by omega), vp_in_nI hx (by omega), ?_⟩))
    · rw [h1, nd_cnt_f (q := fun k => nd_fit (xP k).toNatClampNeg x) (e.trans w)]
    · refine nm_r (e' := upd s x (nI (nd_cnt (fun k => nd_fit (xP k).toNatClampNeg x) (k + 1)))) ?_ (nm_r (nI_1 k) (ih _ ⟨pk_us, ?_⟩))
      · rw [nI_clamp (show x < 2 ^ 31 by omega), h1, nI_1, nd_cnt_t (q := fun k => nd_fit (xP k).toNatClampNeg x) (e.trans w)]
      · intro j hj
        rw [pk_un hj]; exact h2 j hj
theorem xd_ess {q : Nat → Bool} (hP : nd_P xP q 2187) {post : Int32 → SX → Prop} (h : ∀ t : Nat → Int32, post (nI (nd_ess q)) (xn, xr, xm, nI (nd_cnt q 2187), xl, xT, xM, xN, xI, xP, t, xH, xL, xD, xR, xK, xF)) : wpX_essentialCount post (xn, xr, xm, nI (nd_cnt q 2187), xl, xT, xM, xN, xI, xP, xC, xH, xL, xD, xR, xK, xF) := by
  have hle := nd_cnt_le q 2187
  refine loop_0 (fun m x s => wX_essentialCount_2 post xn xr xm (nI (nd_cnt q 2187)) xl m (nI x) xT xM xN xI xP s xH xL xD xR xK xF) (fun i s => ∀ x, x < i → s x = nI (nd_cov q x)) 128 xC (fun u hu => absurd hu (by omega)) ?_ ?_
  · intro m s hs
    refine br_t nd_128 ?_
    refine loop_0 (fun m k (r : Int32) => wX_essentialCount_65 post xn xr xm (nI (nd_cnt q 2187)) xl xT xM xN xI xP s xH xL xD xR xK xF m r (nI k)) (fun k r => r = nI (nd_cnt (fun k => nd_alone q (xP k).toNatClampNeg) k)) (nd_cnt q 2187) 0 rfl ?_ ?_
    · rintro m r rfl
      refine br_t (nI_le (Nat.le_refl _) (by omega)) ?_
      rw [nd_pl_cnt (nd_alone q) 2187 (nd_P_pl hP)]
      exact h s
    · rintro m k r hk rfl ih
      obtain ⟨c, c1, c2, c3, c4⟩ := nd_P_kth hP hk
      have e : nd_alone q (xP k).toNatClampNeg = nd_alone q c := by rw [c4, nI_clamp (by omega)]
      refine br_f (nI_ge hk (by omega)) ⟨vp_in_nI (by omega) (by omega), ?_⟩
      rw [nI_clamp (show k < 2 ^ 31 by omega), c4]
      refine xd_alone c1 hs (nd_br (fun w => nm_r (nI_1 k) (ih _ ?_)) (fun w => nm_r (nI_1 _) (nm_r (nI_1 k) (ih _ ?_))))
      · rw [nd_cnt_f (q := fun k => nd_alone q (xP k).toNatClampNeg) (e.trans w)]
      · rw [nd_cnt_t (q := fun k => nd_alone q (xP k).toNatClampNeg) (e.trans w)]
  · intro m x s hx hs ih
    refine br_f (nd_n128 hx) ⟨vp_in_nI hx (by omega), nm_r (e' := upd s x (nI 0)) (by rw [nI_clamp (by omega)]; rfl) ?_⟩
    refine xd_ess1 hx hP (fun t' h1 h2 => ih t' ?_) pk_us
    refine nd_lts ?_ h1
    intro y hy
    rw [h2 y (by omega), pk_un (by omega)]
    exact hs y hy
end NDX
