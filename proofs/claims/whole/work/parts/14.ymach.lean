/-! the reference: the machine -/
section NDY
variable {yn ys yt ye : Int32} {yl yh : Nat → Int64} {yI yP yC yF yA yQ yR : Nat → Int32}
theorem nd_s8 : ∀ s, s < 16 → ∀ i, i < 8 → nI s <<< ((3 : Int32) &&& 31) ||| nI i = nI (s * 8 + i) := by decide +kernel
theorem yf_beh {T : Nat → Nat → Bool} {s i : Nat} (hY : nd_Y yl yh T) (hs : s < 16) (hi : i < 8) {post : Int32 → Prop} (hp : post (nI (nd_nx (fun k => T (32 + k)) s i))) : wpY_behind post (yn, ys, yt, ye, yl, yh, yI, yP, yC, yF, yA, yQ, yR) (nI s) (nI i) := by
  refine loop_0 (fun m k r => wY_behind_5 post (nI s) (nI i) yn ys yt ye yl yh yI yP yC yF yA yQ yR m r (nI k)) (fun k r => r = nI (nd_m (fun k => T (32 + k) (s * 8 + i)) k)) 4 0 rfl ?_ ?_
  · rintro m r rfl
    exact br_t nd_4 hp
  · rintro m k r hk rfl ih
    refine br_f (nd_n4 hk) ?_
    rw [nd_s8 s hs i hi, show (32 : Int32) + nI k = nI (32 + k) from nI_add 32 k]
    refine ya_bit hY (by omega) (by omega) (nd_br (fun z => nm_r (nI_1 k) (ih _ ?_)) (fun z => nm_r (nd_orb (by omega)) (nm_r (nI_1 k) (ih _ ?_))))
    · rw [nd_m_f (p := fun k => T (32 + k) (s * 8 + i)) z]
    · rw [nd_m_t (p := fun k => T (32 + k) (s * 8 + i)) z]
theorem nd_so_x {T : Nat → Bool} {s : Nat} (hs : s < 16) : nd_any (fun y => T y && decide (y / 8 = s)) 128 = nd_so T s := by
  rw [Bool.eq_iff_iff, nd_any_iff]
  unfold nd_so
  rw [nd_any_iff]
  constructor
  · rintro ⟨y, hy, h⟩
    rw [Bool.and_eq_true] at h
    have e := of_decide_eq_true h.2
    refine ⟨y % 8, Nat.mod_lt _ (by decide), ?_⟩
    rw [show s * 8 + y % 8 = y by omega]
    exact h.1
  · rintro ⟨i, hi, h⟩
    refine ⟨s * 8 + i, by omega, ?_⟩
    rw [Bool.and_eq_true]
    exact ⟨h, decide_eq_true (by omega)⟩
theorem nd_x3 {x : Nat} (hx : x < 2 ^ 31) : nI x >>> ((3 : Int32) &&& 31) = nI (x / 8) := pk_shrN hx _ 3 (by decide)
theorem yf_set {T : Nat → Nat → Bool} {a : Nat} (hY : nd_Y yl yh T) (ha : a < 36) {post : Int32 → Prop} (hp : post (nI (nd_m (nd_so (T a)) 16))) : wpY_setOf post (yn, ys, yt, ye, yl, yh, yI, yP, yC, yF, yA, yQ, yR) (nI a) := by
  refine loop_0 (fun m x r => wY_setOf_4 post (nI a) yn ys yt ye yl yh yI yP yC yF yA yQ yR m r (nI x)) (fun x r => r = nI (nd_m (fun s => nd_any (fun y => T a y && decide (y / 8 = s)) x) 16)) 128 0 ?_ ?_ ?_
  · have e : nd_m (fun s => nd_any (fun y => T a y && decide (y / 8 = s)) 0) 16 = 0 := nd_m_zero.mpr (fun _ _ => rfl)
    rw [e]; rfl
  · rintro m r rfl
    refine br_t nd_128 ?_
    rw [nd_m_congr (fun s hs => nd_so_x (T := T a) hs)]
    exact hp
  · rintro m x r hx rfl ih
    refine br_f (nd_n128 hx) ?_
    rw [nd_x3 (by omega)]
    refine ya_bit hY ha hx (nd_br (fun z => nm_r (nI_1 x) (ih _ ?_)) (fun z => nm_r (nd_orb (by omega)) (nm_r (nI_1 x) (ih _ ?_))))
    · refine congrArg nI (nd_m_congr fun s _ => ?_)
      rw [nd_any, z, Bool.false_and, Bool.or_false]
    · rw [nd_m_ins (by omega)]
      refine congrArg nI (nd_m_congr fun s _ => ?_)
      rw [nd_any, z, Bool.true_and]
theorem nd_cnt_all {p : Nat → Bool} {n : Nat} : nd_cnt p n = n ↔ nd_all p n = true := by
  rw [nd_all_iff]
  constructor
  · intro h i hi
    cases z : p i
    · have h1 := nd_cnt_strict (p := p) (q := fun _ => true) (n := n) (fun _ _ _ => rfl) hi z rfl
      have h2 := nd_cnt_le (fun _ => true) n
      omega
    · rfl
  · intro h
    have h1 := nd_cnt_le p n
    have h2 : nd_cnt (fun _ => true) n ≤ nd_cnt p n := nd_cnt_mono (fun i hi _ => h i hi)
    have h3 : nd_cnt (fun _ => true) n = n := by
      clear h h1 h2
      induction n with
      | zero => rfl
      | succ n ih => rw [nd_cnt_t rfl, ih]
    omega
theorem nd_cnt_any {p : Nat → Bool} {n : Nat} : 0 < nd_cnt p n ↔ nd_any p n = true := by
  rw [nd_any_iff]
  constructor
  · intro h
    obtain ⟨c, h1, h2, _⟩ := nd_kth n h
    exact ⟨c, h1, h2⟩
  · rintro ⟨i, hi, h⟩
    exact nd_cnt_pos hi h
theorem yf_bef {T : Nat → Nat → Bool} {p : Nat → Bool} {all : Bool} (hY : nd_Y yl yh T) {post : Int32 → Prop} (hp : post (nI (nd_m (nd_ld (nd_nx (fun k => T (32 + k))) all p) 16))) : wpY_before post (yn, ys, yt, ye, yl, yh, yI, yP, yC, yF, yA, yQ, yR) (nI (nd_m p 16)) (nd_b all) := by
  have hm := nd_m16 p
  refine loop_0 (fun m s r => wY_before_5 post (nI (nd_m p 16)) (nd_b all) yn ys yt ye yl yh yI yP yC yF yA yQ yR m r (nI s)) (fun s r => r = nI (nd_m (nd_ld (nd_nx (fun k => T (32 + k))) all p) s)) 16 0 rfl ?_ ?_
  · rintro m r rfl
    exact br_t nd_16 hp
  · rintro m s r hs rfl ih
    refine br_f (nd_n16 hs) ?_
    have yes : nd_ld (nd_nx (fun k => T (32 + k))) all p s = true → wY_before_67 post (wY_before_5 post (nI (nd_m p 16)) (nd_b all) yn ys yt ye yl yh yI yP yC yF yA yQ yR m) (nI (nd_m p 16)) (nd_b all) (nI (nd_m (nd_ld (nd_nx (fun k => T (32 + k))) all p) s)) (nI s) yn ys yt ye yl yh yI yP yC yF yA yQ yR := by
      intro z
      refine nm_r (nd_orb (by omega)) (nm_r (nI_1 s) (ih _ ?_))
      rw [nd_m_t z]
    have no : nd_ld (nd_nx (fun k => T (32 + k))) all p s = false → ∀ y, y = nI s + 1 → wY_before_5 post (nI (nd_m p 16)) (nd_b all) yn ys yt ye yl yh yI yP yC yF yA yQ yR m (nI (nd_m (nd_ld (nd_nx (fun k => T (32 + k))) all p) s)) y := by
      intro z
      refine nm_r (nI_1 s) (ih _ ?_)
      rw [nd_m_f z]
    refine loop_0 (fun m' i r => wY_before_18 post (wY_before_5 post (nI (nd_m p 16)) (nd_b all) yn ys yt ye yl yh yI yP yC yF yA yQ yR m) (nI (nd_m p 16)) (nd_b all) (nI (nd_m (nd_ld (nd_nx (fun k => T (32 + k))) all p) s)) (nI s) yn ys yt ye yl yh yI yP yC yF yA yQ yR m' r (nI i)) (fun i r => r = nI (nd_cnt (fun i => p (nd_nx (fun k => T (32 + k)) s i)) i)) 8 0 rfl ?_ ?_
    · rintro m' r rfl
      have hle := nd_cnt_le (fun i => p (nd_nx (fun k => T (32 + k)) s i)) 8
      refine br_t nd_8 ?_
      cases all
      · refine br_t rfl (pk_le (nd_cnt (fun i => p (nd_nx (fun k => T (32 + k)) s i)) 8) 0 (fun z => no ?_) (fun z => yes ?_))
        · show nd_any (fun i => p (nd_nx (fun k => T (32 + k)) s i)) 8 = false
          cases y : nd_any (fun i => p (nd_nx (fun k => T (32 + k)) s i)) 8
          · rfl
          · have := nd_cnt_any.mpr y
            omega
        · exact nd_cnt_any.mp z
      · refine br_f (by decide) (pk_eq (nd_cnt (fun i => p (nd_nx (fun k => T (32 + k)) s i)) 8) 8 (fun z => yes (nd_cnt_all.mp z)) (fun z => no ?_))
        show nd_all (fun i => p (nd_nx (fun k => T (32 + k)) s i)) 8 = false
        cases y : nd_all (fun i => p (nd_nx (fun k => T (32 + k)) s i)) 8
        · rfl
        · exact absurd (nd_cnt_all.mpr y) z
    · rintro m' i r hi rfl ih2
      have hl := nd_nxl (fun k => T (32 + k)) s i
      refine br_f (nd_n8 hi) (yf_beh hY hs hi ?_)
      rw [nd_bit (show nd_m p 16 < 2 ^ 31 by omega) (by omega), nd_m_in hl, nd_bI]
      exact nm_r (nI_add _ _) (nm_r (nI_1 i) (ih2 _ rfl))
/-- distances held as ints, 99 for none -/
def nd_Fa (t : Nat → Int32) (e : Nat → Nat) : Prop := ∀ s, s < 16 → t s = nI (e s)
theorem nd_k15 {k : Nat} (hk : k < 2048) : (nI k >>> ((3 : Int32) &&& 31)) &&& 15 = nI (k / 8 % 16) := by
  rw [nd_x3 (by omega)]
  exact pk_andN (by omega) 4 (by decide)
theorem nd_k7 {k : Nat} (hk : k < 2048) : nI k &&& 7 = nI (k % 8) := pk_andN (by omega) 3 (by decide)
theorem yf_walk {T : Nat → Nat → Bool} {s0 : Nat} (h0 : s0 < 16) (hY : nd_Y yl yh T) {post : SY → Prop}
    (h : ∀ (t : Nat → Int32) (e : Nat → Nat), nd_D (nd_nx (fun k => T (32 + k))) s0 e → nd_Fa t e → post (yn, nI s0, yt, ye, yl, yh, yI, yP, yC, t, yA, yQ, yR)) : wpY_walk post (yn, nI s0, yt, ye, yl, yh, yI, yP, yC, yF, yA, yQ, yR) := by
  refine loop_0 (fun m k t => wY_walk_2 post yn (nI s0) yt ye m (nI k) yl yh yI yP yC t yA yQ yR) (fun k t => ∀ s, s < k → t s = nI (if s = s0 then 0 else 99)) 16 yF (fun u hu => absurd hu (by omega)) ?_ ?_
  · intro m t ht
    refine br_t nd_16 ?_
    refine loop_0 (fun m k t => wY_walk_36 post yn (nI s0) yt ye m (nI k) yl yh yI yP yC t yA yQ yR) (fun k t => ∃ e, nd_V (nd_nx (fun k => T (32 + k))) s0 k e ∧ nd_Fa t e) 2048 t ⟨_, nd_V_0, ht⟩ ?_ ?_
    · rintro m t ⟨e, h1, h2⟩
      exact br_t (nI_le (a := 2048) (b := 2048) (by omega) (by omega)) (h t e (nd_V_D h0 h1) h2)
    · rintro m k t hk ⟨e, h1, h2⟩ ih
      have hs : k / 8 % 16 < 16 := Nat.mod_lt _ (by decide)
      have hi : k % 8 < 8 := Nat.mod_lt _ (by decide)
      have hl := nd_nxl (fun k => T (32 + k)) (k / 8 % 16) (k % 8)
      have ha1 := h1.1 _ hs
      have ha2 := h1.1 _ hl
      refine br_f (nI_ge (b := 2048) hk (by omega)) (nm_r (nd_k15 hk) ?_)
      rw [nd_k7 hk]
      refine yf_beh hY hs hi ⟨vp_in_nI hs (by omega), vp_in_nI hl (by omega), ?_⟩
      rw [nI_clamp (show k / 8 % 16 < 2 ^ 31 by omega), nI_clamp (show nd_nx (fun k => T (32 + k)) (k / 8 % 16) (k % 8) < 2 ^ 31 by omega), h2 _ hs, h2 _ hl, nI_1]
      refine pk_le (e (nd_nx (fun k => T (32 + k)) (k / 8 % 16) (k % 8))) (e (k / 8 % 16) + 1) (fun z => ?_) (fun z => ?_)
      · exact nm_r (nI_1 k) (ih t ⟨e, nd_V_s (nd_nxF _) h1 (Or.inl ⟨rfl, z⟩) (fun _ _ => rfl), h2⟩)
      · refine ⟨vp_in_nI hs (by omega), vp_in_nI hl (by omega), nm_e (nm_r (nI_1 k) (ih _ ⟨nd_up e (nd_nx (fun k => T (32 + k)) (k / 8 % 16) (k % 8)) (e (k / 8 % 16) + 1), nd_V_s (nd_nxF _) h1 (Or.inr ⟨if_pos rfl, z⟩) (fun s hs => if_neg hs), ?_⟩))⟩
        intro s hs2
        unfold nd_up
        by_cases y : s = nd_nx (fun k => T (32 + k)) (k / 8 % 16) (k % 8)
        · rw [if_pos y, y, pk_us]
        · rw [if_neg y, pk_un y]
          exact h2 s hs2
  · intro m k t hk ht ih
    refine br_f (nd_n16 hk) (pk_eq k s0 (fun z => ⟨vp_in_nI hk (by omega), ?_⟩) (fun z => ⟨vp_in_nI hk (by omega), ?_⟩))
    · refine nm_r (e' := upd t k (nI (if k = s0 then 0 else 99))) (by rw [nI_clamp (by omega), if_pos z]; rfl) (nm_r (nI_1 k) (ih _ (nd_lts ?_ pk_us)))
      intro s hs
      rw [pk_un (by omega)]; exact ht s hs
    · refine nm_r (e' := upd t k (nI (if k = s0 then 0 else 99))) (by rw [nI_clamp (by omega), if_neg z]; rfl) (nm_r (nI_1 k) (ih _ (nd_lts ?_ pk_us)))
      intro s hs
      rw [pk_un (by omega)]; exact ht s hs
/-! reach -/
theorem yf_201 {T : Nat → Nat → Bool} {a s n : Nat} {R : Nat → Int32} (hY : nd_Y yl yh T) (ha : a < 36) (hs : s < 16) (hn : n < 16) (hx : nd_fst (fun i => T a (s * 8 + i)) 8 < 8) {post : Int32 → SY → Prop}
    (h : post (nI n) (yn, ys, yt, ye, yl, yh, yI, yP, yC, yF, yA, yQ, upd R n (nI (nd_fst (fun i => T a (s * 8 + i)) 8)))) : ∃ m, wY_reach_201 post (nI a) (nI n) (nI s) yn ys yt ye yl yh yI yP yC yF yA yQ R m 0 := by
  refine loop_0 (fun m i (_ : Unit) => wY_reach_201 post (nI a) (nI n) (nI s) yn ys yt ye yl yh yI yP yC yF yA yQ R m (nI i)) (fun i _ => True) (nd_fst (fun i => T a (s * 8 + i)) 8) () trivial ?_ ?_
  · intro m _ _
    have e := nd_fst_yes _ _ hx
    unfold wY_reach_201
    rw [nd_s8 s hs _ hx]
    refine ya_bit hY ha (by omega) (nd_br (fun z => ?_) (fun z => ⟨vp_in_nI (by omega) (by omega), nm_r (e' := upd R n (nI (nd_fst (fun i => T a (s * 8 + i)) 8))) (by rw [nI_clamp (by omega)]) h⟩))
    have e : T a (s * 8 + nd_fst (fun i => T a (s * 8 + i)) 8) = true := e
    rw [e] at z; cases z
  · intro m i _ hi _ ih
    have e := nd_fst_no _ _ _ hi
    unfold wY_reach_201
    rw [nd_s8 s hs i (by omega)]
    refine ya_bit hY ha (by omega) (nd_br (fun z => nm_r (nI_1 i) (ih () trivial)) (fun z => ?_))
    have e : T a (s * 8 + i) = false := e
    rw [e] at z; cases z
theorem yf_142 {T : Nat → Nat → Bool} {p : Nat → Bool} {a s n k : Nat} {R : Nat → Int32} (hY : nd_Y yl yh T) (hs : s < 16) (hn : n < 16) (hk : k < n) (hA : yA (n - 1 - k) = nI (nd_m p 16)) (hx : nd_fst (fun i => p (nd_nx (fun k => T (32 + k)) s i)) 8 < 8) {post : Int32 → SY → Prop} {J : Int32 → Int32 → (Nat → Int64) → (Nat → Int64) → (Nat → Int32) → (Nat → Int32) → (Nat → Int32) → (Nat → Int32) → (Nat → Int32) → (Nat → Int32) → (Nat → Int32) → Prop}
    (hJ : J (nI (nd_nx (fun k => T (32 + k)) s (nd_fst (fun i => p (nd_nx (fun k => T (32 + k)) s i)) 8))) (nI (k + 1)) yl yh yI yP yC yF yA yQ (upd R k (nI (nd_fst (fun i => p (nd_nx (fun k => T (32 + k)) s i)) 8)))) : ∃ m, wY_reach_142 post J (nI a) (nI n) (nI s) (nI k) yn ys yt ye yl yh yI yP yC yF yA yQ R m 0 := by
  have hm := nd_m16 p
  have e : nI n - nI k - 1 = nI (n - 1 - k) := by
    rw [show (1 : Int32) = nI 1 from rfl, pk_sub (by omega), pk_sub (by omega)]
    exact congrArg nI (by omega)
  refine loop_0 (fun m i (_ : Unit) => wY_reach_142 post J (nI a) (nI n) (nI s) (nI k) yn ys yt ye yl yh yI yP yC yF yA yQ R m (nI i)) (fun i _ => True) (nd_fst (fun i => p (nd_nx (fun k => T (32 + k)) s i)) 8) () trivial ?_ ?_
  · intro m _ _
    have e1 := nd_fst_yes _ _ hx
    have hl := nd_nxl (fun k => T (32 + k)) s (nd_fst (fun i => p (nd_nx (fun k => T (32 + k)) s i)) 8)
    unfold wY_reach_142
    rw [e, nI_clamp (show n - 1 - k < 2 ^ 31 by omega), hA]
    refine ⟨vp_in_nI (by omega) (by omega), yf_beh hY hs hx ?_⟩
    rw [nd_bit (show nd_m p 16 < 2 ^ 31 by omega) (by omega), nd_m_in hl]
    have e1 : p (nd_nx (fun k => T (32 + k)) s (nd_fst (fun i => p (nd_nx (fun k => T (32 + k)) s i)) 8)) = true := e1
    rw [e1]
    exact br_f (by decide) ⟨vp_in_nI (by omega) (by omega), nm_r (e' := upd R k (nI (nd_fst (fun i => p (nd_nx (fun k => T (32 + k)) s i)) 8))) (by rw [nI_clamp (by omega)]) (yf_beh hY hs hx (nm_r (nI_1 k) hJ))⟩
  · intro m i _ hi _ ih
    have e1 := nd_fst_no _ _ _ hi
    have hl := nd_nxl (fun k => T (32 + k)) s i
    unfold wY_reach_142
    rw [e, nI_clamp (show n - 1 - k < 2 ^ 31 by omega), hA]
    refine ⟨vp_in_nI (by omega) (by omega), yf_beh hY hs (by omega) ?_⟩
    rw [nd_bit (show nd_m p 16 < 2 ^ 31 by omega) (by omega), nd_m_in hl]
    have e1 : p (nd_nx (fun k => T (32 + k)) s i) = false := e1
    rw [e1]
    exact br_t rfl (nm_r (nI_1 i) (ih () trivial))
theorem yf_rt {T : Nat → Nat → Bool} {a s0 n : Nat} (hY : nd_Y yl yh T) (ha : a < 36) (h0 : s0 < 16) (hn : n < 16) (hL : nd_L (nd_nx (fun k => T (32 + k))) (nd_so (T a)) n s0 = true)
    (hA : ∀ k, k < n + 1 → yA k = nI (nd_m (nd_L (nd_nx (fun k => T (32 + k))) (nd_so (T a)) k) 16)) {post : Int32 → SY → Prop}
    (h : ∀ t : Nat → Int32, (∀ j, j < n + 1 → t j = nI (nd_row (nd_nx (fun k => T (32 + k))) (T a) s0 n j)) → post (nI n) (yn, nI s0, yt, ye, yl, yh, yI, yP, yC, yF, yA, yQ, t)) : ∃ m, wY_reach_133 post (nI a) (nI n) yn (nI s0) yt ye m (nI s0) 0 yl yh yI yP yC yF yA yQ yR := by
  have hps := nd_ps_L (nd_nxF (fun k => T (32 + k))) h0 hL
  refine loop_0 (fun m j (w : Int32 × (Nat → Int32)) => wY_reach_133 post (nI a) (nI n) yn (nI s0) yt ye m w.1 (nI j) yl yh yI yP yC yF yA yQ w.2) (fun j w => w.1 = nI (nd_ps (nd_nx (fun k => T (32 + k))) (nd_so (T a)) s0 n j) ∧ ∀ i, i < j → w.2 i = nI (nd_row (nd_nx (fun k => T (32 + k))) (T a) s0 n i)) n (nI s0, yR) ⟨rfl, fun i hi => absurd hi (by omega)⟩ ?_ ?_
  · rintro m ⟨w1, w2⟩ ⟨rfl, hw⟩
    refine br_t (nI_le (Nat.le_refl _) (by omega)) (yf_201 hY ha (hps n (Nat.le_refl _)).1 hn (nd_ps_T (nd_nxF _) h0 hL) (h _ (nd_lts ?_ ?_)))
    · intro i hi
      rw [pk_un (by omega)]; exact hw i hi
    · rw [pk_us, nd_row, if_neg (Nat.lt_irrefl n)]
  · rintro m j ⟨w1, w2⟩ hj ⟨rfl, hw⟩ ih
    obtain ⟨p1, p2, p3⟩ := hps j (by omega)
    have p3 := p3 hj
    have er : nd_row (nd_nx (fun k => T (32 + k))) (T a) s0 n j = nd_fst (fun i => nd_L (nd_nx (fun k => T (32 + k))) (nd_so (T a)) (n - 1 - j) (nd_nx (fun k => T (32 + k)) (nd_ps (nd_nx (fun k => T (32 + k))) (nd_so (T a)) s0 n j) i)) 8 := if_pos hj
    refine br_f (nI_ge hj (by omega)) (yf_142 hY p1 hn hj (hA (n - 1 - j) (by omega)) p3 ?_)
    refine ih (nI (nd_ps (nd_nx (fun k => T (32 + k))) (nd_so (T a)) s0 n (j + 1)), upd w2 j (nI (nd_fst (fun i => nd_L (nd_nx (fun k => T (32 + k))) (nd_so (T a)) (n - 1 - j) (nd_nx (fun k => T (32 + k)) (nd_ps (nd_nx (fun k => T (32 + k))) (nd_so (T a)) s0 n j) i)) 8))) ⟨rfl, nd_lts ?_ ?_⟩
    · intro i hi
      show upd w2 j _ i = _
      rw [pk_un (by omega)]; exact hw i hi
    · show upd w2 j _ j = _
      rw [pk_us, er]
theorem yf_reach {T : Nat → Nat → Bool} {a s0 : Nat} {e : Nat → Nat} (hY : nd_Y yl yh T) (ha : a < 36) (h0 : s0 < 16) (hD : nd_D (nd_nx (fun k => T (32 + k))) s0 e) (hF : nd_Fa yF e) {post : Int32 → SY → Prop}
    (h1 : nd_fst (fun k => nd_L (nd_nx (fun k => T (32 + k))) (nd_so (T a)) k s0) 16 = 16 → post (-1) (yn, nI s0, yt, ye, yl, yh, yI, yP, yC, yF, yA, yQ, yR))
    (h2 : ∀ n, n < 16 → nd_fst (fun k => nd_L (nd_nx (fun k => T (32 + k))) (nd_so (T a)) k s0) 16 = n → ∀ c t : Nat → Int32, (∀ j, j < n + 1 → t j = nI (nd_row (nd_nx (fun k => T (32 + k))) (T a) s0 n j)) → post (nI n) (yn, nI s0, yt, nI n, yl, yh, yI, yP, yC, yF, c, yQ, t)) :
    ∃ m, wY_reach_26 post (nI a) (nI (nd_m (nd_so (T a)) 16)) yn (nI s0) yt ye yl yh yI yP yC yF yA yQ yR m 99 0 := by
  have hm := nd_m16 (nd_so (T a))
  refine loop_0 (fun m s (r : Int32) => wY_reach_26 post (nI a) (nI (nd_m (nd_so (T a)) 16)) yn (nI s0) yt ye yl yh yI yP yC yF yA yQ yR m r (nI s)) (fun s r => ∃ n, r = nI n ∧ n ≤ 99 ∧ (∀ t, t < s → nd_so (T a) t = true → n ≤ e t) ∧ (n = 99 ∨ ∃ t, t < 16 ∧ nd_so (T a) t = true ∧ e t = n)) 16 99 ⟨99, rfl, by omega, fun t ht => by omega, Or.inl rfl⟩ ?_ ?_
  · rintro m r ⟨n, rfl, h3, h4, h5⟩
    refine br_t nd_16 ?_
    rcases nd_reach (nd_nxF _) h0 hD h4 h5 with ⟨h6, h7⟩ | ⟨h6, h7⟩
    · have hL : nd_L (nd_nx (fun k => T (32 + k))) (nd_so (T a)) n s0 = true := by
        have y := nd_fst_yes (fun k => nd_L (nd_nx (fun k => T (32 + k))) (nd_so (T a)) k s0) 16 (by omega)
        rw [h7] at y
        exact y
      refine br_f (fun y => absurd ((nI_eq (b := 99) (by omega) (by omega)).mp y) (by omega)) (nm_e ?_)
      refine pk_loop (fun m k t => wY_reach_91 post (nI a) (nI n) yn (nI s0) yt (nI n) m (nI k) yl yh yI yP yC yF t yQ yR) (fun k t => 1 ≤ k ∧ ∀ j, j < k → t j = nI (nd_m (nd_L (nd_nx (fun k => T (32 + k))) (nd_so (T a)) j) 16)) (n + 1) 1 _ (by omega) ⟨Nat.le_refl _, ?_⟩ ?_ ?_
      · intro j hj
        have e : j = 0 := by omega
        subst e
        exact pk_us
      · rintro m t ⟨_, ht⟩
        exact br_t (nI_lt (by omega) (by omega)) (yf_rt hY ha h0 h6 hL ht (fun t' ht' => h2 n h6 h7 t t' ht'))
      · rintro m k t hk ⟨h8, ht⟩ ih
        have em : nI k - 1 = nI (k - 1) := pk_sub (b := 1) h8
        refine br_f (nI_nlt (by omega) (by omega)) ?_
        rw [em, nI_clamp (show k - 1 < 2 ^ 31 by omega), ht (k - 1) (by omega)]
        refine ⟨vp_in_nI (by omega) (by omega), yf_bef (all := false) hY ⟨vp_in_nI (by omega) (by omega), ?_⟩⟩
        refine nm_r (e' := upd t k (nI (nd_m (nd_L (nd_nx (fun k => T (32 + k))) (nd_so (T a)) k) 16))) ?_ (nm_r (nI_1 k) (ih _ ⟨by omega, nd_lts ?_ pk_us⟩))
        · rw [nI_clamp (by omega)]
          obtain ⟨d, rfl⟩ : ∃ d, k = d + 1 := ⟨k - 1, by omega⟩
          rfl
        · intro j hj
          rw [pk_un (by omega)]; exact ht j hj
    · exact br_t ((nI_eq (b := 99) (by omega) (by omega)).mpr h6) (h1 h7)
  · rintro m s r hs ⟨n, rfl, h3, h4, h5⟩ ih
    have he := (hD s hs).2
    refine br_f (nd_n16 hs) ?_
    rw [nd_bit (show nd_m (nd_so (T a)) 16 < 2 ^ 31 by omega) (by omega), nd_m_in hs, nd_b1]
    refine br_c (fun z => ⟨vp_in_nI hs (by omega), ?_⟩) (fun z => nm_r (nI_1 s) (ih _ ⟨n, rfl, h3, ?_, h5⟩))
    · rw [nI_clamp (show s < 2 ^ 31 by omega), hF s hs]
      refine pk_le n (e s) (fun y => nm_r (nI_1 s) (ih _ ⟨n, rfl, h3, nd_lts h4 (fun _ => y), h5⟩)) (fun y => ⟨vp_in_nI hs (by omega), nm_e (nm_r (nI_1 s) (ih _ ⟨e s, rfl, by omega, nd_lts ?_ (fun _ => Nat.le_refl _), Or.inr ⟨s, hs, z, rfl⟩⟩))⟩)
      intro t ht y2
      have := h4 t ht y2
      omega
    · exact nd_lts h4 (fun y => absurd y z)
theorem yf_states {e : Nat → Nat} {j : Nat} (hj : j < 3) (hF : nd_Fa yF e) (he : ∀ s, s < 16 → e s < 16 ∨ e s = 99) {post : Int32 → SY → Prop} (h : post (nI (nd_sv e j)) (yn, ys, yt, ye, yl, yh, yI, yP, yC, yF, yA, yQ, yR)) : ∃ m, wY_states_25 post (nI j) yn ys yt ye yl yh yI yP yC yF yA yQ yR m 0 0 0 0 := by
  have hb := nd_mx_lt he
  refine loop_0 (fun m s (w : Int32 × Int32 × Int32) => wY_states_25 post (nI j) yn ys yt ye yl yh yI yP yC yF yA yQ yR m w.1 w.2.1 w.2.2 (nI s)) (fun s w => w = (nI (nd_cnt (fun s => decide (e s ≠ 99)) s), nI (nd_mx e s), nI (nd_m (fun s => decide (e s ≠ 99)) s))) 16 (0, 0, 0) rfl ?_ ?_
  · rintro m w rfl
    refine br_t nd_16 ?_
    have hj : j = 0 ∨ j = 1 ∨ j = 2 := by omega
    rcases hj with rfl | rfl | rfl
    · exact br_t (by decide) h
    · exact br_f (by decide) (br_t (by decide) h)
    · exact br_f (by decide) (br_f (by decide) h)
  · rintro m s w hs rfl ih
    have hb1 := hb s (by omega)
    have he1 := he s hs
    refine br_f (nd_n16 hs) ⟨vp_in_nI hs (by omega), ?_⟩
    rw [nI_clamp (show s < 2 ^ 31 by omega), hF s hs]
    refine pk_eq (e s) 99 (fun z => ?_) (fun z => ?_)
    · have zd : decide (e s ≠ 99) = false := decide_eq_false (fun y => y z)
      refine nm_r (nI_1 s) (ih _ ?_)
      rw [nd_cnt_f (q := fun s => decide (e s ≠ 99)) zd, nd_m_f (p := fun s => decide (e s ≠ 99)) zd, nd_mx, if_pos z]
    · have zd : decide (e s ≠ 99) = true := decide_eq_true z
      refine nm_r (nI_1 _) (nm_r (nd_orb (by omega)) ⟨vp_in_nI hs (by omega), ?_⟩)
      refine pk_le (e s) (nd_mx e s) (fun y => ?_) (fun y => ⟨vp_in_nI hs (by omega), nm_e ?_⟩)
      · refine nm_r (nI_1 s) (ih (nI (nd_cnt (fun s => decide (e s ≠ 99)) s + 1), nI (nd_mx e s), nI (nd_m (fun s => decide (e s ≠ 99)) s ||| 2 ^ s)) ?_)
        rw [nd_cnt_t (q := fun s => decide (e s ≠ 99)) zd, nd_m_t (p := fun s => decide (e s ≠ 99)) zd, nd_mx, if_neg z, if_pos y]
      · refine nm_r (nI_1 s) (ih (nI (nd_cnt (fun s => decide (e s ≠ 99)) s + 1), nI (e s), nI (nd_m (fun s => decide (e s ≠ 99)) s ||| 2 ^ s)) ?_)
        rw [nd_cnt_t (q := fun s => decide (e s ≠ 99)) zd, nd_m_t (p := fun s => decide (e s ≠ 99)) zd, nd_mx, if_neg z, if_neg (by omega)]
end NDY
