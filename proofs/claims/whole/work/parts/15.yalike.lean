/-! the reference: check, alike -/
section NDY
variable {yn ys yt ye : Int32} {yl yh : Nat → Int64} {yI yP yC yF yA yQ yR : Nat → Int32}
theorem nd_8c {j : Nat} (h : j < 8) : j = 0 ∨ j = 1 ∨ j = 2 ∨ j = 3 ∨ j = 4 ∨ j = 5 ∨ j = 6 ∨ j = 7 := by omega
theorem yg_co {T : Nat → Nat → Bool} {g t : Nat → Bool} {all : Bool} {x1 x5 : Int32} (hY : nd_Y yl yh T) (h6 : 6 ≤ x1) (h4 : 4 ≤ x1) {post : Int32 → Prop} (hp : post (nI (nd_m (nd_co (nd_nx (fun k => T (32 + k))) all g t 16) 16))) : ∃ m, wY_check_116 post x1 (nI (nd_m t 16)) (nI (nd_m g 16)) (nd_b all) yn ys yt ye yl yh yI yP yC yF yA yQ yR m (nI (nd_m g 16)) 0 := by
  refine loop_0 (fun m k r => wY_check_116 post x1 (nI (nd_m t 16)) (nI (nd_m g 16)) (nd_b all) yn ys yt ye yl yh yI yP yC yF yA yQ yR m r (nI k)) (fun k r => r = nI (nd_m (nd_co (nd_nx (fun k => T (32 + k))) all g t k) 16)) 17 _ rfl ?_ ?_
  · rintro m r rfl
    rw [← nd_m_congr (nd_co_stab (nd_nxF (fun k => T (32 + k))) all g t)] at hp
    exact br_t (nI_le (a := 17) (b := 17) (by omega) (by omega)) hp
  · rintro m k r hk rfl ih
    refine br_f (nI_ge (b := 17) hk (by omega)) (yf_bef hY (br_t h4 (br_t h6 (nm_r ?_ (nm_r (nI_1 k) (ih _ rfl))))))
    rw [nx_and, nd_m_and, nd_or, nd_m_or]
    rfl
theorem yg_ev {T : Nat → Nat → Bool} {g : Nat → Bool} {all : Bool} {x1 x5 : Int32} (hY : nd_Y yl yh T) (h4 : ¬ 4 ≤ x1) {post : Int32 → Prop} (hp : post (nI (nd_m (nd_co (nd_nx (fun k => T (32 + k))) all g (fun _ => true) 16) 16))) : ∃ m, wY_check_116 post x1 (nI (nd_m g 16)) x5 (nd_b all) yn ys yt ye yl yh yI yP yC yF yA yQ yR m (nI (nd_m g 16)) 0 := by
  refine loop_0 (fun m k r => wY_check_116 post x1 (nI (nd_m g 16)) x5 (nd_b all) yn ys yt ye yl yh yI yP yC yF yA yQ yR m r (nI k)) (fun k r => r = nI (nd_m (nd_co (nd_nx (fun k => T (32 + k))) all g (fun _ => true) k) 16)) 17 _ rfl ?_ ?_
  · rintro m r rfl
    rw [← nd_m_congr (nd_co_stab (nd_nxF (fun k => T (32 + k))) all g (fun _ => true))] at hp
    exact br_t (nI_le (a := 17) (b := 17) (by omega) (by omega)) hp
  · rintro m k r hk rfl ih
    refine br_f (nI_ge (b := 17) hk (by omega)) (yf_bef hY (br_f h4 (nm_r ?_ (nm_r (nI_1 k) (ih _ rfl)))))
    rw [nd_or, nd_m_or]
    rfl
theorem yg_st {T : Nat → Nat → Bool} {g : Nat → Bool} {all : Bool} {x1 x5 : Int32} (hY : nd_Y yl yh T) (h6 : ¬ 6 ≤ x1) (h4 : 4 ≤ x1) {post : Int32 → Prop} (hp : post (nI (nd_m (nd_st (nd_nx (fun k => T (32 + k))) all g 16) 16))) : ∃ m, wY_check_116 post x1 (nI (nd_m g 16)) x5 (nd_b all) yn ys yt ye yl yh yI yP yC yF yA yQ yR m (nI (nd_m g 16)) 0 := by
  refine loop_0 (fun m k r => wY_check_116 post x1 (nI (nd_m g 16)) x5 (nd_b all) yn ys yt ye yl yh yI yP yC yF yA yQ yR m r (nI k)) (fun k r => r = nI (nd_m (nd_st (nd_nx (fun k => T (32 + k))) all g k) 16)) 17 _ rfl ?_ ?_
  · rintro m r rfl
    rw [← nd_m_congr (nd_st_stab (nd_nxF (fun k => T (32 + k))) all g)] at hp
    exact br_t (nI_le (a := 17) (b := 17) (by omega) (by omega)) hp
  · rintro m k r hk rfl ih
    refine br_f (nI_ge (b := 17) hk (by omega)) (yf_bef hY (br_t h4 (br_f h6 (nm_r ?_ (nm_r (nI_1 k) (ih _ rfl))))))
    rw [nx_and, nd_m_and]
    rfl
theorem yg_82 {T : Nat → Nat → Bool} {j : Nat} {A B : Nat → Bool} {z : Int32} (hY : nd_Y yl yh T) (hj : j < 8) (hz : 6 ≤ j → z = nI (nd_m B 16)) {post : Int32 → Prop} (hp : post (nI (nd_ck (nd_nx (fun k => T (32 + k))) j A B))) : wY_check_82 post (nI j) (nI (nd_m A 16)) z (nd_b (decide (j % 2 = 1))) yn ys yt ye yl yh yI yP yC yF yA yQ yR := by
  unfold nd_ck at hp
  by_cases h2 : j < 2
  · rw [if_pos h2] at hp
    exact br_f (nI_ge (b := 2) h2 (by omega)) (yf_bef hY hp)
  · rw [if_neg h2] at hp
    refine br_t (nI_le (a := 2) (by omega) (by omega)) ?_
    by_cases h4 : j < 4
    · rw [if_pos h4] at hp
      exact br_f (nI_ge (b := 6) (by omega) (by omega)) (yg_ev hY (nI_ge (b := 4) h4 (by omega)) hp)
    · rw [if_neg h4] at hp
      have l4 : (4 : Int32) ≤ nI j := nI_le (a := 4) (by omega) (by omega)
      by_cases h6 : j < 6
      · rw [if_pos h6] at hp
        have l6 : ¬ (6 : Int32) ≤ nI j := nI_ge (b := 6) h6 (by omega)
        exact br_f l6 (yg_st hY l6 l4 hp)
      · rw [if_neg h6] at hp
        have l6 : (6 : Int32) ≤ nI j := nI_le (a := 6) (by omega) (by omega)
        have hz := hz (by omega)
        subst hz
        exact br_t l6 (yg_co (x5 := 0) hY l6 l4 hp)
theorem yg_54 {T : Nat → Nat → Bool} {j : Nat} {A B : Nat → Bool} {z : Int32} (hY : nd_Y yl yh T) (hj : j < 8) (hz : 6 ≤ j → z = nI (nd_m B 16)) {post : Int32 → Prop} (hp : post (nI (nd_ck (nd_nx (fun k => T (32 + k))) j A B))) : wY_check_54 post (nI j) (nI (nd_m A 16)) z yn ys yt ye yl yh yI yP yC yF yA yQ yR := by
  have h : wY_check_82 post (nI j) (nI (nd_m A 16)) z (nd_b (decide (j % 2 = 1))) yn ys yt ye yl yh yI yP yC yF yA yQ yR := yg_82 hY hj hz hp
  rcases nd_8c hj with rfl | rfl | rfl | rfl | rfl | rfl | rfl | rfl
  · exact br_f (by decide) (br_f (by decide) (br_f (by decide) (br_f (by decide) h)))
  · exact br_t (by decide) h
  · exact br_f (by decide) (br_f (by decide) (br_f (by decide) (br_f (by decide) h)))
  · exact br_f (by decide) (br_t (by decide) h)
  · exact br_f (by decide) (br_f (by decide) (br_f (by decide) (br_f (by decide) h)))
  · exact br_f (by decide) (br_f (by decide) (br_t (by decide) h))
  · exact br_f (by decide) (br_f (by decide) (br_f (by decide) (br_f (by decide) h)))
  · exact br_f (by decide) (br_f (by decide) (br_f (by decide) (br_t (by decide) h)))
theorem yg_33 {T : Nat → Nat → Bool} {j a b : Nat} {p3 : Int32} (hY : nd_Y yl yh T) (hj : j < 8) (ha : a < 36) (hb : 6 ≤ j → b < 36 ∧ p3 = nI b) {post : Int32 → Prop} (hp : post (nI (nd_ck (nd_nx (fun k => T (32 + k))) j (nd_so (T a)) (nd_so (T b))))) : wY_check_33 post (nI j) (nI a) p3 yn ys yt ye yl yh yI yP yC yF yA yQ yR := by
  unfold wY_check_33
  refine yf_set hY ha ?_
  refine pk_le j 5 (fun z => yg_54 hY hj (fun y => by omega) hp) (fun z => ?_)
  obtain ⟨hb', rfl⟩ := hb (by omega)
  exact yf_set hY hb' (yg_54 hY hj (fun _ => rfl) hp)
/-! alike -/
theorem nd_k4 {k : Nat} (hk : k < 256) : nI k >>> ((4 : Int32) &&& 31) = nI (k / 16) := pk_shrN (by omega) _ 4 (by decide)
theorem nd_kf {k : Nat} (hk : k < 256) : nI k &&& 15 = nI (k % 16) := pk_andN (by omega) 4 (by decide)
theorem nd_16s (s t : Nat) : 16 * nI s + nI t = nI (16 * s + t) := by
  rw [show (16 : Int32) = nI 16 from rfl, pk_mul, nI_add]
theorem yg_split {T : Nat → Nat → Bool} {A : Nat → Bool} {k : Nat} (hY : nd_Y yl yh T) (hk : k < 256) (hA : nd_I yQ A 256) {post : Int32 → Prop} (hp : post (nd_b (nd_any (fun i => A (16 * nd_nx (fun k => T (32 + k)) (k / 16) i + nd_nx (fun k => T (32 + k)) (k % 16) i)) 8))) : wpY_split post (yn, ys, yt, ye, yl, yh, yI, yP, yC, yF, yA, yQ, yR) (nI k) := by
  refine loop_0 (fun m i (_ : Unit) => wY_split_2 post (nI k) yn ys yt ye yl yh yI yP yC yF yA yQ yR m (nI i)) (fun n _ => ∀ i, i < n → A (16 * nd_nx (fun k => T (32 + k)) (k / 16) i + nd_nx (fun k => T (32 + k)) (k % 16) i) = false) 8 () (fun u hu => absurd hu (by omega)) ?_ ?_
  · intro m _ h
    rw [nd_any_f h] at hp
    exact br_t nd_8 hp
  · intro m i _ hi h ih
    have l1 := nd_nxl (fun k => T (32 + k)) (k / 16) i
    have l2 := nd_nxl (fun k => T (32 + k)) (k % 16) i
    refine br_f (nd_n8 hi) ?_
    rw [nd_k4 hk, nd_kf hk]
    refine yf_beh hY (by omega) hi (yf_beh hY (by omega) hi ?_)
    rw [nd_16s, nI_clamp (show 16 * nd_nx (fun k => T (32 + k)) (k / 16) i + nd_nx (fun k => T (32 + k)) (k % 16) i < 2 ^ 31 by omega), hA _ (by omega)]
    refine ⟨vp_in_nI (by omega) (by omega), nd_br (fun z => nm_r (nI_1 i) (ih () (nd_lts h z))) (fun z => ?_)⟩
    rw [nd_any_iff.mpr ⟨i, hi, z⟩] at hp
    exact hp
theorem yg_rounds {T : Nat → Nat → Bool} {g : Nat → Nat → Bool} {p : Int32} (hY : nd_Y yl yh T) {A : Nat → Bool} (hA : nd_I yQ A 256) (h0 : nd_A (nd_nx (fun k => T (32 + k))) g 0 0 A) {post : Int32 → SY → Prop}
    (h : ∀ t : Nat → Int32, nd_I t (fun j => !nd_E (nd_nx (fun k => T (32 + k))) g 16 (j / 16) (j % 16)) 256 → ∃ m, wY_alike_163 post p yn ys yt ye yl yh yI yP yC yF yA t yR m 0 0) : ∃ m, wY_alike_98 post p yn ys yt ye m 0 yl yh yI yP yC yF yA yQ yR := by
  refine loop_0 (fun m r t => wY_alike_98 post p yn ys yt ye m (nI r) yl yh yI yP yC yF yA t yR) (fun r t => ∃ A, nd_I t A 256 ∧ nd_A (nd_nx (fun k => T (32 + k))) g r 0 A) 16 yQ ⟨A, hA, h0⟩ ?_ ?_
  · rintro m t ⟨A, h1, h2⟩
    refine br_t nd_16 (h t ?_)
    intro j hj
    rw [h1 j hj, nd_A_D (nd_nxF _) h2 j hj]
  · rintro m r t hr ⟨A, h1, h2⟩ ih
    refine br_f (nd_n16 hr) ?_
    refine loop_0 (fun m' k t => wY_alike_107 post (wY_alike_98 post p yn ys yt ye m) p (nI r) yn ys yt ye m' (nI k) yl yh yI yP yC yF yA t yR) (fun k t => ∃ A, nd_I t A 256 ∧ nd_A (nd_nx (fun k => T (32 + k))) g r k A) 256 t ⟨A, h1, h2⟩ ?_ ?_
    · rintro m' t ⟨A, h1, h2⟩
      exact br_t (nI_le (a := 256) (b := 256) (by omega) (by omega)) (nm_r (nI_1 r) (ih t ⟨A, h1, nd_A_n h2⟩))
    · rintro m' k t hk ⟨A, h1, h2⟩ ih2
      have hkk : (nI k).toNatClampNeg = k := nI_clamp (by omega)
      have put : ∀ (b : Bool) (z : Int32), z = nd_b b → b = (A k || nd_any (fun i => A (16 * nd_nx (fun k => T (32 + k)) (k / 16) i + nd_nx (fun k => T (32 + k)) (k % 16) i)) 8) → ∀ w, w = upd t (nI k).toNatClampNeg (vp_nar .boolean z) → ∀ y, y = nI k + 1 → wY_alike_107 post (wY_alike_98 post p yn ys yt ye m) p (nI r) yn ys yt ye m' y yl yh yI yP yC yF yA w yR := by
        rintro b z rfl hb
        refine nm_r (e' := upd t k (nd_b b)) (by rw [hkk, nd_bv]) (nm_r (nI_1 k) (ih2 _ ⟨fun j => if j = k then b else A j, ?_, nd_A_s (nd_nxF _) hk h2 ?_ ?_⟩))
        · intro j hj
          dsimp only
          by_cases y : j = k
          · rw [y, pk_us, if_pos rfl]
          · rw [pk_un y, if_neg y]
            exact h1 j hj
        · rw [if_pos rfl]; exact hb
        · intro j hj
          exact if_neg hj
      refine br_f (nI_ge (b := 256) hk (by omega)) ⟨vp_in_nI hk (by omega), ?_⟩
      have hs : t (nI k).toNatClampNeg = nd_b (A k) := by rw [hkk]; exact h1 k hk
      rw [hs]
      refine nd_br (fun z => yg_split hY hk h1 (nd_br (fun w => ⟨vp_in_nI hk (by omega), put false 0 rfl ?_⟩) (fun w => ⟨vp_in_nI hk (by omega), put true 1 rfl ?_⟩))) (fun z => ⟨vp_in_nI hk (by omega), put true 1 rfl ?_⟩)
      · rw [z, w]; rfl
      · rw [z, w]; rfl
      · rw [z]; rfl
theorem yg_init {T : Nat → Nat → Bool} {f : Nat → Nat → Nat} {a : Nat} {p : Int32} (hY : nd_Y yl yh T) (ha : a < 36) {post : Int32 → SY → Prop}
    (h : ∀ t : Nat → Int32, nd_I t (fun j => !nd_E f (fun s i => T a (s * 8 + i)) 0 (j / 16) (j % 16)) 256 → ∃ m, wY_alike_98 post p yn ys yt ye m 0 yl yh yI yP yC yF yA t yR) : ∃ m, wY_alike_23 post (nI a) p yn ys yt ye m 0 yl yh yI yP yC yF yA yQ yR := by
  refine loop_0 (fun m k t => wY_alike_23 post (nI a) p yn ys yt ye m (nI k) yl yh yI yP yC yF yA t yR) (fun k t => nd_I t (fun j => !nd_E f (fun s i => T a (s * 8 + i)) 0 (j / 16) (j % 16)) k) 256 yQ (fun u hu => absurd hu (by omega)) ?_ ?_
  · intro m t ht
    exact br_t (nI_le (a := 256) (b := 256) (by omega) (by omega)) (h t ht)
  · intro m k t hk ht ih
    have hkk : (nI k).toNatClampNeg = k := nI_clamp (by omega)
    refine br_f (nI_ge (b := 256) hk (by omega)) ⟨vp_in_nI hk (by omega), nm_r (e' := upd t k (nd_b false)) (by rw [hkk]; exact congrArg _ (nd_bv false)) ?_⟩
    refine loop_0 (fun m' i w => wY_alike_40 post (wY_alike_23 post (nI a) p yn ys yt ye m) (nI a) p (nI k) yn ys yt ye m' (nI i) yl yh yI yP yC yF yA w yR) (fun i w => w k = nd_b (!nd_all (fun i => T a (k / 16 * 8 + i) == T a (k % 16 * 8 + i)) i) ∧ ∀ j, j ≠ k → w j = t j) 8 _ ⟨pk_us, fun j hj => pk_un hj⟩ ?_ ?_
    · rintro m' w ⟨h1, h2⟩
      refine br_t nd_8 (nm_r (nI_1 k) (ih w (nd_lts ?_ h1)))
      intro j hj
      rw [h2 j (by omega)]; exact ht j hj
    · rintro m' i w hi ⟨h1, h2⟩ ih2
      refine br_f (nd_n8 hi) ?_
      rw [nd_k4 hk, nd_kf hk, nd_s8 _ (show k / 16 < 16 by omega) i hi, nd_s8 _ (show k % 16 < 16 by omega) i hi]
      refine ya_bit hY ha (by omega) (ya_bit hY ha (by omega) (nd_bq (fun z => nm_r (nI_1 i) (ih2 _ ⟨?_, h2⟩)) (fun z => ⟨vp_in_nI hk (by omega), ?_⟩)))
      · rw [nd_all, z, BEq.rfl, Bool.and_true]; exact h1
      · refine nm_r (e' := upd w k (nd_b true)) (by rw [hkk]; exact congrArg _ (nd_bv true)) (nm_r (nI_1 i) (ih2 _ ⟨?_, ?_⟩))
        · rw [pk_us, nd_all, beq_eq_false_iff_ne.mpr z, Bool.and_false]; rfl
        · intro j hj
          rw [pk_un hj]; exact h2 j hj
theorem yg_fin {f : Nat → Nat → Nat} {g : Nat → Nat → Bool} {p : Int32} (hQ : nd_I yQ (fun j => !nd_E f g 16 (j / 16) (j % 16)) 256) {post : Int32 → SY → Prop}
    (h1 : ∀ s, s < 16 → p = nI s → post (nI (nd_lk f g 16 s)) (yn, ys, yt, ye, yl, yh, yI, yP, yC, yF, yA, yQ, yR))
    (h2 : (∀ s, s < 16 → p ≠ nI s) → post (nI (nd_cnt (fun s => nd_lk f g 16 s == s) 16)) (yn, ys, yt, ye, yl, yh, yI, yP, yC, yF, yA, yQ, yR)) : ∃ m, wY_alike_163 post p yn ys yt ye yl yh yI yP yC yF yA yQ yR m 0 0 := by
  refine loop_0 (fun m s (r : Int32) => wY_alike_163 post p yn ys yt ye yl yh yI yP yC yF yA yQ yR m r (nI s)) (fun s r => r = nI (nd_cnt (fun s => nd_lk f g 16 s == s) s) ∧ ∀ t, t < s → p ≠ nI t) 16 0 ⟨rfl, fun u hu => absurd hu (by omega)⟩ ?_ ?_
  · rintro m r ⟨rfl, h⟩
    exact br_t nd_16 (h2 h)
  · rintro m s r hs ⟨rfl, h⟩ ih
    refine br_f (nd_n16 hs) ?_
    have hle := nd_lk_le (f := f) (g := g) 16 s
    have hE := nd_lk_E (f := f) (g := g) 16 s
    have rd : ∀ t, t < 16 → yQ (16 * nI s + nI t).toNatClampNeg = nd_b (!nd_E f g 16 s t) := by
      intro t ht
      rw [nd_16s, nI_clamp (by omega), hQ _ (by omega)]
      show nd_b (!nd_E f g 16 ((16 * s + t) / 16) ((16 * s + t) % 16)) = nd_b (!nd_E f g 16 s t)
      rw [show (16 * s + t) / 16 = s by omega, show (16 * s + t) % 16 = t by omega]
    have iv : ∀ t, t < 16 → vp_in (16 * nI s + nI t) 256 := by
      intro t ht
      rw [nd_16s]
      exact vp_in_nI (by omega) (by omega)
    refine loop_0 (fun m' t (_ : Unit) => wY_alike_173 post (wY_alike_163 post p yn ys yt ye yl yh yI yP yC yF yA yQ yR m) p (nI (nd_cnt (fun s => nd_lk f g 16 s == s) s)) (nI s) yn ys yt ye yl yh yI yP yC yF yA yQ yR m' (nI t)) (fun _ _ => True) (nd_lk f g 16 s) () trivial ?_ ?_
    · intro m' _ _
      unfold wY_alike_173
      rw [rd _ (by omega), nd_E_y _ _ _ hE]
      refine ⟨iv _ (by omega), br_t rfl (br_c (fun z => h1 s hs z.symm) (fun z => ?_))⟩
      have hn : ∀ t, t < s + 1 → p ≠ nI t := nd_lts h (fun y => z y.symm)
      refine nd_lkq (by omega) hs (fun w => nm_r (nI_1 _) (nm_r (nI_1 s) (ih _ ⟨?_, hn⟩))) (fun w => nm_r (nI_1 s) (ih _ ⟨?_, hn⟩))
      · rw [nd_cnt_t (q := fun s => nd_lk f g 16 s == s) w]
      · rw [nd_cnt_f (q := fun s => nd_lk f g 16 s == s) w]
    · intro m' t _ ht _ ih2
      have e : nd_E f g 16 s t = false := by
        cases y : nd_E f g 16 s t
        · rfl
        · have := nd_lk_min (nd_E_y _ _ _ y)
          omega
      unfold wY_alike_173
      rw [rd t (by omega), e]
      exact ⟨iv t (by omega), br_f (by decide) (nm_r (nI_1 t) (ih2 () trivial))⟩
end NDY
