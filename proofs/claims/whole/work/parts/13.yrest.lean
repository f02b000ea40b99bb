/-! pasted from kit/rows -/
theorem pk_loopD {σ : Type} (W : Nat → Nat → σ → Prop) (I : Nat → σ → Prop) (hx : ∀ n s, I 0 s → W (n + 1) 0 s)
    (hs : ∀ n i s, I (i + 1) s → (∀ s', I i s' → W n i s') → W (n + 1) (i + 1) s) : ∀ (e : Nat) (s : σ), I e s → W (e + 1) e s := by
  intro e
  induction e with
  | zero => exact fun s h => hx 0 s h
  | succ e ih => exact fun s h => hs (e + 1) e s h (fun s' h' => ih s' h')
/-! the reference: the rest of ask, shape, same, prime -/
section NDY
variable {yn ys yt ye : Int32} {yl yh : Nat → Int64} {yI yP yC yF yA yQ yR : Nat → Int32}
theorem nd_bI (b : Bool) : nd_b b = nI (if b then 1 else 0) := by cases b <;> rfl
theorem ye_cnt {T : Nat → Nat → Bool} {a : Nat} {p : Int32} (hY : nd_Y yl yh T) (ha : a < 36) {post : Int32 → SY → Prop}
    (h0 : p = 0 → post (nI (nd_cnt (T a) 128)) (yn, ys, yt, ye, yl, yh, yI, yP, yC, yF, yA, yQ, yR)) (h1 : ¬ p = 0 → post (nd_ls (T a) 128) (yn, ys, yt, ye, yl, yh, yI, yP, yC, yF, yA, yQ, yR)) : ∃ m, wY_ask_34 post (nI a) p yn ys yt ye yl yh yI yP yC yF yA yQ yR m 0 (-1) 127 := by
  refine ⟨129, ?_⟩
  refine pk_loopD (fun m i (s : Int32 × Int32) => wY_ask_34 post (nI a) p yn ys yt ye yl yh yI yP yC yF yA yQ yR m s.1 s.2 (nI i - 1)) (fun i s => i ≤ 128 ∧ s.1 = nI (nd_cnt (T a) 128 - nd_cnt (T a) i) ∧ ((s.2 = -1 ∧ ∀ x, i ≤ x → x < 128 → T a x = false) ∨ ∃ y, i ≤ y ∧ y < 128 ∧ s.2 = nI y ∧ T a y = true ∧ ∀ x, i ≤ x → x < y → T a x = false)) ?_ ?_ 128 (0, -1) ⟨Nat.le_refl _, by rw [Nat.sub_self]; rfl, Or.inl ⟨rfl, fun x h1 h2 => by omega⟩⟩
  · rintro m ⟨s1, s2⟩ ⟨_, h2, h3⟩
    have e2 : s1 = nI (nd_cnt (T a) 128) := h2
    have e3 : s2 = nd_ls (T a) 128 := by
      rcases h3 with ⟨h4, h5⟩ | ⟨y, h4, h5, h6, h7, h8⟩
      · rw [nd_ls_f (fun x hx => h5 x (by omega) hx)]; exact h4
      · rw [nd_ls_t h5 (fun x hx => h8 x (by omega) hx) h7]; exact h6
    rw [← e2] at h0
    rw [← e3] at h1
    exact br_t (show nI 0 - 1 < (0 : Int32) by decide) ⟨h0, h1⟩
  · rintro m i ⟨s1, s2⟩ ⟨h1', h2, h3⟩ ih
    have e : nI (i + 1) - 1 = nI i := nI_pred i
    have e1 : nI i + (-1) = nI i - 1 := (Int32.sub_eq_add_neg (nI i) 1).symm
    have hle := nd_cnt_up (T a) (show i + 1 ≤ 128 from h1')
    have e2 : s1 = nI (nd_cnt (T a) 128 - nd_cnt (T a) (i + 1)) := h2
    show wY_ask_34 post (nI a) p yn ys yt ye yl yh yI yP yC yF yA yQ yR (m + 1) s1 s2 (nI (i + 1) - 1)
    rw [e]
    refine br_f (nI_pos (by omega)) (ya_bit hY ha (by omega) (nd_br (fun z => nm_r e1 (ih (s1, s2) ⟨by omega, ?_, ?_⟩)) (fun z => ?_)))
    · rw [nd_cnt_f z] at e2; exact e2
    · rcases h3 with ⟨h4, h5⟩ | ⟨y, h4, h5, h6, h7, h8⟩
      · refine Or.inl ⟨h4, fun x a1 a2 => ?_⟩
        by_cases w : x = i
        · rw [w]; exact z
        · exact h5 x (by omega) a2
      · refine Or.inr ⟨y, by omega, h5, h6, h7, fun x a1 a2 => ?_⟩
        by_cases w : x = i
        · rw [w]; exact z
        · exact h8 x (by omega) a2
    · refine nm_r (e' := nI (nd_cnt (T a) 128 - nd_cnt (T a) i)) ?_ (nm_r e1 (ih (nI (nd_cnt (T a) 128 - nd_cnt (T a) i), nI i) ⟨by omega, rfl, Or.inr ⟨i, Nat.le_refl _, by omega, rfl, z, fun x a1 a2 => by omega⟩⟩))
      rw [e2, nI_1]
      rw [nd_cnt_t z] at hle ⊢
      exact congrArg nI (by omega)
theorem ye_181 {T : Nat → Nat → Bool} {a : Nat} (hY : nd_Y yl yh T) (ha : a < 36) {post : Int32 → SY → Prop} (h : post (nI (nd_dc (T a))) (yn, ys, yt, ye, yl, yh, yI, yP, yC, yF, yA, yQ, yR)) : ∃ m, wY_ask_181 post (nI a) 3 yn ys yt ye yl yh yI yP yC yF yA yQ yR m 0 0 := by
  refine loop_0 (fun m v s => wY_ask_181 post (nI a) 3 yn ys yt ye yl yh yI yP yC yF yA yQ yR m s (nI v)) (fun v s => s = nI (nd_sum (nd_pt (T a)) v)) 7 0 rfl ?_ ?_
  · rintro m s rfl
    exact br_t nd_7 h
  · rintro m v s hv rfl ih
    exact br_f (nd_n7 hv) (br_t rfl (yb_pt hY ha hv (nm_r (nI_add _ _) (nm_r (nI_1 v) (ih _ rfl)))))
theorem ye_181n {a p c : Int32} (hp : ¬ p = 3) {post : Int32 → SY → Prop} (h : post c (yn, ys, yt, ye, yl, yh, yI, yP, yC, yF, yA, yQ, yR)) : ∃ m, wY_ask_181 post a p yn ys yt ye yl yh yI yP yC yF yA yQ yR m c 0 :=
  ⟨1, br_f (by decide) (br_f hp h)⟩
theorem ye_139 {T : Nat → Nat → Bool} {a : Nat} (hY : nd_Y yl yh T) (ha : a < 36) {post : Int32 → SY → Prop} (h : post (nI (nd_m (nd_dep (T a)) 7)) (yn, ys, yt, ye, yl, yh, yI, yP, yC, yF, yA, yQ, yR)) : ∃ m, wY_ask_139 post (nI a) 2 yn ys yt ye yl yh yI yP yC yF yA yQ yR m 0 0 := by
  refine loop_0 (fun m v s => wY_ask_139 post (nI a) 2 yn ys yt ye yl yh yI yP yC yF yA yQ yR m s (nI v)) (fun v s => s = nI (nd_m (nd_dep (T a)) v)) 7 0 rfl ?_ ?_
  · rintro m s rfl
    exact br_t nd_7 (ye_181n (by decide) h)
  · rintro m v s hv rfl ih
    refine br_f (nd_n7 hv) (br_t rfl (yb_dep hY ha hv (nd_br (fun z => nm_r (nd_or _ 0) (nm_r (nI_1 v) (ih _ ?_))) (fun z => nm_r (nd_orb (by omega)) (nm_r (nI_1 v) (ih _ ?_))))))
    · rw [nd_m_f z, Nat.or_zero]
    · rw [nd_m_t z]
theorem ye_139n {a p c : Int32} (hp : ¬ p = 2) {post : Int32 → SY → Prop} (h : ∃ m, wY_ask_181 post a p yn ys yt ye yl yh yI yP yC yF yA yQ yR m c 0) : ∃ m, wY_ask_139 post a p yn ys yt ye yl yh yI yP yC yF yA yQ yR m c 0 :=
  ⟨1, br_f (by decide) (br_f hp h)⟩
theorem ye_104 {q : Nat → Bool} {a : Int32} (hq : nd_I yP q 2187) {post : Int32 → SY → Prop} (h : post (nI (nd_cnt q 2187)) (yn, ys, yt, ye, yl, yh, yI, yP, yC, yF, yA, yQ, yR)) : ∃ m, wY_ask_104 post a 4 yn ys yt ye yl yh yI yP yC yF yA yQ yR m 0 0 := by
  refine loop_0 (fun m c s => wY_ask_104 post a 4 yn ys yt ye yl yh yI yP yC yF yA yQ yR m s (nI c)) (fun c s => s = nI (nd_cnt q c)) 2187 0 rfl ?_ ?_
  · rintro m s rfl
    exact br_t nd_c2187 (ye_139n (by decide) (ye_181n (by decide) h))
  · rintro m c s hc rfl ih
    refine br_f (nd_n2187 hc) ⟨vp_in_nI hc (by omega), ?_⟩
    rw [nI_clamp (show c < 2 ^ 31 by omega), hq c hc]
    refine nd_br (fun z => nm_r (nI_add _ 0) (nm_r (nI_1 c) (ih _ ?_))) (fun z => nm_r (nI_1 _) (nm_r (nI_1 c) (ih _ ?_)))
    · rw [nd_cnt_f z, Nat.add_zero]
    · rw [nd_cnt_t z]
/-- the answers of ask -/
def nd_ak (T : Nat → Bool) (j : Nat) : Int32 :=
  if j = 0 then nI (nd_cnt T 128) else if j = 1 then nd_ls T 128 else if j = 2 then nI (nd_m (nd_dep T) 7) else if j = 3 then nI (nd_dc T) else if j = 4 then nI (nd_cnt (nd_q T) 2187) else nI (nd_ess (nd_q T))
theorem nd_ak_0 (T : Nat → Bool) : nd_ak T 0 = nI (nd_cnt T 128) := by unfold nd_ak; rw [if_pos rfl]
theorem nd_ak_1 (T : Nat → Bool) : nd_ak T 1 = nd_ls T 128 := by unfold nd_ak; rw [if_neg (by decide), if_pos rfl]
theorem nd_ak_2 (T : Nat → Bool) : nd_ak T 2 = nI (nd_m (nd_dep T) 7) := by unfold nd_ak; rw [if_neg (by decide), if_neg (by decide), if_pos rfl]
theorem nd_ak_3 (T : Nat → Bool) : nd_ak T 3 = nI (nd_dc T) := by unfold nd_ak; rw [if_neg (by decide), if_neg (by decide), if_neg (by decide), if_pos rfl]
theorem nd_ak_4 (T : Nat → Bool) : nd_ak T 4 = nI (nd_cnt (nd_q T) 2187) := by unfold nd_ak; rw [if_neg (by decide), if_neg (by decide), if_neg (by decide), if_neg (by decide), if_pos rfl]
theorem nd_ak_5 (T : Nat → Bool) : nd_ak T 5 = nI (nd_ess (nd_q T)) := by unfold nd_ak; rw [if_neg (by decide), if_neg (by decide), if_neg (by decide), if_neg (by decide), if_neg (by decide)]
theorem nd_6 {j : Nat} (h : j < 6) : j = 0 ∨ j = 1 ∨ j = 2 ∨ j = 3 ∨ j = 4 ∨ j = 5 := by omega
theorem ye_ask {T : Nat → Nat → Bool} {n : Nat} {p0 p1 : Int32} (hY : nd_Y yl yh T) (hn : n ≤ 32) {post : Int32 → SY → Prop}
    (h : ∀ i p c : Nat → Int32, (∀ a j, a < n → j < 6 → p0 = nI a → p1 = nI j → post (nd_ak (T a) j) (nI n, ys, yt, ye, yl, yh, i, p, c, yF, yA, yQ, yR)) ∧ ((nd_in p0 n && nd_in p1 6) = false → post (-1) (nI n, ys, yt, ye, yl, yh, i, p, c, yF, yA, yQ, yR))) : wpY_ask post (nI n, ys, yt, ye, yl, yh, yI, yP, yC, yF, yA, yQ, yR) p0 p1 := by
  unfold wpY_ask
  dsimp only
  refine ya_net hn (nd_br (fun z => (h yI yP yC).2 (by rw [z, Bool.false_and])) (fun z => ?_))
  refine ya_amo 6 rfl (by omega) (nd_br (fun z2 => (h yI yP yC).2 (by rw [z2, Bool.and_false])) (fun z2 => ?_))
  obtain ⟨a, ha, rfl⟩ := (nd_in_iff (by omega)).mp z
  obtain ⟨j, hj, rfl⟩ := (nd_in_iff (by omega)).mp z2
  have h : ∀ i p c : Nat → Int32, post (nd_ak (T a) j) (nI n, ys, yt, ye, yl, yh, i, p, c, yF, yA, yQ, yR) := fun i p c => (h i p c).1 a j ha hj rfl rfl
  rcases nd_6 hj with rfl | rfl | rfl | rfl | rfl | rfl
  · rw [nd_ak_0] at h
    exact br_f (by decide) (ye_cnt hY (by omega) (fun _ => h yI yP yC) (fun z => absurd rfl z))
  · rw [nd_ak_1] at h
    exact br_f (by decide) (ye_cnt hY (by omega) (fun z => absurd z (by decide)) (fun _ => h yI yP yC))
  · rw [nd_ak_2] at h
    exact br_t (by decide) (br_t (by decide) (br_f (by decide) (br_f (by decide) (ye_139 hY (by omega) (h yI yP yC)))))
  · rw [nd_ak_3] at h
    exact br_t (by decide) (br_t (by decide) (br_f (by decide) (br_f (by decide) (ye_139n (by decide) (ye_181 hY (by omega) (h yI yP yC))))))
  · rw [nd_ak_4] at h
    exact br_t (by decide) (br_f (by decide) (yd_cubes hY (by omega) (fun i p hp => br_f (by decide) (br_t (by decide) (ye_104 hp (h i p yC))))))
  · rw [nd_ak_5] at h
    exact br_t (by decide) (br_f (by decide) (yd_cubes hY (by omega) (fun i p hp => br_t (by decide) (yd_ess hp (fun c => h i p c)))))
theorem ye_shape {T : Nat → Nat → Bool} {a v : Nat} (hY : nd_Y yl yh T) (ha : a < 36) (hv : v < 7) {post : Int32 → Prop} (hp : post (nI (nd_sh (T a) v 128))) : ∃ m, wY_shape_25 post (nI a) (nI v) yn ys yt ye yl yh yI yP yC yF yA yQ yR m 0 0 := by
  refine loop_0 (fun n i s => wY_shape_25 post (nI a) (nI v) yn ys yt ye yl yh yI yP yC yF yA yQ yR n s (nI i)) (fun i s => s = nI (nd_sh (T a) v i)) 128 0 (congrArg nI (show 0 = nd_sh (T a) v 0 from by unfold nd_sh nd_ri nd_fa; rw [nd_any, nd_any]; rfl)) ?_ ?_
  · rintro m s rfl
    exact br_t nd_128 hp
  · rintro m i s hi rfl ih
    refine br_f (nd_n128 hi) ?_
    rw [nd_bit (show i < 2 ^ 31 by omega) (by omega), nd_b1]
    refine br_c (fun z => ?_) (fun z => ?_)
    · refine nm_r (nI_1 i) (ih _ ?_)
      unfold nd_sh nd_ri nd_fa
      rw [nd_any, nd_any, z]
      simp only [Bool.not_true, Bool.false_and, Bool.or_false]
    · have z : i.testBit v = false := by
        cases y : i.testBit v
        · rfl
        · exact absurd y z
      have hr := nd_rise i hi v hv z
      refine ya_bit hY ha hi ?_
      rw [nd_orb (by omega)]
      refine ya_bit hY ha (by omega) ?_
      have key : nd_sh (T a) v (i + 1) = nd_sh (T a) v i ||| ((if (!T a i && T a (i ||| 2 ^ v)) then 1 else 0) ||| (if (T a i && !T a (i ||| 2 ^ v)) then 2 else 0)) := by
        unfold nd_sh nd_ri nd_fa
        rw [nd_any, nd_any, z]
        generalize nd_any (fun x => !x.testBit v && (!T a x && T a (x ||| 2 ^ v))) i = A
        generalize nd_any (fun x => !x.testBit v && (T a x && !T a (x ||| 2 ^ v))) i = B
        cases A <;> cases B <;> cases T a i <;> cases T a (i ||| 2 ^ v) <;> rfl
      refine nd_bq (fun w => nm_r (nI_1 i) (ih _ ?_)) (fun w => nd_br (fun w2 => ?_) (fun w2 => ?_))
      · rw [key, w]
        cases T a (i ||| 2 ^ v) <;> exact congrArg nI (Nat.or_zero _).symm
      · have w3 : T a i = true := by
          cases y : T a i
          · exact absurd (y.trans w2.symm) w
          · rfl
        refine nm_r (nd_or _ 2) (nm_r (nI_1 i) (ih _ ?_))
        rw [key, w2, w3]; rfl
      · have w3 : T a i = false := by
          cases y : T a i
          · rfl
          · exact absurd (y.trans w2.symm) w
        refine nm_r (nd_or _ 1) (nm_r (nI_1 i) (ih _ ?_))
        rw [key, w2, w3]; rfl
theorem ye_same {T : Nat → Nat → Bool} {a v w : Nat} (hY : nd_Y yl yh T) (ha : a < 36) (hv : v < 7) (hw : w < 7) {post : Int32 → Prop} (hp : post (nd_b (nd_all (fun x => T a x == T a (nd_sw x v w)) 128))) : ∃ m, wY_same_33 post (nI a) (nI v) (nI w) yn ys yt ye yl yh yI yP yC yF yA yQ yR m 0 := by
  refine loop_0 (fun n i (_ : Unit) => wY_same_33 post (nI a) (nI v) (nI w) yn ys yt ye yl yh yI yP yC yF yA yQ yR n (nI i)) (fun i _ => ∀ x, x < i → (T a x == T a (nd_sw x v w)) = true) 128 () (fun j hj => absurd hj (by omega)) ?_ ?_
  · intro m _ z
    rw [nd_all_iff.mpr z] at hp
    exact br_t nd_128 hp
  · intro m i _ hi z ih
    have hs := nd_swap v hv w hw i hi
    have b1 : ∀ b, nd_wi i v b < 128 := fun b => nd_wi_lt hi hv
    have s84 : wY_same_84 post (wY_same_33 post (nI a) (nI v) (nI w) yn ys yt ye yl yh yI yP yC yF yA yQ yR m) (nI a) (nI v) (nI w) (nI i) (nd_b (i.testBit v)) (nI w) (nI (nd_wi i v (i.testBit w))) yn ys yt ye yl yh yI yP yC yF yA yQ yR := by
      unfold wY_same_84
      refine ya_with (b1 _) hw ?_
      rw [hs.1]
      refine ya_bit hY ha hi (ya_bit hY ha hs.2 (nd_bq (fun e => nm_r (nI_1 i) (ih () (nd_lts z ?_))) (fun e => ?_)))
      · rw [e]; exact BEq.rfl
      · have e2 : nd_all (fun x => T a x == T a (nd_sw x v w)) 128 = false := nd_all_f hi (beq_eq_false_iff_ne.mpr e)
        rw [e2] at hp
        exact hp
    have s60 : wY_same_60 post (wY_same_33 post (nI a) (nI v) (nI w) yn ys yt ye yl yh yI yP yC yF yA yQ yR m) (nI a) (nI v) (nI w) (nI i) (nd_b (i.testBit w)) (nI v) (nI i) yn ys yt ye yl yh yI yP yC yF yA yQ yR := by
      unfold wY_same_60
      refine ya_with hi hv ?_
      rw [nd_bit (show i < 2 ^ 31 by omega) (by omega), nd_b1]
      revert s84
      cases i.testBit v
      · intro s84; exact br_f (by decide) s84
      · intro s84; exact br_t rfl s84
    refine br_f (nd_n128 hi) ?_
    rw [nd_bit (show i < 2 ^ 31 by omega) (by omega), nd_b1]
    revert s60
    cases i.testBit w
    · intro s60; exact br_f (by decide) s60
    · intro s60; exact br_t rfl s60
def nd_kp (q : Nat → Bool) (k : Nat) : Int32 := nd_ls (fun c => q c && decide (nd_cnt q c = k)) 2187
theorem nd_kp_t {q : Nat → Bool} {c : Nat} (hc : c < 2187) (hq : q c = true) : nd_kp q (nd_cnt q c) = nI c := by
  refine nd_ls_t (p := fun d => q d && decide (nd_cnt q d = nd_cnt q c)) hc ?_ ?_
  · intro d hd
    show (q d && decide (nd_cnt q d = nd_cnt q c)) = false
    cases y : q d
    · rfl
    · have := nd_cnt_at hd y
      rw [Bool.true_and]
      exact decide_eq_false (by omega)
  · show (q c && decide (nd_cnt q c = nd_cnt q c)) = true
    rw [hq, decide_eq_true rfl]; rfl
theorem nd_kp_f {q : Nat → Bool} {k : Nat} (h : nd_cnt q 2187 ≤ k) : nd_kp q k = -1 := by
  refine nd_ls_f (p := fun d => q d && decide (nd_cnt q d = k)) ?_
  intro d hd
  show (q d && decide (nd_cnt q d = k)) = false
  cases y : q d
  · rfl
  · have := nd_cnt_at hd y
    rw [Bool.true_and]
    exact decide_eq_false (by omega)
theorem ye_prime {q : Nat → Bool} {k : Nat} (hk : k < 2 ^ 31) (hq : nd_I yP q 2187) {post : Int32 → SY → Prop} (h : post (nd_kp q k) (yn, ys, yt, ye, yl, yh, yI, yP, yC, yF, yA, yQ, yR)) : ∃ m, wY_prime_24 post (nI k) yn ys yt ye yl yh yI yP yC yF yA yQ yR m 0 0 := by
  refine loop_0 (fun m c s => wY_prime_24 post (nI k) yn ys yt ye yl yh yI yP yC yF yA yQ yR m s (nI c)) (fun c s => s = nI (nd_cnt q c) ∧ nd_cnt q c ≤ k) 2187 0 ⟨rfl, Nat.zero_le _⟩ ?_ ?_
  · rintro m s ⟨rfl, z⟩
    rw [nd_kp_f z] at h
    exact br_t nd_c2187 h
  · rintro m c s hc ⟨rfl, z⟩ ih
    have hle := nd_cnt_le q c
    refine br_f (nd_n2187 hc) ⟨vp_in_nI hc (by omega), ?_⟩
    rw [nI_clamp (show c < 2 ^ 31 by omega), hq c hc]
    refine nd_br (fun y => nm_r (nI_1 c) (ih _ ⟨?_, ?_⟩)) (fun y => pk_eq (nd_cnt q c) k (fun w => ?_) (fun w => nm_r (nI_1 _) (nm_r (nI_1 c) (ih _ ⟨?_, ?_⟩))))
    · rw [nd_cnt_f y]
    · rw [nd_cnt_f y]; exact z
    · rw [← w, nd_kp_t hc y] at h
      exact h
    · rw [nd_cnt_t y]
    · rw [nd_cnt_t y]; omega
end NDY
