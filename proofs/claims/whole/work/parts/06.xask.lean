/-! the component: questions on one net -/
section NDX
variable {xn xr xm xc xl : Int32} {xT xM xN xI xP xC xH xL xD xR xK xF : Nat → Int32}
def nd_ls (p : Nat → Bool) (n : Nat) : Int32 := if nd_fst p n < n then nI (nd_fst p n) else -1
theorem nd_ls_t {p : Nat → Bool} {n i : Nat} (hi : i < n) (h : ∀ j, j < i → p j = false) (hp : p i = true) : nd_ls p n = nI i := by
  have e : nd_fst p n = i := nd_fst_eq (by omega) h (fun _ => hp)
  unfold nd_ls
  rw [e, if_pos hi]
theorem nd_ls_f {p : Nat → Bool} {n : Nat} (h : ∀ j, j < n → p j = false) : nd_ls p n = -1 := by
  have e : nd_fst p n = n := nd_fst_eq (Nat.le_refl _) h (fun z => absurd z (Nat.lt_irrefl _))
  unfold nd_ls
  rw [e, if_neg (Nat.lt_irrefl _)]
theorem nd_lts {i : Nat} {P : Nat → Prop} (h : ∀ j, j < i → P j) (hi : P i) : ∀ j, j < i + 1 → P j := by
  intro j hj
  by_cases z : j = i
  · rw [z]; exact hi
  · exact h j (by omega)
theorem nd_128 : (128 : Int32) ≤ nI 128 := nI_le (a := 128) (b := 128) (by omega) (by omega)
theorem nd_8 : (8 : Int32) ≤ nI 8 := nI_le (a := 8) (b := 8) (by omega) (by omega)
theorem nd_7 : (7 : Int32) ≤ nI 7 := nI_le (a := 7) (b := 7) (by omega) (by omega)
theorem nd_16 : (16 : Int32) ≤ nI 16 := nI_le (a := 16) (b := 16) (by omega) (by omega)
theorem nd_4 : (4 : Int32) ≤ nI 4 := nI_le (a := 4) (b := 4) (by omega) (by omega)
theorem nd_n128 {i : Nat} (h : i < 128) : ¬ (128 : Int32) ≤ nI i := nI_ge (b := 128) h (by omega)
theorem nd_n8 {i : Nat} (h : i < 8) : ¬ (8 : Int32) ≤ nI i := nI_ge (b := 8) h (by omega)
theorem nd_n7 {i : Nat} (h : i < 7) : ¬ (7 : Int32) ≤ nI i := nI_ge (b := 7) h (by omega)
theorem nd_n16 {i : Nat} (h : i < 16) : ¬ (16 : Int32) ≤ nI i := nI_ge (b := 16) h (by omega)
theorem nd_n4 {i : Nat} (h : i < 4) : ¬ (4 : Int32) ≤ nI i := nI_ge (b := 4) h (by omega)
theorem nd_shr128 : ∀ k, k < 8 → (128 : Int32) >>> (nI k &&& 31) = nI (128 / 2 ^ k) := by decide +kernel
theorem nd_shlN {r k : Nat} (hk : k < 32) (h : r * 2 ^ k < 2 ^ 32) : nI r <<< (nI k &&& 31) = nI (r * 2 ^ k) := pk_shlN _ k (s_l k hk) h
theorem nd_rk : ∀ k, k < 7 → ∀ r, r < 128 / 2 ^ k → r * 2 ^ k < 128 := by decide +kernel
theorem nd_pk : ∀ k, k < 7 → 2 ^ k ≤ 64 ∧ 128 / 2 ^ k ≤ 128 := by decide +kernel
theorem xb_cnt {T : Nat → Nat → Bool} {n a : Nat} (hT : nd_T xT T n) (hn : n ≤ 32) (ha : a < n) {post : Int32 → Prop} (hp : post (nI (nd_cnt (T a) 128))) : wpX_trueCount post (xn, xr, xm, xc, xl, xT, xM, xN, xI, xP, xC, xH, xL, xD, xR, xK, xF) (nI a) := by
  refine loop_0 (fun n i s => wX_trueCount_4 post (nI a) xn xr xm xc xl xT xM xN xI xP xC xH xL xD xR xK xF n s (nI i)) (fun i s => s = nI (nd_cnt (T a) i)) 128 0 rfl ?_ ?_
  · rintro m s rfl
    exact br_t nd_128 hp
  · rintro m i s hi rfl ih
    refine br_f (nd_n128 hi) (xa_T hT hn ha hi ?_)
    refine nd_br (fun z => ?_) (fun z => ?_)
    · refine nm_r (nI_1 i) (ih _ ?_)
      rw [nd_cnt_f z]
    · refine nm_r (nI_1 _) (nm_r (nI_1 i) (ih _ ?_))
      rw [nd_cnt_t z]
theorem xb_least {T : Nat → Nat → Bool} {n a : Nat} (hT : nd_T xT T n) (hn : n ≤ 32) (ha : a < n) {post : Int32 → Prop} (hp : post (nd_ls (T a) 128)) : wpX_leastTrue post (xn, xr, xm, xc, xl, xT, xM, xN, xI, xP, xC, xH, xL, xD, xR, xK, xF) (nI a) := by
  refine loop_0 (fun n i (_ : Unit) => wX_leastTrue_2 post (nI a) xn xr xm xc xl xT xM xN xI xP xC xH xL xD xR xK xF n (nI i)) (fun i _ => ∀ j, j < i → T a j = false) 128 () (fun j hj => absurd hj (by omega)) ?_ ?_
  · intro m _ h
    rw [nd_ls_f h] at hp
    exact br_t nd_128 hp
  · intro m i _ hi h ih
    refine br_f (nd_n128 hi) (xa_T hT hn ha hi ?_)
    refine nd_br (fun z => ?_) (fun z => ?_)
    · exact nm_r (nI_1 i) (ih () (nd_lts h z))
    · rw [nd_ls_t hi h z] at hp
      exact hp
theorem xb_sup1 {T : Nat → Nat → Bool} {n a v : Nat} (hT : nd_T xT T n) (hn : n ≤ 32) (ha : a < n) (hv : v < 7) {post : Int32 → Prop} {J : Int32 → Int32 → Prop}
    (hJ : J (nI (nd_m (nd_dep (T a)) (v + 1))) (nI (v + 1))) : ∃ m, wX_support_13 post J (nI a) (nI v) xn xr xm xc xl xT xM xN xI xP xC xH xL xD xR xK xF m (nI (nd_m (nd_dep (T a)) v)) 0 := by
  refine loop_0 (fun n i s => wX_support_13 post J (nI a) (nI v) xn xr xm xc xl xT xM xN xI xP xC xH xL xD xR xK xF n s (nI i)) (fun i s => s = nI (nd_m (nd_dep (T a)) v ||| (if nd_any (fun x => T a x != T a (x ^^^ 2 ^ v)) i then 2 ^ v else 0))) 128 _ (by rw [nd_any, if_neg Bool.false_ne_true, Nat.or_zero]) ?_ ?_
  · rintro m s rfl
    exact br_t nd_128 (nm_r (nI_1 v) hJ)
  · rintro m i s hi rfl ih
    refine br_f (nd_n128 hi) (xa_T hT hn ha hi ?_)
    rw [nd_shl v (by omega), nx_xor]
    refine xa_T hT hn ha (nd_flip i hi v hv).2.2.1 ?_
    refine nd_bq (fun z => ?_) (fun z => ?_)
    · refine nm_r (nI_1 i) (ih _ ?_)
      rw [nd_any, z, bne_self_eq_false, Bool.or_false]
    · refine nm_r (nd_or _ _) (nm_r (nI_1 i) (ih _ ?_))
      have z2 : (T a i != T a (i ^^^ 2 ^ v)) = true := bne_iff_ne.mpr z
      rw [nd_any, z2, Bool.or_true, if_pos rfl, Nat.or_assoc]
      split
      · rw [Nat.or_self]
      · rw [Nat.zero_or]
theorem xb_sup {T : Nat → Nat → Bool} {n a : Nat} (hT : nd_T xT T n) (hn : n ≤ 32) (ha : a < n) {post : Int32 → Prop} (hp : post (nI (nd_m (nd_dep (T a)) 7))) : wpX_support post (xn, xr, xm, xc, xl, xT, xM, xN, xI, xP, xC, xH, xL, xD, xR, xK, xF) (nI a) := by
  refine loop_0 (fun n i s => wX_support_4 post (nI a) xn xr xm xc xl xT xM xN xI xP xC xH xL xD xR xK xF n s (nI i)) (fun i s => s = nI (nd_m (nd_dep (T a)) i)) 7 0 rfl ?_ ?_
  · rintro m s rfl
    exact br_t nd_7 hp
  · rintro m i s hi rfl ih
    exact br_f (nd_n7 hi) (xb_sup1 hT hn ha hi (ih _ rfl))
theorem xb_da {T : Nat → Nat → Bool} {n a k p : Nat} (hT : nd_T xT T n) (hn : n ≤ 32) (ha : a < n) (hk : k < 7) (hp : p < 2 ^ k) {post : Int32 → Prop} (h : post (nd_b (nd_da (T a) k p))) : wpX_dependsAfter post (xn, xr, xm, xc, xl, xT, xM, xN, xI, xP, xC, xH, xL, xD, xR, xK, xF) (nI a) (nI k) (nI p) := by
  have h128 := nd_pk k hk
  refine loop_0 (fun n i (_ : Unit) => wX_dependsAfter_3 post (nI a) (nI k) (nI p) xn xr xm xc xl xT xM xN xI xP xC xH xL xD xR xK xF n (nI i)) (fun i _ => ∀ r, r < i → (T a (r * 2 ^ k + p) != T a ((r * 2 ^ k + p) ^^^ 2 ^ k)) = false) (128 / 2 ^ k) () (fun j hj => absurd hj (by omega)) ?_ ?_
  · intro m _ z
    have e : nd_da (T a) k p = false := nd_any_f z
    rw [e] at h
    refine br_t ?_ h
    rw [nd_shr128 k (by omega)]
    exact nI_le (Nat.le_refl _) (by omega)
  · intro m i _ hi z ih
    have hr := nd_rest k hk p hp i hi
    refine br_f ?_ ?_
    · rw [nd_shr128 k (by omega)]
      exact nI_ge hi (by omega)
    · refine nm_r (e' := nI (i * 2 ^ k + p)) (by rw [nd_shlN (by omega) (by omega), nI_add]) ?_
      refine xa_T hT hn ha hr.2.1 ?_
      rw [nd_shl k (by omega), nx_xor]
      refine xa_T hT hn ha hr.2.2.2 ?_
      refine nd_bq (fun w => ?_) (fun w => ?_)
      · refine nm_r (nI_1 i) (ih () (nd_lts z ?_))
        rw [w]; exact bne_self_eq_false _
      · have e : nd_da (T a) k p = true := nd_any_iff.mpr ⟨i, hi, bne_iff_ne.mpr w⟩
        rw [e] at h
        exact h
theorem xb_fs1 {T : Nat → Nat → Bool} {n a k p q : Nat} (hT : nd_T xT T n) (hn : n ≤ 32) (ha : a < n) (hk : k < 7) (hp : p < 2 ^ k) (hq : q < 2 ^ k) {post : Int32 → Prop} {J : Int32 → Prop}
    (h0 : nd_ap (T a) k p q = false → J (nI (q + 1))) (h1 : nd_ap (T a) k p q = true → post 0) : ∃ m, wX_isFirstSuch_15 post J (nI a) (nI k) (nI p) (nI q) xn xr xm xc xl xT xM xN xI xP xC xH xL xD xR xK xF m 1 0 := by
  have h128 := nd_pk k hk
  refine loop_0 (fun n i s => wX_isFirstSuch_15 post J (nI a) (nI k) (nI p) (nI q) xn xr xm xc xl xT xM xN xI xP xC xH xL xD xR xK xF n s (nI i)) (fun i s => s = nd_b (nd_all (fun r => T a (r * 2 ^ k + p) == T a (r * 2 ^ k + q)) i)) (128 / 2 ^ k) 1 rfl ?_ ?_
  · rintro m s rfl
    refine br_t ?_ ?_
    · rw [nd_shr128 k (by omega)]
      exact nI_le (Nat.le_refl _) (by omega)
    · exact nd_br (fun z => nm_r (nI_1 q) (h0 z)) h1
  · rintro m i s hi rfl ih
    have hr := nd_rest k hk p hp i hi
    have hr2 := nd_rest k hk q hq i hi
    refine br_f ?_ ?_
    · rw [nd_shr128 k (by omega)]
      exact nI_ge hi (by omega)
    · refine nm_r (e' := nI (i * 2 ^ k)) (nd_shlN (by omega) (by omega)) ?_
      rw [nI_add, nI_add]
      refine xa_T hT hn ha hr2.2.1 ?_
      refine xa_T hT hn ha hr.2.1 ?_
      refine nd_bq (fun w => ?_) (fun w => ?_)
      · refine nm_r (nI_1 i) (ih _ ?_)
        rw [nd_all, w, BEq.rfl, Bool.and_true]
      · refine nm_r (nI_1 i) (ih 0 ?_)
        have w2 : (T a (i * 2 ^ k + p) == T a (i * 2 ^ k + q)) = false := beq_eq_false_iff_ne.mpr (fun e => w e.symm)
        rw [nd_all, w2, Bool.and_false]
        rfl
theorem xb_fs {T : Nat → Nat → Bool} {n a k p : Nat} (hT : nd_T xT T n) (hn : n ≤ 32) (ha : a < n) (hk : k < 7) (hp : p < 2 ^ k) {post : Int32 → Prop} (h : post (nd_b (nd_all (fun q => !nd_ap (T a) k p q) p))) : wpX_isFirstSuch post (xn, xr, xm, xc, xl, xT, xM, xN, xI, xP, xC, xH, xL, xD, xR, xK, xF) (nI a) (nI k) (nI p) := by
  have h64 := nd_pk k hk
  refine loop_0 (fun n i (_ : Unit) => wX_isFirstSuch_3 post (nI a) (nI k) (nI p) xn xr xm xc xl xT xM xN xI xP xC xH xL xD xR xK xF n (nI i)) (fun i _ => ∀ q, q < i → (!nd_ap (T a) k p q) = true) p () (fun j hj => absurd hj (by omega)) ?_ ?_
  · intro m _ z
    rw [nd_all_iff.mpr z] at h
    exact br_t (nI_le (Nat.le_refl _) (by omega)) h
  · intro m i _ hi z ih
    refine br_f (nI_ge hi (by omega)) (xb_fs1 hT hn ha hk hp (by omega) (fun w => ih () (nd_lts z ?_)) (fun w => ?_))
    · rw [w]; rfl
    · have e : nd_all (fun q => !nd_ap (T a) k p q) p = false := nd_all_f hi (by rw [w]; rfl)
      rw [e] at h
      exact h
theorem xb_dc1 {T : Nat → Nat → Bool} {n a k c : Nat} (hT : nd_T xT T n) (hn : n ≤ 32) (ha : a < n) (hk : k < 7) {post : Int32 → Prop} {J : Int32 → Int32 → Prop}
    (hJ : J (nI (c + nd_pt (T a) k)) (nI (k + 1))) : ∃ m, wX_decisionCount_13 post J (nI a) (nI k) xn xr xm xc xl xT xM xN xI xP xC xH xL xD xR xK xF m (nI c) 0 := by
  have h64 := nd_pk k hk
  refine loop_0 (fun n i s => wX_decisionCount_13 post J (nI a) (nI k) xn xr xm xc xl xT xM xN xI xP xC xH xL xD xR xK xF n s (nI i)) (fun i s => s = nI (c + nd_cnt (fun p => nd_da (T a) k p && nd_all (fun q => !nd_ap (T a) k p q) p) i)) (2 ^ k) (nI c) rfl ?_ ?_
  · rintro m s rfl
    refine br_t ?_ (nm_r (nI_1 k) hJ)
    rw [nd_shl k (by omega)]
    exact nI_le (Nat.le_refl _) (by omega)
  · rintro m i s hi rfl ih
    refine br_f ?_ ?_
    · rw [nd_shl k (by omega)]
      exact nI_ge hi (by omega)
    · refine xb_da hT hn ha hk hi ?_
      refine nd_br (fun z => ?_) (fun z => ?_)
      · refine nm_r (nI_1 i) (ih _ ?_)
        rw [nd_cnt_f (q := fun p => nd_da (T a) k p && nd_all (fun q => !nd_ap (T a) k p q) p) (by rw [z]; rfl)]
      · refine xb_fs hT hn ha hk hi ?_
        refine nd_br (fun w => ?_) (fun w => ?_)
        · refine nm_r (nI_1 i) (ih _ ?_)
          rw [nd_cnt_f (q := fun p => nd_da (T a) k p && nd_all (fun q => !nd_ap (T a) k p q) p) (by rw [z, w]; rfl)]
        · refine nm_r (nI_1 _) (nm_r (nI_1 i) (ih _ ?_))
          rw [nd_cnt_t (q := fun p => nd_da (T a) k p && nd_all (fun q => !nd_ap (T a) k p q) p) (by rw [z, w]; rfl), Nat.add_assoc]
theorem xb_dc {T : Nat → Nat → Bool} {n a : Nat} (hT : nd_T xT T n) (hn : n ≤ 32) (ha : a < n) {post : Int32 → Prop} (hp : post (nI (nd_dc (T a)))) : wpX_decisionCount post (xn, xr, xm, xc, xl, xT, xM, xN, xI, xP, xC, xH, xL, xD, xR, xK, xF) (nI a) := by
  refine loop_0 (fun n i s => wX_decisionCount_4 post (nI a) xn xr xm xc xl xT xM xN xI xP xC xH xL xD xR xK xF n s (nI i)) (fun i s => s = nI (nd_sum (nd_pt (T a)) i)) 7 0 rfl ?_ ?_
  · rintro m s rfl
    exact br_t nd_7 hp
  · rintro m i s hi rfl ih
    exact br_f (nd_n7 hi) (xb_dc1 hT hn ha hi (ih _ rfl))
theorem xb_shape {T : Nat → Nat → Bool} {n a v : Nat} (hT : nd_T xT T n) (hn : n ≤ 32) (ha : a < n) (hv : v < 7) {post : Int32 → Prop} (hp : post (nI (nd_sh (T a) v 128))) : ∃ m, wX_shape_22 post (nI a) (nI v) xn xr xm xc xl xT xM xN xI xP xC xH xL xD xR xK xF m 0 0 := by
  refine loop_0 (fun n i s => wX_shape_22 post (nI a) (nI v) xn xr xm xc xl xT xM xN xI xP xC xH xL xD xR xK xF n s (nI i)) (fun i s => s = nI (nd_sh (T a) v i)) 128 0 (congrArg nI (show 0 = nd_sh (T a) v 0 from by unfold nd_sh nd_ri nd_fa; rw [nd_any, nd_any]; rfl)) ?_ ?_
  · rintro m s rfl
    exact br_t nd_128 hp
  · rintro m i s hi rfl ih
    refine br_f (nd_n128 hi) (xa_bit (by omega) (by omega) ?_)
    refine nd_br (fun z => ?_) (fun z => ?_)
    · have hr := nd_rise i hi v hv z
      refine xa_T hT hn ha hi ?_
      rw [nd_shl v (by omega), nI_add, hr.1]
      refine xa_T hT hn ha (by omega) ?_
      have key : nd_sh (T a) v (i + 1) = nd_sh (T a) v i ||| ((if (!T a i && T a (i ||| 2 ^ v)) then 1 else 0) ||| (if (T a i && !T a (i ||| 2 ^ v)) then 2 else 0)) := by
        unfold nd_sh nd_ri nd_fa
        rw [nd_any, nd_any, z]
        generalize nd_any (fun x => !x.testBit v && (!T a x && T a (x ||| 2 ^ v))) i = A
        generalize nd_any (fun x => !x.testBit v && (T a x && !T a (x ||| 2 ^ v))) i = B
        cases A <;> cases B <;> cases T a i <;> cases T a (i ||| 2 ^ v) <;> rfl
      refine nd_br (fun w => ?_) (fun w => ?_)
      · refine nd_br (fun w2 => ?_) (fun w2 => ?_)
        · unfold wX_shape_75
          rw [w, w2] at key
          refine nd_br (fun _ => nm_r (nI_1 i) (ih _ ?_)) (fun y => absurd y (by rw [w]; decide))
          rw [key]; exact congrArg nI (Nat.or_zero _).symm
        · rw [w, w2] at key
          refine nm_r (nd_or _ 1) ?_
          unfold wX_shape_75
          refine nd_br (fun _ => nm_r (nI_1 i) (ih _ ?_)) (fun y => absurd y (by rw [w]; decide))
          rw [key]; rfl
      · unfold wX_shape_75
        refine nd_br (fun y => absurd y (by rw [w]; decide)) (fun _ => ?_)
        refine nd_br (fun w2 => ?_) (fun w2 => ?_)
        · rw [w, w2] at key
          refine nm_r (nd_or _ 2) (nm_r (nI_1 i) (ih _ ?_))
          rw [key]; rfl
        · rw [w, w2] at key
          refine nm_r (nI_1 i) (ih _ ?_)
          rw [key]; exact congrArg nI (Nat.or_zero _).symm
    · refine nm_r (nI_1 i) (ih _ ?_)
      unfold nd_sh nd_ri nd_fa
      rw [nd_any, nd_any, z]
      simp only [Bool.not_true, Bool.false_and, Bool.or_false]
theorem xb_same {T : Nat → Nat → Bool} {n a v w : Nat} (hT : nd_T xT T n) (hn : n ≤ 32) (ha : a < n) (hv : v < 7) (hw : w < 7) {post : Int32 → Prop} (hp : post (nd_b (nd_all (fun x => T a x == T a (nd_sw x v w)) 128))) : ∃ m, wX_same_27 post (nI a) (nI v) (nI w) xn xr xm xc xl xT xM xN xI xP xC xH xL xD xR xK xF m 0 := by
  refine loop_0 (fun n i (_ : Unit) => wX_same_27 post (nI a) (nI v) (nI w) xn xr xm xc xl xT xM xN xI xP xC xH xL xD xR xK xF n (nI i)) (fun i _ => ∀ x, x < i → (T a x == T a (nd_sw x v w)) = true) 128 () (fun j hj => absurd hj (by omega)) ?_ ?_
  · intro m _ z
    rw [nd_all_iff.mpr z] at hp
    exact br_t nd_128 hp
  · intro m i _ hi z ih
    have key : wX_same_65 post (wX_same_27 post (nI a) (nI v) (nI w) xn xr xm xc xl xT xM xN xI xP xC xH xL xD xR xK xF m) (nI a) (nI v) (nI w) (nI i) (nI (nd_sw i v w)) xn xr xm xc xl xT xM xN xI xP xC xH xL xD xR xK xF := by
      unfold wX_same_65
      refine xa_T hT hn ha hi (xa_T hT hn ha (nd_swap v hv w hw i hi).2 ?_)
      refine nd_bq (fun e => nm_r (nI_1 i) (ih () (nd_lts z ?_))) (fun e => ?_)
      · rw [e]; exact BEq.rfl
      · have e2 : nd_all (fun x => T a x == T a (nd_sw x v w)) 128 = false := nd_all_f hi (beq_eq_false_iff_ne.mpr e)
        rw [e2] at hp
        exact hp
    refine br_f (nd_n128 hi) (xa_bit (by omega) (by omega) (xa_bit (by omega) (by omega) ?_))
    refine nd_bq (fun e => ?_) (fun e => ?_)
    · have e2 : nd_sw i v w = i := if_pos e
      rw [e2] at key
      exact key
    · have e2 : nd_sw i v w = i ^^^ 2 ^ v ^^^ 2 ^ w := if_neg e
      rw [e2] at key
      rw [nd_shl v (by omega), nd_shl w (by omega), nx_xor, nx_xor]
      exact key
end NDX
