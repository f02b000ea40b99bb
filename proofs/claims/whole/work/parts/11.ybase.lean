/-! the reference: bits of longs, gate -/
theorem nd_wc : ∀ k, k < 64 → ((nI k).toInt64 &&& 63) = lN k := by decide +kernel
theorem nd_wsm : ∀ k, k < 64 → (BitVec.ofNat 64 k).smod 64 = BitVec.ofNat 64 k := by decide +kernel
theorem nd_w1 : ∀ k, k < 64 → ((1 : Int64) <<< ((nI k).toInt64 &&& 63)).toBitVec = BitVec.twoPow 64 k := by decide +kernel
theorem nd_l1 (w : Int64) {k : Nat} (hk : k < 64) : ((w >>> ((nI k).toInt64 &&& 63)) &&& 1) = 1 ↔ w.toBitVec.getLsbD k = true := by
  have e : (w >>> ((nI k).toInt64 &&& 63)).toBitVec = w.toBitVec.sshiftRight k := by
    rw [nd_wc k hk, Int64.toBitVec_shiftRight]
    show w.toBitVec.sshiftRight ((BitVec.ofNat 64 k).smod 64).toNat = _
    rw [nd_wsm k hk, BitVec.toNat_ofNat, Nat.mod_eq_of_lt (by omega)]
  rw [← Int64.toBitVec_inj, Int64.toBitVec_and, e]
  show (w.toBitVec.sshiftRight k &&& 1#64) = 1#64 ↔ _
  rw [BitVec.and_one_eq_setWidth_ofBool_getLsbD, BitVec.getLsbD_sshiftRight, Nat.add_zero, if_pos hk]
  cases w.toBitVec.getLsbD k <;> decide
theorem nd_x63 {x : Nat} (hx : x < 128) : nI x &&& 63 = nI (x % 64) := pk_andN (by omega) 6 (by decide)
def nd_yb (l h : Nat → Int64) (a x : Nat) : Bool := if x < 64 then (l a).toBitVec.getLsbD x else (h a).toBitVec.getLsbD (x - 64)
/-- the rows of the longs are the functions T -/
def nd_Y (l h : Nat → Int64) (T : Nat → Nat → Bool) : Prop := ∀ a x, a < 36 → x < 128 → nd_yb l h a x = T a x
section NDY
variable {yn ys yt ye : Int32} {yl yh : Nat → Int64} {yI yP yC yF yA yQ yR : Nat → Int32}
theorem ya_bit0 {a x : Nat} (ha : a < 37) (hx : x < 128) {post : Int32 → Prop} (hp : post (nd_b (nd_yb yl yh a x))) : wpY_bit post (yn, ys, yt, ye, yl, yh, yI, yP, yC, yF, yA, yQ, yR) (nI a) (nI x) := by
  have go : ∀ w : Int64, w.toBitVec.getLsbD (x % 64) = nd_yb yl yh a x → wY_bit_21 post (nI x) w yn ys yt ye yl yh yI yP yC yF yA yQ yR := by
    intro w hw
    unfold wY_bit_21
    rw [nd_x63 hx, nd_l1 w (Nat.mod_lt _ (by decide)), hw]
    revert hp
    cases nd_yb yl yh a x
    · intro hp; exact br_f (by decide) hp
    · intro hp; exact br_t rfl hp
  have hc : (nI a).toNatClampNeg = a := nI_clamp (by omega)
  refine pk_le 64 x (fun z => ⟨vp_in_nI ha (by omega), go _ ?_⟩) (fun z => ⟨vp_in_nI ha (by omega), go _ ?_⟩)
  · rw [hc, nd_yb, if_neg (by omega), show x % 64 = x - 64 by omega]
  · rw [hc, nd_yb, if_pos (by omega), show x % 64 = x by omega]
theorem ya_bit {T : Nat → Nat → Bool} {a x : Nat} (hY : nd_Y yl yh T) (ha : a < 36) (hx : x < 128) {post : Int32 → Prop} (hp : post (nd_b (T a x))) : wpY_bit post (yn, ys, yt, ye, yl, yh, yI, yP, yC, yF, yA, yQ, yR) (nI a) (nI x) :=
  ya_bit0 (by omega) hx (by rw [hY a x ha hx]; exact hp)
theorem ya_set14 {a x : Nat} {b : Bool} {z : Int64} (ha : a < 37) (hx : x < 128) (hz : ∀ i, i < 64 → z.toBitVec.getLsbD i = (decide (i = x % 64) && b)) {post : SY → Prop}
    (h : ∀ l w : Nat → Int64, (∀ a' x', x' < 128 → nd_yb l w a' x' = (nd_yb yl yh a' x' || (decide (a' = a) && (decide (x' = x) && b)))) → post (yn, ys, yt, ye, l, w, yI, yP, yC, yF, yA, yQ, yR)) : wY_set_14 post (nI a) (nI x) z yn ys yt ye yl yh yI yP yC yF yA yQ yR := by
  have hc : (nI a).toNatClampNeg = a := nI_clamp (by omega)
  refine pk_le 64 x (fun y => ⟨vp_in_nI ha (by omega), vp_in_nI ha (by omega), nm_e (h _ _ ?_)⟩) (fun y => ⟨vp_in_nI ha (by omega), vp_in_nI ha (by omega), nm_e (h _ _ ?_)⟩)
  · intro a' x' hx'
    rw [hc]
    unfold nd_yb
    by_cases h6 : x' < 64
    · rw [if_pos h6, if_pos h6, decide_eq_false (show ¬ x' = x by omega), Bool.false_and, Bool.and_false, Bool.or_false]
    · rw [if_neg h6, if_neg h6]
      by_cases e : a' = a
      · subst e
        rw [pk_uLs, Int64.toBitVec_or, BitVec.getLsbD_or, hz _ (by omega), decide_eq_true rfl, Bool.true_and]
        by_cases e2 : x' = x
        · subst e2
          rw [decide_eq_true (show x' - 64 = x' % 64 by omega), decide_eq_true rfl]
        · rw [decide_eq_false (show ¬ x' - 64 = x % 64 by omega), decide_eq_false e2]
      · rw [pk_uLn e, decide_eq_false e, Bool.false_and, Bool.or_false]
  · intro a' x' hx'
    rw [hc]
    unfold nd_yb
    by_cases h6 : x' < 64
    · rw [if_pos h6, if_pos h6]
      by_cases e : a' = a
      · subst e
        rw [pk_uLs, Int64.toBitVec_or, BitVec.getLsbD_or, hz _ (by omega), decide_eq_true rfl, Bool.true_and]
        by_cases e2 : x' = x
        · subst e2
          rw [decide_eq_true (show x' = x' % 64 by omega), decide_eq_true rfl]
        · rw [decide_eq_false (show ¬ x' = x % 64 by omega), decide_eq_false e2]
      · rw [pk_uLn e, decide_eq_false e, Bool.false_and, Bool.or_false]
    · rw [if_neg h6, if_neg h6, decide_eq_false (show ¬ x' = x by omega), Bool.false_and, Bool.and_false, Bool.or_false]
theorem ya_set {a x : Nat} {b : Bool} (ha : a < 37) (hx : x < 128) {post : SY → Prop}
    (h : ∀ l w : Nat → Int64, (∀ a' x', x' < 128 → nd_yb l w a' x' = (nd_yb yl yh a' x' || (decide (a' = a) && (decide (x' = x) && b)))) → post (yn, ys, yt, ye, l, w, yI, yP, yC, yF, yA, yQ, yR)) : wpY_set post (yn, ys, yt, ye, yl, yh, yI, yP, yC, yF, yA, yQ, yR) (nI a) (nI x) (nd_b b) := by
  cases b
  · refine br_t rfl (ya_set14 (b := false) ha hx ?_ h)
    intro i _
    rw [Bool.and_false]
    exact BitVec.getLsbD_zero
  · refine br_f (by decide) (ya_set14 (b := true) ha hx ?_ h)
    intro i hi
    rw [nd_x63 hx, nd_w1 _ (Nat.mod_lt _ (by decide)), BitVec.getLsbD_twoPow, Bool.and_true, decide_eq_true (show x % 64 < 64 from Nat.mod_lt _ (by decide)), Bool.true_and]
    by_cases e : x % 64 = i
    · rw [decide_eq_true e, decide_eq_true e.symm]
    · rw [decide_eq_false e, decide_eq_false (fun y => e y.symm)]
theorem nd_yb_up {l h : Nat → Int64} {a b a' x : Nat} : nd_yb (vp_updL l b (l a)) (vp_updL h b (h a)) a' x = if a' = b then nd_yb l h a x else nd_yb l h a' x := by
  unfold nd_yb
  by_cases e : a' = b
  · subst e
    rw [pk_uLs, pk_uLs, if_pos rfl]
  · rw [pk_uLn e, pk_uLn e, if_neg e]
theorem ya_copy {a b : Nat} (ha : a < 37) (hb : b < 37) {post : SY → Prop}
    (h : ∀ l w : Nat → Int64, (∀ a' x', nd_yb l w a' x' = if a' = b then nd_yb yl yh a x' else nd_yb yl yh a' x') → post (yn, ys, yt, ye, l, w, yI, yP, yC, yF, yA, yQ, yR)) : wpY_copy post (yn, ys, yt, ye, yl, yh, yI, yP, yC, yF, yA, yQ, yR) (nI a) (nI b) := by
  have hc : (nI a).toNatClampNeg = a := nI_clamp (by omega)
  have hd : (nI b).toNatClampNeg = b := nI_clamp (by omega)
  refine ⟨vp_in_nI ha (by omega), vp_in_nI hb (by omega), nm_e ⟨vp_in_nI ha (by omega), vp_in_nI hb (by omega), nm_e (h _ _ ?_)⟩⟩
  intro a' x'
  rw [hc, hd]
  exact nd_yb_up
theorem ya_net {n : Nat} {p : Int32} (hn : n ≤ 32) {post : Int32 → Prop} (hp : post (nd_b (nd_in p n))) : wpY_isNet post (nI n, ys, yt, ye, yl, yh, yI, yP, yC, yF, yA, yQ, yR) p :=
  nd_rng rfl (by omega) hp
theorem ya_amo {p q : Int32} (n : Nat) (hq : q = nI n) (hn : n < 2 ^ 31) {post : Int32 → Prop} (hp : post (nd_b (nd_in p n))) : wpY_among post (yn, ys, yt, ye, yl, yh, yI, yP, yC, yF, yA, yQ, yR) p q :=
  nd_rng hq hn hp
theorem nd_off_i : ∀ x, x < 128 → ∀ v, v < 7 → nI x &&& (((1 : Int32) <<< (nI v &&& 31)) ^^^ (-1)) = nI (nd_off x v) := by decide +kernel
theorem ya_with {x v : Nat} {b : Bool} (hx : x < 128) (hv : v < 7) {post : Int32 → Prop} (hp : post (nI (nd_wi x v b))) : wpY_with post (yn, ys, yt, ye, yl, yh, yI, yP, yC, yF, yA, yQ, yR) (nI x) (nI v) (nd_b b) := by
  cases b
  · refine br_t rfl ?_
    rw [nd_off_i x hx v hv]
    exact hp
  · refine br_f (by decide) ?_
    rw [nd_orb (by omega)]
    exact hp
theorem nd_and1 {b : Bool} {post : Int32 → Prop} {A : Prop} (hp : post (nd_b b)) (f : post 1 → A) : (nd_b b = 0 → post 0) ∧ (¬ nd_b b = 0 → A) := by
  cases b
  · exact br_t rfl hp
  · exact br_f (by decide) (f hp)
theorem yc_71 {n : Nat} {j p : Int32} (hn : n ≤ 32) {post : Int32 → Prop} (hp : post (nd_b (nd_in p n))) (hj : ¬ j = 9) : wY_legal_71 post j p (nI n) ys yt ye yl yh yI yP yC yF yA yQ yR :=
  ya_net hn (nd_and1 hp (fun hp => br_f hj hp))
theorem yc_legal {n : Nat} {p0 p1 p2 p3 : Int32} (hn : n ≤ 32) {post : Int32 → Prop} (hp : post (nd_b (nd_in p0 10 && nd_lg n p0.toNatClampNeg p1 p2 p3))) : wpY_legal post (nI n, ys, yt, ye, yl, yh, yI, yP, yC, yF, yA, yQ, yR) p0 p1 p2 p3 := by
  unfold wpY_legal
  dsimp only
  cases z : nd_in p0 10
  · rw [z, Bool.false_and] at hp
    refine ya_amo 10 rfl (by omega) ?_
    rw [z]
    exact br_t rfl hp
  · rw [z, Bool.true_and] at hp
    refine ya_amo 10 rfl (by omega) ?_
    rw [z]
    refine br_f (by decide) ?_
    obtain ⟨j, hj, rfl⟩ := (nd_in_iff (by omega)).mp z
    rw [nI_clamp (by omega)] at hp
    rcases nd_10 hj with rfl | rfl | rfl | rfl | rfl | rfl | rfl | rfl | rfl | rfl
    · refine ya_net hn (nd_and1 hp (fun hp => ?_))
      repeat (first | exact hp | refine br_t (by decide) ?_ | refine br_f (by decide) ?_)
    · refine ya_net hn (nd_and hp (fun hp => br_f (by decide) (br_f (by decide) (ya_net hn (nd_and1 hp (fun hp => ?_))))))
      repeat (first | exact hp | refine br_t (by decide) ?_ | refine br_f (by decide) ?_)
    · refine ya_net hn (nd_and hp (fun hp => br_f (by decide) (br_f (by decide) (ya_net hn (nd_and1 hp (fun hp => ?_))))))
      repeat (first | exact hp | refine br_t (by decide) ?_ | refine br_f (by decide) ?_)
    · refine ya_net hn (nd_and hp (fun hp => br_f (by decide) (br_f (by decide) (ya_net hn (nd_and1 hp (fun hp => ?_))))))
      repeat (first | exact hp | refine br_t (by decide) ?_ | refine br_f (by decide) ?_)
    · exact ya_net hn (nd_and hp (fun hp => br_f (by decide) (br_f (by decide) (ya_net hn (nd_and hp (fun hp => br_t (by decide) (br_t (by decide) (yc_71 hn hp (by decide)))))))))
    · exact ya_net hn (nd_and hp (fun hp => br_f (by decide) (br_f (by decide) (ya_net hn (nd_and hp (fun hp => br_t (by decide) (br_f (by decide) (br_t (by decide) (yc_71 hn hp (by decide))))))))))
    · refine ya_net hn (nd_and hp (fun hp => br_f (by decide) (br_t (by decide) (br_f (by decide) (ya_amo 7 rfl (by omega) (nd_and1 hp (fun hp => ?_)))))))
      repeat (first | exact hp | refine br_t (by decide) ?_ | refine br_f (by decide) ?_)
    · refine ya_net hn (nd_and hp (fun hp => br_f (by decide) (br_t (by decide) (br_f (by decide) (ya_amo 7 rfl (by omega) (nd_and1 hp (fun hp => ?_)))))))
      repeat (first | exact hp | refine br_t (by decide) ?_ | refine br_f (by decide) ?_)
    · exact ya_net hn (nd_and hp (fun hp => br_f (by decide) (br_t (by decide) (br_f (by decide) (ya_amo 7 rfl (by omega) (nd_and hp (fun hp => br_f (by decide) (br_f (by decide) (br_t (by decide) (yc_71 hn hp (by decide)))))))))))
    · exact ya_net hn (nd_and hp (fun hp => br_f (by decide) (br_t (by decide) (br_f (by decide) (ya_amo 7 rfl (by omega) (nd_and hp (fun hp => br_f (by decide) (br_f (by decide) (br_f (by decide) (br_t (by decide) (nd_p01 hp)))))))))))
theorem yc_306 {T : Nat → Nat → Bool} {a v x : Nat} {b : Bool} (hY : nd_Y yl yh T) (ha : a < 36) (hv : v < 7) (hx : x < 128) {post : Int32 → Prop} (hp : post (nd_b (T a (nd_wi x v b)))) : wY_made_306 post (nI a) (nd_b b) (nI v) (nI x) yn ys yt ye yl yh yI yP yC yF yA yQ yR := by
  unfold wY_made_306
  refine ya_with hx hv ?_
  exact ya_bit hY ha (nd_wi_lt hx hv) ⟨nd_bn _, hp⟩
theorem yc_made {T : Nat → Nat → Bool} {j a b c x : Nat} {p2 p3 : Int32} (hY : nd_Y yl yh T) (hj : j < 10) (ha : a < 36) (hb : 1 ≤ j → b < 36 ∧ p2 = nI b ∧ (6 ≤ j → b < 7)) (hc : j = 4 ∨ j = 5 ∨ 8 ≤ j → c < 36 ∧ p3 = nI c ∧ (j = 9 → c < 2)) (hx : x < 128) {post : Int32 → Prop} (hp : post (nd_b (nd_gt T j a b c x))) : wpY_made post (yn, ys, yt, ye, yl, yh, yI, yP, yC, yF, yA, yQ, yR) (nI j) (nI a) p2 p3 (nI x) := by
  unfold wpY_made
  dsimp only
  refine ya_bit hY ha hx ?_
  rcases nd_10 hj with rfl | rfl | rfl | rfl | rfl | rfl | rfl | rfl | rfl | rfl
  · have e : nd_gt T 0 a b c x = !T a x := rfl
    rw [e] at hp
    revert hp
    generalize T a x = A
    cases A <;> intro hp <;> (repeat (first | exact hp | refine br_t (by decide) ?_ | refine br_f (by decide) ?_))
  · obtain ⟨hb', rfl, _⟩ := hb (by omega)
    exact br_f (by decide) (br_f (by decide) (br_f (by decide) (br_t (by decide) (nd_and hp (fun hp => ya_bit hY hb' hx (nd_b01 hp))))))
  · obtain ⟨hb', rfl, _⟩ := hb (by omega)
    refine br_f (by decide) (br_f (by decide) (br_f (by decide) (br_f (by decide) (br_t (by decide) ?_))))
    have e : nd_gt T 2 a b c x = (T a x || T b x) := rfl
    rw [e] at hp
    revert hp
    generalize T a x = A
    cases A
    · intro hp
      exact br_t rfl (ya_bit hY hb' hx (nd_b01 hp))
    · intro hp
      exact br_f (by decide) hp
  · obtain ⟨hb', rfl, _⟩ := hb (by omega)
    refine br_f (by decide) (br_f (by decide) (br_f (by decide) (br_f (by decide) (br_f (by decide) (br_t (by decide) (ya_bit hY hb' hx ?_))))))
    have e : nd_gt T 3 a b c x = (T a x != T b x) := rfl
    rw [e] at hp
    revert hp
    generalize T a x = A
    generalize T b x = B
    cases A <;> cases B <;> intro hp <;> (repeat (first | exact hp | refine br_t (by decide) ?_ | refine br_f (by decide) ?_))
  · obtain ⟨hb', rfl, _⟩ := hb (by omega)
    obtain ⟨hc', rfl, _⟩ := hc (by omega)
    refine br_f (by decide) (br_f (by decide) (br_f (by decide) (br_f (by decide) (br_f (by decide) (br_f (by decide) (br_t (by decide) ?_))))))
    have e : nd_gt T 4 a b c x = (if T a x then T b x else T c x) := rfl
    rw [e] at hp
    revert hp
    generalize T a x = A
    cases A
    · intro hp
      exact br_t rfl (ya_bit hY hc' hx ⟨nd_bn _, hp⟩)
    · intro hp
      exact br_f (by decide) (ya_bit hY hb' hx ⟨nd_bn _, hp⟩)
  · obtain ⟨hb', rfl, _⟩ := hb (by omega)
    obtain ⟨hc', rfl, _⟩ := hc (by omega)
    refine br_f (by decide) (br_f (by decide) (br_f (by decide) (br_f (by decide) (br_f (by decide) (br_f (by decide) (br_f (by decide) (br_t (by decide) ?_)))))))
    have e : nd_gt T 5 a b c x = (if T a x then T b x || T c x else T b x && T c x) := rfl
    rw [e] at hp
    revert hp
    generalize T a x = A
    cases A
    · intro hp
      exact br_t rfl (ya_bit hY hb' hx (nd_and (b := T b x) (c := T c x) hp (fun hp => ya_bit hY hc' hx (nd_b01 hp))))
    · intro hp
      have hp : post (nd_b (T b x || T c x)) := hp
      refine br_f (by decide) (ya_bit hY hb' hx ?_)
      revert hp
      generalize T b x = B
      cases B
      · intro hp
        exact br_t rfl (ya_bit hY hc' hx (nd_b01 hp))
      · intro hp
        exact br_f (by decide) hp
  · obtain ⟨_, rfl, hb'⟩ := hb (by omega)
    have hb' := hb' (by omega)
    refine br_f (by decide) (br_f (by decide) (br_f (by decide) (br_f (by decide) (br_f (by decide) (br_f (by decide) (br_f (by decide) (br_f (by decide) (br_t (by decide) ?_))))))))
    rw [nd_shl b (by omega), nx_xor]
    have e : nd_gt T 6 a b c x = (T a x || T a (x ^^^ 2 ^ b)) := rfl
    rw [e] at hp
    revert hp
    generalize T a x = A
    cases A
    · intro hp
      exact br_t rfl (ya_bit hY ha (nd_flip x hx b hb').2.2.1 (nd_b01 hp))
    · intro hp
      exact br_f (by decide) hp
  · obtain ⟨_, rfl, hb'⟩ := hb (by omega)
    have hb' := hb' (by omega)
    refine br_f (by decide) (br_f (by decide) (br_f (by decide) (br_f (by decide) (br_f (by decide) (br_f (by decide) (br_f (by decide) (br_f (by decide) (br_f (by decide) (br_t (by decide) ?_)))))))))
    rw [nd_shl b (by omega), nx_xor]
    exact nd_and (b := T a x) (c := T a (x ^^^ 2 ^ b)) hp (fun hp => ya_bit hY ha (nd_flip x hx b hb').2.2.1 (nd_b01 hp))
  · obtain ⟨_, rfl, hb'⟩ := hb (by omega)
    have hb' := hb' (by omega)
    obtain ⟨hc', rfl, _⟩ := hc (by omega)
    refine br_f (by decide) (br_f (by decide) (br_f (by decide) (br_f (by decide) (br_f (by decide) (br_f (by decide) (br_f (by decide) (br_f (by decide) (br_f (by decide) (br_f (by decide) (br_t (by decide) ?_))))))))))
    exact ya_bit hY hc' hx (ya_with hx hb' (ya_bit hY ha (nd_wi_lt hx hb') ⟨nd_bn _, hp⟩))
  · obtain ⟨_, rfl, hb'⟩ := hb (by omega)
    have hb' := hb' (by omega)
    obtain ⟨_, rfl, hc'⟩ := hc (by omega)
    have hc' : c = 0 ∨ c = 1 := by have := hc' rfl; omega
    refine br_f (by decide) (br_t (by decide) ?_)
    rcases hc' with rfl | rfl
    · exact br_f (by decide) (yc_306 (b := false) hY ha hb' hx hp)
    · exact br_t (by decide) (yc_306 (b := true) hY ha hb' hx hp)
/-! equal longs, equal functions -/
theorem nd_yb_eq {l h : Nat → Int64} {a b : Nat} : (l a = l b ∧ h a = h b) ↔ ∀ x, x < 128 → nd_yb l h a x = nd_yb l h b x := by
  constructor
  · rintro ⟨e1, e2⟩ x _
    unfold nd_yb
    rw [e1, e2]
  · intro z
    constructor
    · apply Int64.toBitVec_inj.mp
      apply BitVec.eq_of_getLsbD_eq
      intro i hi
      have := z i (by omega)
      unfold nd_yb at this
      rw [if_pos hi, if_pos hi] at this
      exact this
    · apply Int64.toBitVec_inj.mp
      apply BitVec.eq_of_getLsbD_eq
      intro i hi
      have := z (i + 64) (by omega)
      unfold nd_yb at this
      rw [if_neg (by omega), if_neg (by omega), Nat.add_sub_cancel] at this
      exact this
theorem yc_gate73 {T : Nat → Nat → Bool} {M : Nat → Bool} {n : Nat} (hY : nd_Y yl yh T) (hn : n ≤ 32) (hM : ∀ x, x < 128 → nd_yb yl yh 36 x = M x) {post : Int32 → SY → Prop}
    (h0 : nd_fn T M n < n → post (nI (nd_fn T M n)) (nI n, ys, yt, ye, yl, yh, yI, yP, yC, yF, yA, yQ, yR))
    (h1 : nd_fn T M n = n → n = 32 → post (-1) (nI n, ys, yt, ye, yl, yh, yI, yP, yC, yF, yA, yQ, yR))
    (h2 : nd_fn T M n = n → n < 32 → ∀ l w : Nat → Int64, (∀ a' x', nd_yb l w a' x' = if a' = n then nd_yb yl yh 36 x' else nd_yb yl yh a' x') → post (nI n) (nI (n + 1), ys, yt, ye, l, w, yI, yP, yC, yF, yA, yQ, yR)) :
    ∃ m, wY_gate_73 post (nI n) ys yt ye yl yh yI yP yC yF yA yQ yR m 0 := by
  refine loop_0 (fun m i (_ : Unit) => wY_gate_73 post (nI n) ys yt ye yl yh yI yP yC yF yA yQ yR m (nI i)) (fun i _ => ∀ a, a < i → nd_all (fun x => T a x == M x) 128 = false) n () (fun j hj => absurd hj (by omega)) ?_ ?_
  · intro m _ z
    have e : nd_fn T M n = n := nd_fst_eq (Nat.le_refl _) z (fun y => absurd y (Nat.lt_irrefl _))
    refine br_t (nI_le (Nat.le_refl _) (by omega)) (pk_eq n 32 (fun y => h1 e y) (fun y => ?_))
    exact ya_copy (a := 36) (by omega) (by omega) (fun l w hw => nm_r (nI_1 n) (h2 e (by omega) l w hw))
  · intro m i _ hi z ih
    have hc : (nI i).toNatClampNeg = i := nI_clamp (by omega)
    have hi36 : i < 36 := by omega
    have eqv : (yl i = yl 36 ∧ yh i = yh 36) ↔ nd_all (fun x => T i x == M x) 128 = true := by
      rw [nd_yb_eq, nd_all_iff]
      constructor
      · intro y x hx
        rw [← hY i x hi36 hx, ← hM x hx, y x hx]
        exact BEq.rfl
      · intro y x hx
        rw [hY i x hi36 hx, hM x hx]
        exact eq_of_beq (y x hx)
    have no : ¬ (yl i = yl 36 ∧ yh i = yh 36) → wY_gate_73 post (nI n) ys yt ye yl yh yI yP yC yF yA yQ yR m (nI (i + 1)) := by
      intro y
      refine ih () (nd_lts z ?_)
      cases w : nd_all (fun x => T i x == M x) 128
      · rfl
      · exact absurd (eqv.mpr w) y
    refine br_f (nI_ge hi (by omega)) ⟨vp_in_nI (by omega) (by omega), ?_⟩
    rw [hc]
    refine br_c (fun e1 => ⟨vp_in_nI (by omega) (by omega), br_c (fun e2 => ?_) (fun e2 => nm_r (nI_1 i) (no (fun y => e2 y.2)))⟩) (fun e1 => nm_r (nI_1 i) (no (fun y => e1 y.1)))
    have e : nd_fn T M n = i := nd_fst_eq (by omega) z (fun _ => eqv.mp ⟨e1, e2⟩)
    have h3 := h0 (by omega)
    rw [e] at h3
    exact h3
theorem yc_gate {T : Nat → Nat → Bool} {M : Nat → Bool} {n j : Nat} {p1 p2 p3 : Int32} (hY : nd_Y yl yh T) (hn : n ≤ 32) (h36 : ∀ x, x < 128 → nd_yb yl yh 36 x = false)
    (hm : ∀ (l w : Nat → Int64) (x : Nat) (post : Int32 → Prop), nd_Y l w T → x < 128 → post (nd_b (M x)) → wpY_made post (nI n, ys, yt, ye, l, w, yI, yP, yC, yF, yA, yQ, yR) (nI j) p1 p2 p3 (nI x)) {post : Int32 → SY → Prop}
    (h0 : ∀ l w, nd_Y l w T → nd_fn T M n < n → post (nI (nd_fn T M n)) (nI n, ys, yt, ye, l, w, yI, yP, yC, yF, yA, yQ, yR))
    (h1 : ∀ l w, nd_Y l w T → nd_fn T M n = n → n = 32 → post (-1) (nI n, ys, yt, ye, l, w, yI, yP, yC, yF, yA, yQ, yR))
    (h2 : ∀ l w, nd_fn T M n = n → n < 32 → (∀ a x, a < 36 → x < 128 → nd_yb l w a x = if a = n then M x else T a x) → post (nI n) (nI (n + 1), ys, yt, ye, l, w, yI, yP, yC, yF, yA, yQ, yR)) :
    ∃ m, wY_gate_33 post (nI j) p1 p2 p3 m 0 (nI n) ys yt ye yl yh yI yP yC yF yA yQ yR := by
  refine loop_0 (fun m i (s : (Nat → Int64) × (Nat → Int64)) => wY_gate_33 post (nI j) p1 p2 p3 m (nI i) (nI n) ys yt ye s.1 s.2 yI yP yC yF yA yQ yR) (fun i s => nd_Y s.1 s.2 T ∧ ∀ x, x < 128 → nd_yb s.1 s.2 36 x = (decide (x < i) && M x)) 128 (yl, yh) ⟨hY, fun x hx => by rw [h36 x hx]; rfl⟩ ?_ ?_
  · rintro m ⟨l, w⟩ ⟨hs, hs2⟩
    refine br_t nd_128 (yc_gate73 (M := M) hs hn ?_ (h0 l w hs) (h1 l w hs) ?_)
    · intro x hx
      rw [hs2 x hx, decide_eq_true hx, Bool.true_and]
    · intro e1 e2 l' w' hw
      refine h2 l' w' e1 e2 ?_
      intro a x ha hx
      rw [hw a x]
      by_cases y : a = n
      · rw [if_pos y, if_pos y, hs2 x hx, decide_eq_true hx, Bool.true_and]
      · rw [if_neg y, if_neg y]
        exact hs a x ha hx
  · rintro m i ⟨l, w⟩ hi ⟨hs, hs2⟩ ih
    refine br_f (nd_n128 hi) (hm l w i _ hs hi ?_)
    refine ya_set (a := 36) (by omega) hi (fun l' w' hw => nm_r (nI_1 i) (ih (l', w') ⟨?_, ?_⟩))
    · intro a x ha hx
      rw [hw a x hx, decide_eq_false (show ¬ a = 36 by omega), Bool.false_and, Bool.or_false]
      exact hs a x ha hx
    · intro x hx
      show nd_yb l' w' 36 x = _
      rw [hw 36 x hx, hs2 x hx, decide_eq_true rfl, Bool.true_and]
      by_cases y : x = i
      · subst y
        rw [decide_eq_true rfl, decide_eq_false (Nat.lt_irrefl x), decide_eq_true (show x < x + 1 by omega), Bool.true_and, Bool.false_and, Bool.false_or]
      · rw [decide_eq_false y, Bool.false_and, Bool.or_false]
        by_cases y2 : x < i
        · rw [decide_eq_true y2, decide_eq_true (show x < i + 1 by omega)]
        · rw [decide_eq_false y2, decide_eq_false (show ¬ x < i + 1 by omega)]
end NDY
