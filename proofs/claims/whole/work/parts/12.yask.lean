/-! the reference: questions on one net, cubes -/
section NDY
variable {yn ys yt ye : Int32} {yl yh : Nat → Int64} {yI yP yC yF yA yQ yR : Nat → Int32}
theorem yb_dep {T : Nat → Nat → Bool} {a v : Nat} (hY : nd_Y yl yh T) (ha : a < 36) (hv : v < 7) {post : Int32 → Prop} (hp : post (nd_b (nd_dep (T a) v))) : wpY_depends post (yn, ys, yt, ye, yl, yh, yI, yP, yC, yF, yA, yQ, yR) (nI a) (nI v) := by
  refine loop_0 (fun n i (_ : Unit) => wY_depends_2 post (nI a) (nI v) yn ys yt ye yl yh yI yP yC yF yA yQ yR n (nI i)) (fun i _ => ∀ x, x < i → (T a x != T a (x ^^^ 2 ^ v)) = false) 128 () (fun j hj => absurd hj (by omega)) ?_ ?_
  · intro m _ z
    have e : nd_dep (T a) v = false := nd_any_f z
    rw [e] at hp
    exact br_t nd_128 hp
  · intro m i _ hi z ih
    refine br_f (nd_n128 hi) (ya_bit hY ha hi ?_)
    rw [nd_shl v (by omega), nx_xor]
    refine ya_bit hY ha (nd_flip i hi v hv).2.2.1 (nd_bq (fun w => nm_r (nI_1 i) (ih () (nd_lts z ?_))) (fun w => ?_))
    · rw [w]; exact bne_self_eq_false _
    · have e : nd_dep (T a) v = true := nd_any_iff.mpr ⟨i, hi, bne_iff_ne.mpr w⟩
      rw [e] at hp
      exact hp
theorem yb_ap {T : Nat → Nat → Bool} {a k p q : Nat} (hY : nd_Y yl yh T) (ha : a < 36) (hk : k < 7) (hp : p < 2 ^ k) (hq : q < 2 ^ k) {post : Int32 → Prop} (h : post (nd_b (nd_ap (T a) k p q))) : wpY_alikePart post (yn, ys, yt, ye, yl, yh, yI, yP, yC, yF, yA, yQ, yR) (nI a) (nI k) (nI p) (nI q) := by
  have h128 := nd_pk k hk
  refine loop_0 (fun n i (_ : Unit) => wY_alikePart_3 post (nI a) (nI k) (nI p) (nI q) yn ys yt ye yl yh yI yP yC yF yA yQ yR n (nI i)) (fun i _ => ∀ r, r < i → (T a (r * 2 ^ k + p) == T a (r * 2 ^ k + q)) = true) (128 / 2 ^ k) () (fun j hj => absurd hj (by omega)) ?_ ?_
  · intro m _ z
    have e : nd_ap (T a) k p q = true := nd_all_iff.mpr z
    rw [e] at h
    refine br_t ?_ h
    rw [nd_shr128 k (by omega)]
    exact nI_le (Nat.le_refl _) (by omega)
  · intro m i _ hi z ih
    have hr := nd_rest k hk p hp i hi
    have hr2 := nd_rest k hk q hq i hi
    refine br_f ?_ ?_
    · rw [nd_shr128 k (by omega)]
      exact nI_ge hi (by omega)
    · rw [nd_shlN (by omega) (by omega), nd_or, nd_or, hr.1, hr2.1]
      refine ya_bit hY ha hr.2.1 (ya_bit hY ha hr2.2.1 (nd_bq (fun w => nm_r (nI_1 i) (ih () (nd_lts z ?_))) (fun w => ?_)))
      · rw [w]; exact BEq.rfl
      · have e : nd_ap (T a) k p q = false := nd_all_f hi (beq_eq_false_iff_ne.mpr w)
        rw [e] at h
        exact h
theorem nd_r1 : ∀ k, k < 7 → ∀ r, r < 128 / 2 ^ k → (r ^^^ 1) * 2 ^ k < 128 := by decide +kernel
/-- one value p of the variables below k -/
theorem yb_pt1 {T : Nat → Nat → Bool} {a k p c : Nat} (hY : nd_Y yl yh T) (ha : a < 36) (hk : k < 7) (hp : p < 2 ^ k) {post : Int32 → Prop} {J : Int32 → Int32 → Prop}
    (hJ : J (nI (c + (if nd_da (T a) k p && nd_all (fun q => !nd_ap (T a) k p q) p then 1 else 0))) (nI (p + 1))) : ∃ m, wY_parts_19 post J (nI a) (nI k) (nI c) (nI p) yn ys yt ye yl yh yI yP yC yF yA yQ yR m 0 0 := by
  have h128 := nd_pk k hk
  have fin : ∀ b : Bool, b = (nd_da (T a) k p && nd_all (fun q => !nd_ap (T a) k p q) p) → wY_parts_117 post J (nI a) (nI k) (nI c) (nI p) (nd_b b) yn ys yt ye yl yh yI yP yC yF yA yQ yR := by
    intro b hb
    rw [← hb] at hJ
    unfold wY_parts_117
    cases b
    · exact br_t rfl (nm_r (nI_1 p) hJ)
    · exact br_f (by decide) (nm_r (nI_1 c) (nm_r (nI_1 p) hJ))
  refine loop_0 (fun n i s => wY_parts_19 post J (nI a) (nI k) (nI c) (nI p) yn ys yt ye yl yh yI yP yC yF yA yQ yR n s (nI i)) (fun i s => s = nd_b (nd_any (fun r => T a (r * 2 ^ k + p) != T a ((r * 2 ^ k + p) ^^^ 2 ^ k)) i)) (128 / 2 ^ k) 0 rfl ?_ ?_
  · rintro m s rfl
    refine br_t ?_ ?_
    · rw [nd_shr128 k (by omega)]
      exact nI_le (Nat.le_refl _) (by omega)
    · refine loop_0 (fun n q s => wY_parts_79 post J (nI a) (nI k) (nI c) (nI p) yn ys yt ye yl yh yI yP yC yF yA yQ yR n s (nI q)) (fun q s => s = nd_b (nd_da (T a) k p && nd_all (fun q => !nd_ap (T a) k p q) q)) p _ (by rw [nd_all, Bool.and_true]; rfl) ?_ ?_
      · rintro m s rfl
        exact br_t (nI_le (Nat.le_refl _) (by omega)) (fin _ rfl)
      · rintro m q s hq rfl ih
        refine br_f (nI_ge hq (by omega)) (nd_br (fun z => ?_) (fun z => ?_))
        · refine fin _ ?_
          rw [z]
          cases y : (nd_da (T a) k p && nd_all (fun q => !nd_ap (T a) k p q) p)
          · rfl
          · rw [Bool.and_eq_true] at y
            have y2 : nd_all (fun q => !nd_ap (T a) k p q) q = true := nd_all_iff.mpr (fun i hi => nd_all_iff.mp y.2 i (by omega))
            rw [y.1, y2] at z; cases z
        · refine yb_ap hY ha hk hp (by omega) (nd_br (fun w => nm_r (nI_1 q) (ih 1 ?_)) (fun w => nm_r (nI_1 q) (ih 0 ?_)))
          · rw [nd_all, ← Bool.and_assoc, z, w]; rfl
          · rw [nd_all, ← Bool.and_assoc, z, w]; rfl
  · rintro m i s hi rfl ih
    have hr := nd_rest k hk p hp i hi
    have hr1 := nd_r1 k hk i hi
    refine br_f ?_ ?_
    · rw [nd_shr128 k (by omega)]
      exact nI_ge hi (by omega)
    · refine nd_br (fun z => ?_) (fun z => ?_)
      · rw [show nI i ^^^ (1 : Int32) = nI (i ^^^ 1) from nx_xor i 1, nd_shlN (r := i) (k := k) (by omega) (by omega), nd_shlN (r := i ^^^ 1) (k := k) (by omega) (by omega), nd_or, nd_or, hr.1, hr.2.2.1]
        refine ya_bit hY ha hr.2.1 (ya_bit hY ha hr.2.2.2 (nd_bq (fun w => nm_r (nI_1 i) (ih 0 ?_)) (fun w => nm_r (nI_1 i) (ih 1 ?_))))
        · rw [nd_any, z, w, bne_self_eq_false]; rfl
        · rw [nd_any, bne_iff_ne.mpr w, Bool.or_true]; rfl
      · refine nm_r (nI_1 i) (ih 1 ?_)
        rw [nd_any, z, Bool.true_or]; rfl
theorem yb_pt {T : Nat → Nat → Bool} {a k : Nat} (hY : nd_Y yl yh T) (ha : a < 36) (hk : k < 7) {post : Int32 → Prop} (h : post (nI (nd_pt (T a) k))) : wpY_parts post (yn, ys, yt, ye, yl, yh, yI, yP, yC, yF, yA, yQ, yR) (nI a) (nI k) := by
  have h64 := nd_pk k hk
  refine loop_0 (fun n p s => wY_parts_5 post (nI a) (nI k) yn ys yt ye yl yh yI yP yC yF yA yQ yR n s (nI p)) (fun p s => s = nI (nd_cnt (fun p => nd_da (T a) k p && nd_all (fun q => !nd_ap (T a) k p q) p) p)) (2 ^ k) 0 rfl ?_ ?_
  · rintro m s rfl
    refine br_t ?_ h
    rw [nd_shl k (by omega)]
    exact nI_le (Nat.le_refl _) (by omega)
  · rintro m p s hp rfl ih
    refine br_f ?_ (yb_pt1 hY ha hk hp (ih _ rfl))
    rw [nd_shl k (by omega)]
    exact nI_ge hp (by omega)
/-! cubes -/
theorem nd_q3 {c v : Nat} (hc : c < 2187) (hv : v < 7) : nI c / nI (3 ^ v) = nI (c / 3 ^ v) := by
  have h2 := nd_729 v hv
  have h3 := nd_p3 v
  exact pk_div (by omega) h3 (by omega)
theorem nd_n3 {v : Nat} (hv : v < 7) : ¬ nI (3 ^ v) = 0 := by
  have h2 := nd_729 v hv
  have h3 := nd_p3 v
  exact nI_ne0 h3 (by omega)
theorem yd_wid {F : Nat → Bool} {c : Nat} (hc : c < 2187) (hI : nd_I yI F 2187) {post : Int32 → Prop} (hp : post (nd_b (!nd_all (fun v => !(decide (nd_dg c v ≠ 2) && F (c + (2 - nd_dg c v) * 3 ^ v))) 7))) : wpY_widened post (yn, ys, yt, ye, yl, yh, yI, yP, yC, yF, yA, yQ, yR) (nI c) := by
  refine loop_0 (fun m v s => wY_widened_4 post (nI c) yn ys yt ye yl yh yI yP yC yF yA yQ yR m s (nI v)) (fun v s => s = nI (3 ^ v) ∧ ∀ u, u < v → (!(decide (nd_dg c u ≠ 2) && F (c + (2 - nd_dg c u) * 3 ^ u))) = true) 7 1 ⟨rfl, fun u hu => absurd hu (by omega)⟩ ?_ ?_
  · rintro m s ⟨rfl, h⟩
    rw [nd_all_iff.mpr h] at hp
    exact br_t nd_7 hp
  · rintro m v s hv ⟨rfl, h⟩ ih
    have h1 := nd_lc c v
    have h2 := nd_729 v hv
    have h3 := nd_p3 v
    have h4 := nd_dg_lt c v
    have go : (!(decide (nd_dg c v ≠ 2) && F (c + (2 - nd_dg c v) * 3 ^ v))) = true → ∀ y, y = nI (3 ^ v) * 3 → ∀ z, z = nI v + 1 → wY_widened_4 post (nI c) yn ys yt ye yl yh yI yP yC yF yA yQ yR m y z := by
      intro w
      exact nm_r (e' := nI (3 ^ (v + 1))) ((nd_t3 _).trans (congrArg nI (Nat.pow_succ 3 v).symm)) (nm_r (nI_1 v) (ih _ ⟨rfl, nd_lts h w⟩))
    refine br_f (nd_n7 hv) ⟨nd_n3 hv, nd_3, nm_r (e' := nI (nd_dg c v)) (by rw [nd_q3 hc hv]; exact nd_r3 (by omega)) ?_⟩
    refine pk_le 2 (nd_dg c v) (fun z => ?_) (fun z => ?_)
    · exact go (by rw [decide_eq_false (fun y => y (by omega))]; rfl)
    · have hw := nd_wide (v := v) hc hv (by omega)
      have e1 : nI c + (2 - nI (nd_dg c v)) * nI (3 ^ v) = nI (c + (2 - nd_dg c v) * 3 ^ v) := by
        rw [show (2 : Int32) = nI 2 from rfl, pk_sub (by omega), pk_mul, nI_add]
      rw [e1, nI_clamp (show c + (2 - nd_dg c v) * 3 ^ v < 2 ^ 31 by omega), hI _ hw]
      refine ⟨vp_in_nI hw (by omega), nd_br (fun w => go (by rw [w, Bool.and_false]; rfl)) (fun w => ?_)⟩
      have e : nd_all (fun u => !(decide (nd_dg c u ≠ 2) && F (c + (2 - nd_dg c u) * 3 ^ u))) 7 = false := nd_all_f hv (by rw [w, decide_eq_true (show nd_dg c v ≠ 2 by omega)]; rfl)
      rw [e] at hp
      exact hp
/-- what the reference's inner loop holds at v: the assignment while no digit was 2, else the answer -/
def nd_cu (T : Nat → Bool) (c v : Nat) (x5 x6 x3 : Int32) : Prop :=
  (x6 = 1 ∧ x3 = nI (nd_as c v) ∧ x5 = 1 ∧ ∀ u, u < v → nd_dg c u ≠ 2) ∨ (x6 = 0 ∧ x5 = nd_b (nd_imp T c))
theorem yd_imp {T : Nat → Nat → Bool} {a c : Nat} (hY : nd_Y yl yh T) (ha : a < 36) (hc : c < 2187) (hI : nd_I yI (nd_imp (T a)) c) {post : SY → Prop} {J : Int32 → (Nat → Int64) → (Nat → Int64) → (Nat → Int32) → (Nat → Int32) → (Nat → Int32) → (Nat → Int32) → (Nat → Int32) → (Nat → Int32) → (Nat → Int32) → Prop}
    (hJ : J (nI (c + 1)) yl yh (upd yI c (nd_b (nd_imp (T a) c))) yP yC yF yA yQ yR) : ∃ m, wY_cubes_23 post J (nI a) (nI c) yn ys yt ye yl yh yI yP yC yF yA yQ yR m 0 1 1 1 0 := by
  have hcc : (nI c).toNatClampNeg = c := nI_clamp (by omega)
  refine loop_0 (fun m v (s : Int32 × Int32 × Int32 × Int32) => wY_cubes_23 post J (nI a) (nI c) yn ys yt ye yl yh yI yP yC yF yA yQ yR m s.1 s.2.1 s.2.2.1 s.2.2.2 (nI v)) (fun v s => s.2.1 = nI (3 ^ v) ∧ nd_cu (T a) c v s.2.2.1 s.2.2.2 s.1) 7 (0, 1, 1, 1) ⟨rfl, Or.inl ⟨rfl, rfl, rfl, fun u hu => absurd hu (by omega)⟩⟩ ?_ ?_
  · rintro m ⟨x3, x4, x5, x6⟩ ⟨rfl, h | h⟩
    · obtain ⟨rfl, rfl, rfl, h⟩ := h
      refine br_t nd_7 (br_f (show ¬ (1 : Int32) = 0 by decide) (ya_bit hY ha (nd_as_lt (v := 7) h) ⟨vp_in_nI hc (by omega), ?_⟩))
      refine nm_r (e' := upd yI c (nd_b (nd_imp (T a) c))) (by rw [hcc, nd_bv, nd_imp_0 h]) (nm_r (nI_1 c) hJ)
    · obtain ⟨h6, h5⟩ := h
      refine br_t nd_7 (br_t h6 ⟨vp_in_nI hc (by omega), ?_⟩)
      exact nm_r (e' := upd yI c (nd_b (nd_imp (T a) c))) (by rw [hcc, h5, nd_bv]) (nm_r (nI_1 c) hJ)
  · rintro m v ⟨x3, x4, x5, x6⟩ hv ⟨rfl, h⟩ ih
    have h1 := nd_lc c v
    have h2 := nd_729 v hv
    have h3 := nd_p3 v
    have h4 := nd_dg_lt c v
    have go : ∀ y5 y6 : Int32, (∀ y3, y3 = x3 ||| (if nd_dg c v = 1 then (1 : Int32) <<< (nI v &&& 31) else 0) → nd_cu (T a) c (v + 1) y5 y6 y3) → wY_cubes_85 post J (wY_cubes_23 post J (nI a) (nI c) yn ys yt ye yl yh yI yP yC yF yA yQ yR m) (nI a) (nI c) x3 (nI (3 ^ v)) y5 y6 (nI v) (nI (nd_dg c v)) yn ys yt ye yl yh yI yP yC yF yA yQ yR := by
      intro y5 y6 hy
      have hy := hy _ rfl
      unfold wY_cubes_85
      refine pk_eq (nd_dg c v) 1 (fun z => ?_) (fun z => ?_)
      · rw [if_pos z] at hy
        exact nm_e (nm_r (e' := nI (3 ^ (v + 1))) ((nd_t3 _).trans (congrArg nI (Nat.pow_succ 3 v).symm)) (nm_r (nI_1 v) (ih (_, nI (3 ^ (v + 1)), y5, y6) ⟨rfl, hy⟩)))
      · rw [if_neg z] at hy
        exact nm_e (nm_r (e' := nI (3 ^ (v + 1))) ((nd_t3 _).trans (congrArg nI (Nat.pow_succ 3 v).symm)) (nm_r (nI_1 v) (ih (_, nI (3 ^ (v + 1)), y5, y6) ⟨rfl, hy⟩)))
    refine br_f (nd_n7 hv) ⟨nd_n3 hv, nd_3, nm_r (e' := nI (nd_dg c v)) ?_ ?_⟩
    · show nI c / nI (3 ^ v) - nI c / nI (3 ^ v) / 3 * 3 = nI (nd_dg c v)
      rw [nd_q3 hc hv]; exact nd_r3 (by omega)
    · rcases h with h | h
      · obtain ⟨rfl, rfl, rfl, h⟩ := h
        refine pk_eq (nd_dg c v) 2 (fun z => ?_) (fun z => ?_)
        · have h5 := nd_dg2 z
          have e1 : nI c - nI (3 ^ v) = nI (c - 3 ^ v) := pk_sub (by omega)
          have e2 : nI c - 2 * nI (3 ^ v) = nI (c - 2 * 3 ^ v) := by
            rw [show (2 : Int32) = nI 2 from rfl, pk_mul, pk_sub h5]
          have ei := nd_imp_2 (T := T a) hv h z
          refine br_f (show ¬ (1 : Int32) = 0 by decide) ?_
          show vp_in (nI c - nI (3 ^ v)) 2187 ∧ _
          rw [e1, e2, nI_clamp (show c - 3 ^ v < 2 ^ 31 by omega), nI_clamp (show c - 2 * 3 ^ v < 2 ^ 31 by omega), hI (c - 3 ^ v) (by omega), hI (c - 2 * 3 ^ v) (by omega)]
          refine ⟨vp_in_nI (by omega) (by omega), nd_br (fun w => ?_) (fun w => ⟨vp_in_nI (by omega) (by omega), nd_br (fun w2 => ?_) (fun w2 => ?_)⟩)⟩
          · exact go 0 0 (fun _ _ => Or.inr ⟨rfl, by rw [ei, w]; rfl⟩)
          · exact go 0 0 (fun _ _ => Or.inr ⟨rfl, by rw [ei, w, w2]; rfl⟩)
          · exact go 1 0 (fun _ _ => Or.inr ⟨rfl, by rw [ei, w, w2]; rfl⟩)
        · refine go 1 1 (fun y3 hy3 => Or.inl ⟨rfl, ?_, rfl, nd_lts h z⟩)
          rw [hy3]
          have hl := nd_as_lt h
          have hp := (nd_pk v hv).1
          have h7 : nd_dg c v = 0 ∨ nd_dg c v = 1 := by omega
          rcases h7 with h7 | h7
          · rw [if_neg (by omega), nd_as, h7, Nat.zero_mul, Nat.add_zero, show (0 : Int32) = nI 0 from rfl, nd_or, Nat.or_zero]
          · rw [if_pos h7, nd_orb (by omega), nd_as, h7, Nat.one_mul, Nat.or_comm, Nat.add_comm]
            exact congrArg nI (Nat.two_pow_add_eq_or_of_lt hl 1 |> fun e => by rw [Nat.mul_one] at e; exact e.symm)
      · have h6 : x6 = 0 := h.1
        have h5 : x5 = nd_b (nd_imp (T a) c) := h.2
        refine pk_eq (nd_dg c v) 2 (fun z => br_t h6 ?_) (fun z => ?_)
        · exact go x5 x6 (fun _ _ => Or.inr ⟨h6, h5⟩)
        · exact go x5 x6 (fun _ _ => Or.inr ⟨h6, h5⟩)
theorem yd_cubes {T : Nat → Nat → Bool} {a : Nat} (hY : nd_Y yl yh T) (ha : a < 36) {post : SY → Prop}
    (h : ∀ i p : Nat → Int32, nd_I p (nd_q (T a)) 2187 → post (yn, ys, yt, ye, yl, yh, i, p, yC, yF, yA, yQ, yR)) : wpY_cubes post (yn, ys, yt, ye, yl, yh, yI, yP, yC, yF, yA, yQ, yR) (nI a) := by
  refine loop_0 (fun m c s => wY_cubes_2 post (nI a) yn ys yt ye m (nI c) yl yh s yP yC yF yA yQ yR) (fun c s => nd_I s (nd_imp (T a)) c) 2187 yI (fun d hd => absurd hd (by omega)) ?_ ?_
  · intro m s hs
    refine br_t nd_c2187 ?_
    refine loop_0 (fun m c w => wY_cubes_144 post yn ys yt ye m (nI c) yl yh s w yC yF yA yQ yR) (fun c w => nd_I w (nd_q (T a)) c) 2187 yP (fun d hd => absurd hd (by omega)) ?_ ?_
    · intro m w hw
      exact br_t nd_c2187 (h s w hw)
    · intro m c w hc hw ih
      have hcc : (nI c).toNatClampNeg = c := nI_clamp (by omega)
      have put : ∀ (b : Bool) (z : Int32), z = nd_b b → nd_q (T a) c = b → ∀ w', w' = upd w (nI c).toNatClampNeg (vp_nar .boolean z) → ∀ y, y = nI c + 1 → wY_cubes_144 post yn ys yt ye m y yl yh s w' yC yF yA yQ yR := by
        rintro b z rfl hb
        refine nm_r (e' := upd w c (nd_b (nd_q (T a) c))) (by rw [hcc, nd_bv, hb]) (nm_r (nI_1 c) (ih _ (nd_lts ?_ pk_us)))
        intro d hd
        rw [pk_un (by omega)]; exact hw d hd
      refine br_f (nd_n2187 hc) ⟨vp_in_nI hc (by omega), ?_⟩
      have hs1 : s (nI c).toNatClampNeg = nd_b (nd_imp (T a) c) := by rw [hcc]; exact hs c hc
      rw [hs1]
      refine nd_br (fun z => ⟨vp_in_nI hc (by omega), put false 0 rfl ?_⟩) (fun z => ?_)
      · unfold nd_q nd_pr
        rw [z, Bool.false_and]
      · refine yd_wid hc hs (nd_br (fun w => ⟨vp_in_nI hc (by omega), put true 1 rfl ?_⟩) (fun w => ⟨vp_in_nI hc (by omega), put false 0 rfl ?_⟩))
        · unfold nd_q nd_pr
          rw [z, Bool.true_and]
          exact nd_ni w
        · unfold nd_q nd_pr
          rw [z, Bool.true_and]
          exact nd_ni w
  · intro m c s hc hs ih
    refine br_f (nd_n2187 hc) (yd_imp hY ha hc hs (ih _ (nd_lts ?_ pk_us)))
    intro d hd
    rw [pk_un (by omega)]; exact hs d hd
theorem yd_fits {c x : Nat} (hc : c < 2187) (hx : x < 128) {post : Int32 → Prop} (hp : post (nd_b (nd_fit c x))) : wpY_fits post (yn, ys, yt, ye, yl, yh, yI, yP, yC, yF, yA, yQ, yR) (nI c) (nI x) := by
  refine loop_0 (fun m v s => wY_fits_5 post (nI x) yn ys yt ye yl yh yI yP yC yF yA yQ yR m s (nI v)) (fun v s => s = nI (c / 3 ^ v) ∧ ∀ u, u < v → (decide (nd_dg c u = 2) || (x.testBit u == decide (nd_dg c u = 1))) = true) 7 (nI c) ⟨by rw [Nat.pow_zero, Nat.div_one], fun u hu => absurd hu (by omega)⟩ ?_ ?_
  · rintro m s ⟨rfl, h⟩
    have e : nd_fit c x = true := nd_all_iff.mpr h
    rw [e] at hp
    exact br_t nd_7 hp
  · rintro m v s hv ⟨rfl, h⟩ ih
    have h1 := nd_lc c v
    have h4 := nd_dg_lt c v
    have go : (decide (nd_dg c v = 2) || (x.testBit v == decide (nd_dg c v = 1))) = true → ∀ y, y = nI (c / 3 ^ v) / 3 → ∀ z, z = nI v + 1 → wY_fits_5 post (nI x) yn ys yt ye yl yh yI yP yC yF yA yQ yR m y z := by
      intro w
      exact nm_r (e' := nI (c / 3 ^ (v + 1))) ((nd_d3 (by omega)).trans (congrArg nI (nd_dgs c v))) (nm_r (nI_1 v) (ih _ ⟨rfl, nd_lts h w⟩))
    have stop : (decide (nd_dg c v = 2) || (x.testBit v == decide (nd_dg c v = 1))) = false → post 0 := by
      intro w
      have e : nd_fit c x = false := nd_all_f hv w
      rw [e] at hp
      exact hp
    refine br_f (nd_n7 hv) ⟨nd_3, nm_r (e' := nI (nd_dg c v)) (nd_r3 (by omega)) ?_⟩
    rw [nd_bit (show x < 2 ^ 31 by omega) (by omega)]
    refine pk_le 2 (nd_dg c v) (fun z => ?_) (fun z => ?_)
    · exact ⟨nd_3, go (by rw [decide_eq_true (show nd_dg c v = 2 by omega), Bool.true_or])⟩
    · rw [decide_eq_false (show ¬ nd_dg c v = 2 by omega), Bool.false_or] at go stop
      have h7 : nd_dg c v = 0 ∨ nd_dg c v = 1 := by omega
      rcases h7 with h7 | h7
      · rw [h7] at go stop ⊢
        revert go stop
        cases x.testBit v
        · intro go stop
          exact br_t rfl ⟨nd_3, go rfl⟩
        · intro go stop
          exact br_f (by decide) (stop rfl)
      · rw [h7] at go stop ⊢
        revert go stop
        cases x.testBit v
        · intro go stop
          exact br_f (by decide) (stop rfl)
        · intro go stop
          exact br_t rfl ⟨nd_3, go rfl⟩
theorem yd_alone {q : Nat → Bool} {c : Nat} (hc : c < 2187) (hC : ∀ x, x < 128 → yC x = nI (nd_cov q x)) {post : Int32 → Prop} (hp : post (nd_b (nd_alone q c))) : wpY_alone post (yn, ys, yt, ye, yl, yh, yI, yP, yC, yF, yA, yQ, yR) (nI c) := by
  refine loop_0 (fun m x (_ : Unit) => wY_alone_2 post (nI c) yn ys yt ye yl yh yI yP yC yF yA yQ yR m (nI x)) (fun i _ => ∀ x, x < i → (decide (nd_cov q x = 1) && nd_fit c x) = false) 128 () (fun u hu => absurd hu (by omega)) ?_ ?_
  · intro m _ h
    have e : nd_alone q c = false := nd_any_f h
    rw [e] at hp
    exact br_t nd_128 hp
  · intro m x _ hx h ih
    have hle : nd_cov q x ≤ 2187 := nd_cnt_le _ _
    refine br_f (nd_n128 hx) ⟨vp_in_nI hx (by omega), ?_⟩
    rw [nI_clamp (show x < 2 ^ 31 by omega), hC x hx]
    refine nd_i1 (by omega) (fun z => ?_) (fun z => ?_)
    · refine yd_fits hc hx (nd_br (fun w => nm_r (nI_1 x) (ih () (nd_lts h ?_))) (fun w => ?_))
      · rw [w, Bool.and_false]
      · have e : nd_alone q c = true := nd_any_iff.mpr ⟨x, hx, by rw [decide_eq_true z, w]; rfl⟩
        rw [e] at hp
        exact hp
    · exact nm_r (nI_1 x) (ih () (nd_lts h (by rw [decide_eq_false z, Bool.false_and])))
theorem yd_ess {q : Nat → Bool} (hq : nd_I yP q 2187) {post : Int32 → SY → Prop} (h : ∀ t : Nat → Int32, post (nI (nd_ess q)) (yn, ys, yt, ye, yl, yh, yI, yP, t, yF, yA, yQ, yR)) : wpY_essential post (yn, ys, yt, ye, yl, yh, yI, yP, yC, yF, yA, yQ, yR) := by
  refine loop_0 (fun m x s => wY_essential_2 post yn ys yt ye m (nI x) yl yh yI yP s yF yA yQ yR) (fun i s => ∀ x, x < i → s x = nI 0) 128 yC (fun u hu => absurd hu (by omega)) ?_ ?_
  · intro m s hs
    refine br_t nd_128 ?_
    refine loop_0 (fun m c s => wY_essential_24 post yn ys yt ye m (nI c) yl yh yI yP s yF yA yQ yR) (fun c s => ∀ x, x < 128 → s x = nI (nd_cnt (fun c => q c && nd_fit c x) c)) 2187 s hs ?_ ?_
    · intro m s hs
      refine br_t nd_c2187 ?_
      refine loop_0 (fun m c (r : Int32) => wY_essential_88 post yn ys yt ye yl yh yI yP s yF yA yQ yR m r (nI c)) (fun c r => r = nI (nd_cnt (fun c => q c && nd_alone q c) c)) 2187 0 rfl ?_ ?_
      · rintro m r rfl
        exact br_t nd_c2187 (h s)
      · rintro m c r hc rfl ih
        refine br_f (nd_n2187 hc) ⟨vp_in_nI hc (by omega), ?_⟩
        rw [nI_clamp (show c < 2 ^ 31 by omega), hq c hc]
        refine nd_br (fun z => nm_r (nI_1 c) (ih _ ?_)) (fun z => yd_alone hc hs (nd_br (fun w => nm_r (nI_1 c) (ih _ ?_)) (fun w => nm_r (nI_1 _) (nm_r (nI_1 c) (ih _ ?_)))))
        · rw [nd_cnt_f (q := fun c => q c && nd_alone q c) (by rw [z]; rfl)]
        · rw [nd_cnt_f (q := fun c => q c && nd_alone q c) (by rw [z, w]; rfl)]
        · rw [nd_cnt_t (q := fun c => q c && nd_alone q c) (by rw [z, w]; rfl)]
    · intro m c s hc hs ih
      have hqc : yP (nI c).toNatClampNeg = nd_b (q c) := by rw [nI_clamp (by omega)]; exact hq c hc
      refine br_f (nd_n2187 hc) ?_
      refine loop_0 (fun m' x s' => wY_essential_33 post (wY_essential_24 post yn ys yt ye m) (nI c) yn ys yt ye m' (nI x) yl yh yI yP s' yF yA yQ yR) (fun x s' => ∀ y, y < 128 → s' y = nI (nd_cnt (fun c => q c && nd_fit c y) c + (if decide (y < x) && (q c && nd_fit c y) then 1 else 0))) 128 s (fun y hy => hs y hy) ?_ ?_
      · intro m' s' hs'
        refine br_t nd_128 (nm_r (nI_1 c) (ih s' ?_))
        intro y hy
        rw [hs' y hy, decide_eq_true hy, Bool.true_and]
        rfl
      · intro m' x s' hx hs' ih2
        have hle : nd_cnt (fun c => q c && nd_fit c x) c ≤ c := nd_cnt_le _ _
        have hxx : (nI x).toNatClampNeg = x := nI_clamp (by omega)
        refine br_f (nd_n128 hx) ⟨vp_in_nI hc (by omega), ?_⟩
        rw [hqc]
        refine nd_br (fun z => nm_r (nI_1 c) (ih s' ?_)) (fun z => ⟨vp_in_nI hx (by omega), yd_fits hc hx ?_⟩)
        · intro y hy
          rw [hs' y hy, nd_cnt_f (q := fun c => q c && nd_fit c y) (by rw [z]; rfl), z, Bool.false_and, Bool.and_false]
          rfl
        · have hsx : s' x = nI (nd_cnt (fun c => q c && nd_fit c x) c) := by
            rw [hs' x hx, decide_eq_false (Nat.lt_irrefl x), Bool.false_and]
            rfl
          have put : ∀ (b : Bool) (k : Int32), nd_fit c x = b → k = nI (if b then 1 else 0) → ∀ w, w = upd s' (nI x).toNatClampNeg (s' (nI x).toNatClampNeg + k) → ∀ y, y = nI x + 1 → wY_essential_33 post (wY_essential_24 post yn ys yt ye m) (nI c) yn ys yt ye m' y yl yh yI yP w yF yA yQ yR := by
            rintro b k hb rfl
            refine nm_r (e' := upd s' x (nI (nd_cnt (fun c => q c && nd_fit c x) c + (if b then 1 else 0)))) (by rw [hxx, hsx, nI_add]) (nm_r (nI_1 x) (ih2 _ ?_))
            intro y hy
            by_cases e : y = x
            · subst e
              rw [pk_us, decide_eq_true (show y < y + 1 by omega), z, hb, Bool.true_and, Bool.true_and]
            · rw [pk_un e, hs' y hy]
              by_cases e2 : y < x
              · rw [decide_eq_true e2, decide_eq_true (show y < x + 1 by omega)]
              · rw [decide_eq_false e2, decide_eq_false (show ¬ y < x + 1 by omega)]
          exact nd_br (fun w => ⟨vp_in_nI hx (by omega), put false 0 w rfl⟩) (fun w => ⟨vp_in_nI hx (by omega), put true 1 w rfl⟩)
  · intro m x s hx hs ih
    refine br_f (nd_n128 hx) ⟨vp_in_nI hx (by omega), nm_r (e' := upd s x (nI 0)) (by rw [nI_clamp (by omega)]; rfl) (nm_r (nI_1 x) (ih _ (nd_lts ?_ pk_us)))⟩
    intro y hy
    rw [pk_un (by omega)]; exact hs y hy
end NDY
