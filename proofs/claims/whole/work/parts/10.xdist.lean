/-! the component: distances, check, looks -/
section NDX
variable {xn xr xm xc xl : Int32} {xT xM xN xI xP xC xH xL xD xR xK xF : Nat → Int32}
def nd_e (v : Nat) : Int32 := if v = 99 then -1 else nI v
theorem nd_e_n {v : Nat} (h : v < 16) : nd_e v = nI v := if_neg (by omega)
theorem nd_e_99 : nd_e 99 = -1 := rfl
/-- distances so far: held as ints, -1 for none -/
def nd_Di (t : Nat → Int32) (e : Nat → Nat) : Prop := ∀ s, s < 16 → t s = nd_e (e s) ∧ (e s < 16 ∨ e s = 99)
theorem xf_rh {f : Nat → Nat → Nat} {e : Nat → Nat} {s n : Nat} (hs : s < 16) (hn : n < 16) (hH : nd_Hr xH f 16) (hD : nd_Di xD e) {post : SX → Prop}
    (h : ∀ (t : Nat → Int32) (e' : Nat → Nat), nd_Di t e' → (∀ u, u < 16 → e' u = if nd_hr f s u = true ∧ e u = 99 then n else e u) → post (xn, xr, xm, xc, xl, xT, xM, xN, xI, xP, xC, xH, xL, t, xR, xK, xF)) : wpX_reachHeirs post (xn, xr, xm, xc, xl, xT, xM, xN, xI, xP, xC, xH, xL, xD, xR, xK, xF) (nI s) (nI n) := by
  have hm := nd_m16 (nd_hr f s)
  refine loop_0 (fun m k t => wX_reachHeirs_2 post (nI s) (nI n) xn xr xm xc xl m (nI k) xT xM xN xI xP xC xH xL t xR xK xF) (fun k t => ∃ e' : Nat → Nat, nd_Di t e' ∧ ∀ u, u < 16 → e' u = if (nd_hr f s u = true ∧ e u = 99) ∧ u < k then n else e u) 16 xD ⟨e, hD, fun u hu => by rw [if_neg (by omega)]⟩ ?_ ?_
  · rintro m t ⟨e', h1, h2⟩
    refine br_t nd_16 (h t e' h1 ?_)
    intro u hu
    rw [h2 u hu]
    by_cases z : nd_hr f s u = true ∧ e u = 99
    · rw [if_pos z, if_pos ⟨z, hu⟩]
    · rw [if_neg z, if_neg (fun y => z y.1)]
  · rintro m k t hk ⟨e', h1, h2⟩ ih
    have ek : e' k = e k := by rw [h2 k hk, if_neg (by omega)]
    have keep : ¬ (nd_hr f s k = true ∧ e k = 99) → wX_reachHeirs_2 post (nI s) (nI n) xn xr xm xc xl m (nI (k + 1)) xT xM xN xI xP xC xH xL t xR xK xF := by
      intro z
      refine ih t ⟨e', h1, ?_⟩
      intro u hu
      rw [h2 u hu]
      by_cases y : u = k
      · subst y
        rw [if_neg (by omega), if_neg (fun y => z y.1)]
      · by_cases w : (nd_hr f s u = true ∧ e u = 99) ∧ u < k
        · rw [if_pos w, if_pos ⟨w.1, by omega⟩]
        · rw [if_neg w, if_neg (fun y2 => w ⟨y2.1, by omega⟩)]
    refine br_f (nd_n16 hk) ⟨vp_in_nI hs (by omega), ?_⟩
    rw [nI_clamp (show s < 2 ^ 31 by omega), hH s hs]
    refine xa_bit (by omega) (by omega) ?_
    rw [nd_m_in hk]
    refine nd_br (fun z => nm_r (nI_1 k) (keep (fun y => by rw [z] at y; cases y.1))) (fun z => ⟨vp_in_nI hk (by omega), ?_⟩)
    rw [nI_clamp (show k < 2 ^ 31 by omega), (h1 k hk).1, ek]
    rcases (h1 k hk).2 with w | w
    · rw [ek] at w
      rw [nd_e_n w]
      exact br_t (nI_pos' (by omega)) (nm_r (nI_1 k) (keep (by omega)))
    · rw [ek] at w
      rw [w, nd_e_99]
      refine br_f (by decide) ⟨vp_in_nI hk (by omega), nm_e (nm_r (nI_1 k) (ih _ ⟨fun u => if u = k then n else e' u, ?_, ?_⟩))⟩
      · intro u hu
        dsimp only
        by_cases y : u = k
        · subst y
          rw [pk_us, if_pos rfl, nd_e_n hn]
          exact ⟨rfl, Or.inl hn⟩
        · rw [pk_un y, if_neg y]
          exact h1 u hu
      · intro u hu
        dsimp only
        by_cases y : u = k
        · subst y
          rw [if_pos rfl, if_pos ⟨⟨z, w⟩, by omega⟩]
        · rw [if_neg y, h2 u hu]
          by_cases w : (nd_hr f s u = true ∧ e u = 99) ∧ u < k
          · rw [if_pos w, if_pos ⟨w.1, by omega⟩]
          · rw [if_neg w, if_neg (fun y2 => w ⟨y2.1, by omega⟩)]
theorem xf_dist {N : Nat → Nat → Bool} {s0 : Nat} (h0 : s0 < 16) (hN : nd_T xN N 4) {post : SX → Prop}
    (h : ∀ (w t : Nat → Int32) (e : Nat → Nat), nd_D (nd_nx N) s0 e → nd_Di t e → post (xn, nI s0, xm, xc, xl, xT, xM, xN, xI, xP, xC, w, xL, t, xR, xK, xF)) : wpX_findDistances post (xn, nI s0, xm, xc, xl, xT, xM, xN, xI, xP, xC, xH, xL, xD, xR, xK, xF) := by
  refine xe_heirs hN (fun w hH => ?_)
  refine loop_0 (fun m k t => wX_findDistances_6 post xn (nI s0) xm xc xl m (nI k) xT xM xN xI xP xC w xL t xR xK xF) (fun k t => ∀ s, s < k → t s = -1) 16 xD (fun u hu => absurd hu (by omega)) ?_ ?_
  · intro m t ht
    refine br_t nd_16 ⟨vp_in_nI h0 (by omega), nm_r (e' := upd t s0 0) (by rw [nI_clamp (by omega)]) ?_⟩
    refine pk_loop (fun m n t => wX_findDistances_37 post m (nI n) xn (nI s0) xm xc xl xT xM xN xI xP xC w xL t xR xK xF) (fun n t => 1 ≤ n ∧ ∃ e, nd_H (nd_nx N) s0 n e ∧ nd_Di t e) 16 1 _ (by omega) ⟨Nat.le_refl _, fun s => if s = s0 then 0 else 99, nd_H_0, ?_⟩ ?_ ?_
    · intro s hs
      dsimp only
      by_cases z : s = s0
      · rw [z, pk_us, if_pos rfl]
        exact ⟨rfl, Or.inl (by omega)⟩
      · rw [pk_un z, if_neg z, ht s hs]
        exact ⟨rfl, Or.inr rfl⟩
    · rintro m t ⟨_, e, h1, h2⟩
      exact br_t nd_16 (h w t e (nd_H_D h1) h2)
    · rintro m n t hn ⟨h1, e, h2, h3⟩ ih
      refine br_f (nd_n16 hn) ?_
      have em : nI n - 1 = nI (n - 1) := pk_sub (b := 1) h1
      refine loop_0 (fun m' s t => wX_findDistances_45 post (wX_findDistances_37 post m) (nI n) m' (nI s) xn (nI s0) xm xc xl xT xM xN xI xP xC w xL t xR xK xF) (fun s t => ∃ e, nd_Q (nd_nx N) s0 n s e ∧ nd_Di t e) 16 t ⟨e, h2.1, h3⟩ ?_ ?_
      · rintro m' t ⟨e, h4, h5⟩
        exact br_t nd_16 (nm_r (nI_1 n) (ih t ⟨by omega, e, nd_H_s h1 hn h4, h5⟩))
      · rintro m' s t hs ⟨e, h4, h5⟩ ih2
        refine br_f (nd_n16 hs) ⟨vp_in_nI hs (by omega), ?_⟩
        rw [nI_clamp (show s < 2 ^ 31 by omega), (h5 s hs).1, em]
        have hd : nd_e (e s) = nI (n - 1) ↔ e s = n - 1 := by
          rcases (h5 s hs).2 with z | z
          · rw [nd_e_n z, nI_eq (by omega) (by omega)]
          · rw [z, nd_e_99]
            constructor
            · intro y; exact absurd y.symm (nd_m1 (by omega))
            · intro y; omega
        by_cases z : e s = n - 1
        · refine br_t (hd.mpr z) (xf_rh hs hn hH h5 (fun t' e' h6 h7 => ?_))
          refine nm_r (nI_1 s) (ih2 t' ⟨e', ?_, h6⟩)
          exact nd_Q_s h1 hn hs h4 (fun _ => h7) (fun y => absurd z y) (nd_nxF N)
        · refine br_f (fun y => z (hd.mp y)) (nm_r (nI_1 s) (ih2 t ⟨e, ?_, h5⟩))
          exact nd_Q_s h1 hn hs h4 (fun y => absurd y z) (fun _ t _ => rfl) (nd_nxF N)
  · intro m k t hk ht ih
    refine br_f (nd_n16 hk) ⟨vp_in_nI hk (by omega), nm_r (e' := upd t k (-1)) (by rw [nI_clamp (by omega)]) (nm_r (nI_1 k) (ih _ (nd_lts ?_ pk_us)))⟩
    intro s hs
    rw [pk_un (by omega)]; exact ht s hs
/-! what states tells of distances e -/
def nd_mx (e : Nat → Nat) : Nat → Nat
  | 0 => 0
  | k + 1 => if e k = 99 then nd_mx e k else if e k ≤ nd_mx e k then nd_mx e k else e k
theorem nd_mx_lt {e : Nat → Nat} (h : ∀ s, s < 16 → e s < 16 ∨ e s = 99) : ∀ k, k ≤ 16 → nd_mx e k < 16 := by
  intro k
  induction k with
  | zero => intro _; exact (by decide : 0 < 16)
  | succ k ih =>
    intro hk
    have h1 := ih (by omega)
    have h2 := h k (by omega)
    rw [nd_mx]
    split
    · exact h1
    · split
      · exact h1
      · omega
theorem nd_mx_congr {e e' : Nat → Nat} (h : ∀ s, s < 16 → e s = e' s) : ∀ k, k ≤ 16 → nd_mx e k = nd_mx e' k := by
  intro k
  induction k with
  | zero => intro _; rfl
  | succ k ih => intro hk; rw [nd_mx, nd_mx, ih (by omega), h k (by omega)]
def nd_sv (e : Nat → Nat) (what : Nat) : Nat :=
  if what = 0 then nd_cnt (fun s => decide (e s ≠ 99)) 16 else if what = 1 then nd_mx e 16 else nd_m (fun s => decide (e s ≠ 99)) 16
theorem nd_sv_congr {e e' : Nat → Nat} (h : ∀ s, s < 16 → e s = e' s) (w : Nat) : nd_sv e w = nd_sv e' w := by
  unfold nd_sv
  rw [nd_mx_congr h 16 (by omega), nd_cnt_congr (p := fun s => decide (e s ≠ 99)) (q := fun s => decide (e' s ≠ 99)) (fun i hi => by rw [h i hi]), nd_m_congr (p := fun s => decide (e s ≠ 99)) (q := fun s => decide (e' s ≠ 99)) (fun i hi => by rw [h i hi])]
theorem xf_states {e : Nat → Nat} {p : Int32} (hD : nd_Di xD e) {post : Int32 → SX → Prop} (h : post (if nd_in p 3 then nI (nd_sv e p.toNatClampNeg) else -1) (xn, xr, xm, xc, xl, xT, xM, xN, xI, xP, xC, xH, xL, xD, xR, xK, xF)) : ∃ m, wX_states_14 post p xn xr xm xc xl xT xM xN xI xP xC xH xL xD xR xK xF m 0 0 0 0 := by
  have hb := nd_mx_lt (fun s hs => (hD s hs).2)
  refine loop_0 (fun m s (w : Int32 × Int32 × Int32) => wX_states_14 post p xn xr xm xc xl xT xM xN xI xP xC xH xL xD xR xK xF m w.1 w.2.1 w.2.2 (nI s)) (fun s w => w = (nI (nd_cnt (fun s => decide (e s ≠ 99)) s), nI (nd_mx e s), nI (nd_m (fun s => decide (e s ≠ 99)) s))) 16 (0, 0, 0) rfl ?_ ?_
  · rintro m w rfl
    refine br_t nd_16 ?_
    rcases pk_ix p (n := 3) (by omega) with z | z | ⟨j, hj, rfl⟩
    · rw [nd_in_f (by omega) (Or.inl z), if_neg Bool.false_ne_true] at h
      exact br_t z h
    · rw [nd_in_f (by omega) (Or.inr z), if_neg Bool.false_ne_true] at h
      obtain ⟨j, h1, h2, rfl⟩ := nd_big (by omega) z
      exact br_f (nI_pos h2) (br_t (nI_lt (a := 2) (by omega) h2) h)
    · rw [nd_in_nI hj (by omega), if_pos rfl, nI_clamp (by omega)] at h
      have hj : j = 0 ∨ j = 1 ∨ j = 2 := by omega
      rcases hj with rfl | rfl | rfl
      · exact br_f (by decide) (br_f (by decide) (br_t (by decide) h))
      · exact br_f (by decide) (br_f (by decide) (br_f (by decide) (br_t (by decide) h)))
      · exact br_f (by decide) (br_f (by decide) (br_f (by decide) (br_f (by decide) (br_t (by decide) h))))
  · rintro m s w hs rfl ih
    have hb1 := hb s (by omega)
    refine br_f (nd_n16 hs) ⟨vp_in_nI hs (by omega), ?_⟩
    rw [nI_clamp (show s < 2 ^ 31 by omega), (hD s hs).1]
    rcases (hD s hs).2 with z | z
    · have zd : decide (e s ≠ 99) = true := decide_eq_true (by omega)
      rw [nd_e_n z]
      refine br_f (nI_pos (by omega)) (nm_r (nI_1 _) ⟨vp_in_nI hs (by omega), ?_⟩)
      refine pk_le (e s) (nd_mx e s) (fun y => ?_) (fun y => ⟨vp_in_nI hs (by omega), ?_⟩)
      · refine nm_r (nd_orb (by omega)) (nm_r (nI_1 s) (ih (nI (nd_cnt (fun s => decide (e s ≠ 99)) s + 1), nI (nd_mx e s), nI (nd_m (fun s => decide (e s ≠ 99)) s ||| 2 ^ s)) ?_))
        rw [nd_cnt_t (q := fun s => decide (e s ≠ 99)) zd, nd_m_t (p := fun s => decide (e s ≠ 99)) zd, nd_mx, if_neg (by omega), if_pos y]
      · refine nm_r (nd_orb (by omega)) (nm_r (nI_1 s) (ih (nI (nd_cnt (fun s => decide (e s ≠ 99)) s + 1), nI (e s), nI (nd_m (fun s => decide (e s ≠ 99)) s ||| 2 ^ s)) ?_))
        rw [nd_cnt_t (q := fun s => decide (e s ≠ 99)) zd, nd_m_t (p := fun s => decide (e s ≠ 99)) zd, nd_mx, if_neg (by omega), if_neg (by omega)]
    · have zd : decide (e s ≠ 99) = false := decide_eq_false (fun y => y z)
      rw [z, nd_e_99]
      refine br_t (by decide) (nm_r (nI_1 s) (ih _ ?_))
      rw [nd_cnt_f (q := fun s => decide (e s ≠ 99)) zd, nd_m_f (p := fun s => decide (e s ≠ 99)) zd, nd_mx, if_pos z]
/-! check -/
theorem xf_com {f : Nat → Nat → Nat} {g t : Nat → Bool} {all : Bool} (hf : nd_F f) (hH : nd_Hr xH f 16) {post : Int32 → Prop} (hp : post (nI (nd_m (nd_co f all g t 16) 16))) : wpX_comingTo post (xn, xr, xm, xc, xl, xT, xM, xN, xI, xP, xC, xH, xL, xD, xR, xK, xF) (nI (nd_m g 16)) (nI (nd_m t 16)) (nd_b all) := by
  refine loop_0 (fun m k r => wX_comingTo_6 post (nI (nd_m g 16)) (nI (nd_m t 16)) (nd_b all) xn xr xm xc xl xT xM xN xI xP xC xH xL xD xR xK xF m r (nI k)) (fun k r => r = nI (nd_m (nd_co f all g t k) 16)) 16 _ rfl ?_ ?_
  · rintro m r rfl
    exact br_t nd_16 hp
  · rintro m k r hk rfl ih
    refine br_f (nd_n16 hk) (xe_lead hf hH (nm_r ?_ (nm_r (nI_1 k) (ih _ rfl))))
    rw [nx_and, nd_m_and, nd_or, nd_m_or]
    rfl
theorem xf_stay {f : Nat → Nat → Nat} {g : Nat → Bool} {all : Bool} (hf : nd_F f) (hH : nd_Hr xH f 16) {post : Int32 → Prop} (hp : post (nI (nd_m (nd_st f all g 16) 16))) : wpX_stayingIn post (xn, xr, xm, xc, xl, xT, xM, xN, xI, xP, xC, xH, xL, xD, xR, xK, xF) (nI (nd_m g 16)) (nd_b all) := by
  refine loop_0 (fun m k r => wX_stayingIn_5 post (nI (nd_m g 16)) (nd_b all) xn xr xm xc xl xT xM xN xI xP xC xH xL xD xR xK xF m r (nI k)) (fun k r => r = nI (nd_m (nd_st f all g k) 16)) 16 _ rfl ?_ ?_
  · rintro m r rfl
    exact br_t nd_16 hp
  · rintro m k r hk rfl ih
    refine br_f (nd_n16 hk) (xe_lead hf hH (nm_r ?_ (nm_r (nI_1 k) (ih _ rfl))))
    rw [nx_and, nd_m_and]
    rfl
def nd_ck (f : Nat → Nat → Nat) (j : Nat) (A B : Nat → Bool) : Nat :=
  if j < 2 then nd_m (nd_ld f (decide (j % 2 = 1)) A) 16
  else if j < 4 then nd_m (nd_co f (decide (j % 2 = 1)) A (fun _ => true) 16) 16
  else if j < 6 then nd_m (nd_st f (decide (j % 2 = 1)) A 16) 16
  else nd_m (nd_co f (decide (j % 2 = 1)) B A 16) 16
theorem xf_check {T : Nat → Nat → Bool} {f : Nat → Nat → Nat} {n a j b : Nat} {p3 : Int32} (hT : nd_T xT T n) (hn : n ≤ 32) (ha : a < n) (hj : j < 8) (hb : 6 ≤ j → b < n ∧ p3 = nI b) (hf : nd_F f) (hH : nd_Hr xH f 16) {post : Int32 → SX → Prop}
    (h : post (nI (nd_ck f j (nd_so (T a)) (nd_so (T b)))) (xn, xr, xm, xc, xl, xT, xM, xN, xI, xP, xC, xH, xL, xD, xR, xK, xF)) : wX_check_52 post (nI j) (nI a) p3 (nd_b (decide (j % 2 = 1))) xn xr xm xc xl xT xM xN xI xP xC xH xL xD xR xK xF := by
  refine xe_set hT hn ha ?_
  unfold nd_ck at h
  by_cases h2 : j < 2
  · rw [if_pos h2] at h
    exact br_f (nI_ge (b := 2) h2 (by omega)) (xe_lead hf hH h)
  · rw [if_neg h2] at h
    refine br_t (nI_le (a := 2) (by omega) (by omega)) ?_
    by_cases h4 : j < 4
    · rw [if_pos h4] at h
      refine br_f (nI_ge (b := 4) h4 (by omega)) ?_
      rw [show (65535 : Int32) = nI (nd_m (fun _ => true) 16) from by rw [nd_m_all]; rfl]
      exact xf_com hf hH h
    · rw [if_neg h4] at h
      refine br_t (nI_le (a := 4) (by omega) (by omega)) ?_
      by_cases h6 : j < 6
      · rw [if_pos h6] at h
        exact br_f (nI_ge (b := 6) h6 (by omega)) (xf_stay hf hH h)
      · rw [if_neg h6] at h
        obtain ⟨hb', rfl⟩ := hb (by omega)
        exact br_t (nI_le (a := 6) (by omega) (by omega)) (xe_set hT hn hb' (xf_com hf hH h))
/-! looks -/
theorem xf_net {T N : Nat → Nat → Bool} {n a s : Nat} (hT : nd_T xT T n) (hn : n ≤ 32) (ha : a < n) (hs : s < 16) {post : Int32 → Prop} (hp : post (nI (nd_lk (nd_nx N) (fun s i => T a (s * 8 + i)) 0 s))) : wpX_leastWithSameNet post (xn, xr, xm, xc, xl, xT, xM, xN, xI, xP, xC, xH, xL, xD, xR, xK, xF) (nI a) (nI s) := by
  refine loop_0 (fun m t (_ : Unit) => wX_leastWithSameNet_2 post (nI a) (nI s) xn xr xm xc xl xT xM xN xI xP xC xH xL xD xR xK xF m (nI t)) (fun k _ => ∀ t, t < k → nd_E (nd_nx N) (fun s i => T a (s * 8 + i)) 0 t s = false) s () (fun u hu => absurd hu (by omega)) ?_ ?_
  · intro m _ h
    have e : nd_lk (nd_nx N) (fun s i => T a (s * 8 + i)) 0 s = s := nd_fst_eq (Nat.le_refl _) h (fun z => absurd z (Nat.lt_irrefl _))
    rw [e] at hp
    exact br_t (nI_le (Nat.le_refl _) (by omega)) hp
  · intro m t _ ht h ih
    refine br_f (nI_ge ht (by omega)) ?_
    refine loop_0 (fun m' i r => wX_leastWithSameNet_13 post (wX_leastWithSameNet_2 post (nI a) (nI s) xn xr xm xc xl xT xM xN xI xP xC xH xL xD xR xK xF m) (nI a) (nI s) (nI t) xn xr xm xc xl xT xM xN xI xP xC xH xL xD xR xK xF m' r (nI i)) (fun i r => r = nd_b (nd_all (fun i => T a (t * 8 + i) == T a (s * 8 + i)) i)) 8 1 rfl ?_ ?_
    · rintro m' r rfl
      refine br_t nd_8 (nd_br (fun z => nm_r (nI_1 t) (ih () (nd_lts h z))) (fun z => ?_))
      have e : nd_lk (nd_nx N) (fun s i => T a (s * 8 + i)) 0 s = t := nd_fst_eq (by omega) h (fun _ => z)
      rw [e] at hp
      exact hp
    · rintro m' i r hi rfl ih2
      refine br_f (nd_n8 hi) (xa_TI hT hn ha (by omega) hi (xa_TI hT hn ha hs hi ?_))
      refine nd_bq (fun w => nm_r (nI_1 i) (ih2 _ ?_)) (fun w => nm_r (nI_1 i) (ih2 0 ?_))
      · rw [nd_all, w, BEq.rfl, Bool.and_true]
      · rw [nd_all, beq_eq_false_iff_ne.mpr w, Bool.and_false]
        rfl
theorem nd_lkq {a b : Nat} (ha : a < 16) (hb : b < 16) {A B : Prop} (f : (a == b) = true → A) (g : (a == b) = false → B) : (nI a = nI b → A) ∧ (¬ nI a = nI b → B) :=
  pk_eq a b (fun z => f (beq_iff_eq.mpr z)) (fun z => g (beq_eq_false_iff_ne.mpr z)) rfl rfl (by omega) (by omega)
theorem xf_her {N : Nat → Nat → Bool} {g : Nat → Nat → Bool} {r s : Nat} (hN : nd_T xN N 4) (hK : ∀ s, s < 16 → xK s = nI (nd_lk (nd_nx N) g r s)) (hs : s < 16) {post : Int32 → Prop} (hp : post (nI (nd_lk (nd_nx N) g (r + 1) s))) : wpX_leastWithSameHeirs post (xn, xr, xm, xc, xl, xT, xM, xN, xI, xP, xC, xH, xL, xD, xR, xK, xF) (nI s) := by
  have hl : ∀ s, s < 16 → nd_lk (nd_nx N) g r s < 16 := fun s hs => Nat.lt_of_le_of_lt (nd_lk_le r s) hs
  rw [← nd_lk_s] at hp
  refine loop_0 (fun m t (_ : Unit) => wX_leastWithSameHeirs_2 post (nI s) xn xr xm xc xl xT xM xN xI xP xC xH xL xD xR xK xF m (nI t)) (fun k _ => ∀ t, t < k → (nd_all (fun i => nd_lk (nd_nx N) g r (nd_nx N t i) == nd_lk (nd_nx N) g r (nd_nx N s i)) 8 && (nd_lk (nd_nx N) g r t == nd_lk (nd_nx N) g r s)) = false) s () (fun u hu => absurd hu (by omega)) ?_ ?_
  · intro m _ h
    rw [nd_fst_eq (p := fun t => nd_all (fun i => nd_lk (nd_nx N) g r (nd_nx N t i) == nd_lk (nd_nx N) g r (nd_nx N s i)) 8 && (nd_lk (nd_nx N) g r t == nd_lk (nd_nx N) g r s)) (Nat.le_refl _) h (fun z => absurd z (Nat.lt_irrefl _))] at hp
    exact br_t (nI_le (Nat.le_refl _) (by omega)) hp
  · intro m t _ ht h ih
    have ht16 : t < 16 := by omega
    have inner : ∀ b : Bool, b = (nd_lk (nd_nx N) g r t == nd_lk (nd_nx N) g r s) → ∃ m', wX_leastWithSameHeirs_31 post (wX_leastWithSameHeirs_2 post (nI s) xn xr xm xc xl xT xM xN xI xP xC xH xL xD xR xK xF m) (nI s) (nI t) xn xr xm xc xl xT xM xN xI xP xC xH xL xD xR xK xF m' (nd_b b) 0 := by
      intro b hb
      refine loop_0 (fun m' i r' => wX_leastWithSameHeirs_31 post (wX_leastWithSameHeirs_2 post (nI s) xn xr xm xc xl xT xM xN xI xP xC xH xL xD xR xK xF m) (nI s) (nI t) xn xr xm xc xl xT xM xN xI xP xC xH xL xD xR xK xF m' r' (nI i)) (fun i r' => r' = nd_b (nd_all (fun i => nd_lk (nd_nx N) g r (nd_nx N t i) == nd_lk (nd_nx N) g r (nd_nx N s i)) i && b)) 8 _ (by rw [nd_all, Bool.true_and]) ?_ ?_
      · rintro m' r' rfl
        refine br_t nd_8 (nd_br (fun z => nm_r (nI_1 t) (ih () (nd_lts h (by rw [← hb]; exact z)))) (fun z => ?_))
        rw [nd_fst_eq (p := fun t => nd_all (fun i => nd_lk (nd_nx N) g r (nd_nx N t i) == nd_lk (nd_nx N) g r (nd_nx N s i)) 8 && (nd_lk (nd_nx N) g r t == nd_lk (nd_nx N) g r s)) (by omega) h (fun _ => by rw [← hb]; exact z)] at hp
        exact hp
      · rintro m' i r' hi rfl ih2
        have l1 := nd_nxl N t i
        have l2 := nd_nxl N s i
        refine br_f (nd_n8 hi) (xe_suc hN ht16 hi (xe_suc hN hs hi ⟨vp_in_nI l1 (by omega), vp_in_nI l2 (by omega), ?_⟩))
        rw [nI_clamp (show nd_nx N t i < 2 ^ 31 by omega), nI_clamp (show nd_nx N s i < 2 ^ 31 by omega), hK _ l1, hK _ l2]
        refine nd_lkq (hl _ l1) (hl _ l2) (fun w => nm_r (nI_1 i) (ih2 _ ?_)) (fun w => nm_r (nI_1 i) (ih2 0 ?_))
        · rw [nd_all, w, Bool.and_true]
        · rw [nd_all, w, Bool.and_false, Bool.false_and]
          rfl
    refine br_f (nI_ge ht (by omega)) ⟨vp_in_nI ht16 (by omega), vp_in_nI hs (by omega), ?_⟩
    rw [nI_clamp (show t < 2 ^ 31 by omega), nI_clamp (show s < 2 ^ 31 by omega), hK t ht16, hK s hs]
    exact nd_lkq (hl t ht16) (hl s hs) (fun w => inner true w.symm) (fun w => inner false w.symm)
theorem xf_looks {T N : Nat → Nat → Bool} {n a : Nat} (hT : nd_T xT T n) (hN : nd_T xN N 4) (hn : n ≤ 32) (ha : a < n) {post : SX → Prop}
    (h : ∀ t w : Nat → Int32, (∀ s, s < 16 → t s = nI (nd_lk (nd_nx N) (fun s i => T a (s * 8 + i)) 16 s)) → post (xn, xr, xm, xc, xl, xT, xM, xN, xI, xP, xC, xH, xL, xD, xR, t, w)) : wpX_findLooks post (xn, xr, xm, xc, xl, xT, xM, xN, xI, xP, xC, xH, xL, xD, xR, xK, xF) (nI a) := by
  refine loop_0 (fun m s t => wX_findLooks_2 post (nI a) xn xr xm xc xl m (nI s) xT xM xN xI xP xC xH xL xD xR t xF) (fun k t => ∀ s, s < k → t s = nI (nd_lk (nd_nx N) (fun s i => T a (s * 8 + i)) 0 s)) 16 xK (fun u hu => absurd hu (by omega)) ?_ ?_
  · intro m t ht
    refine br_t nd_16 ?_
    refine loop_0 (fun m r (w : (Nat → Int32) × (Nat → Int32)) => wX_findLooks_28 post xn xr xm xc xl m (nI r) xT xM xN xI xP xC xH xL xD xR w.1 w.2) (fun r w => ∀ s, s < 16 → w.1 s = nI (nd_lk (nd_nx N) (fun s i => T a (s * 8 + i)) r s)) 16 (t, xF) ht ?_ ?_
    · rintro m ⟨w1, w2⟩ hw
      exact br_t nd_16 (h w1 w2 hw)
    · rintro m r ⟨w1, w2⟩ hr hw ih
      refine br_f (nd_n16 hr) ?_
      refine loop_0 (fun m' s v => wX_findLooks_36 post (wX_findLooks_28 post xn xr xm xc xl m) (nI r) xn xr xm xc xl m' (nI s) xT xM xN xI xP xC xH xL xD xR w1 v) (fun k v => ∀ s, s < k → v s = nI (nd_lk (nd_nx N) (fun s i => T a (s * 8 + i)) (r + 1) s)) 16 w2 (fun u hu => absurd hu (by omega)) ?_ ?_
      · intro m' v hv
        refine br_t nd_16 ?_
        refine loop_0 (fun m' s v' => wX_findLooks_61 post (wX_findLooks_28 post xn xr xm xc xl m) (nI r) xn xr xm xc xl m' (nI s) xT xM xN xI xP xC xH xL xD xR v' v) (fun k v' => ∀ s, s < k → v' s = nI (nd_lk (nd_nx N) (fun s i => T a (s * 8 + i)) (r + 1) s)) 16 w1 (fun u hu => absurd hu (by omega)) ?_ ?_
        · intro m' v' hv'
          exact br_t nd_16 (nm_r (nI_1 r) (ih (v', v) hv'))
        · intro m' s v' hs hv' ih2
          refine br_f (nd_n16 hs) ⟨vp_in_nI hs (by omega), vp_in_nI hs (by omega), nm_r (e' := upd v' s (v s)) (by rw [nI_clamp (by omega)]) (nm_r (nI_1 s) (ih2 _ (nd_lts ?_ (pk_us.trans (hv s hs)))))⟩
          intro u hu
          rw [pk_un (by omega)]; exact hv' u hu
      · intro m' s v hs hv ih2
        refine br_f (nd_n16 hs) (xf_her hN hw hs ⟨vp_in_nI hs (by omega), ?_⟩)
        refine nm_r (e' := upd v s (nI (nd_lk (nd_nx N) (fun s i => T a (s * 8 + i)) (r + 1) s))) (by rw [nI_clamp (by omega)]) (nm_r (nI_1 s) (ih2 _ (nd_lts ?_ pk_us)))
        intro u hu
        rw [pk_un (by omega)]; exact hv u hu
  · intro m s t hs ht ih
    refine br_f (nd_n16 hs) (xf_net (N := N) hT hn ha hs ⟨vp_in_nI hs (by omega), ?_⟩)
    refine nm_r (e' := upd t s (nI (nd_lk (nd_nx N) (fun s i => T a (s * 8 + i)) 0 s))) (by rw [nI_clamp (by omega)]) (nm_r (nI_1 s) (ih _ (nd_lts ?_ pk_us)))
    intro u hu
    rw [pk_un (by omega)]; exact ht u hu
theorem xf_cnt {L : Nat → Nat} (hl : ∀ s, s < 16 → L s ≤ s) (hK : ∀ s, s < 16 → xK s = nI (L s)) {post : Int32 → SX → Prop} (h : post (nI (nd_cnt (fun s => L s == s) 16)) (xn, xr, xm, xc, xl, xT, xM, xN, xI, xP, xC, xH, xL, xD, xR, xK, xF)) : ∃ m, wX_alike_46 post xn xr xm xc xl xT xM xN xI xP xC xH xL xD xR xK xF m 0 0 := by
  refine loop_0 (fun m s r => wX_alike_46 post xn xr xm xc xl xT xM xN xI xP xC xH xL xD xR xK xF m r (nI s)) (fun s r => r = nI (nd_cnt (fun s => L s == s) s)) 16 0 rfl ?_ ?_
  · rintro m r rfl
    exact br_t nd_16 h
  · rintro m s r hs rfl ih
    have := hl s hs
    refine br_f (nd_n16 hs) ⟨vp_in_nI hs (by omega), ?_⟩
    rw [nI_clamp (show s < 2 ^ 31 by omega), hK s hs]
    refine nd_lkq (by omega) hs (fun z => nm_r (nI_1 _) (nm_r (nI_1 s) (ih _ ?_))) (fun z => nm_r (nI_1 s) (ih _ ?_))
    · rw [nd_cnt_t (q := fun s => L s == s) z]
    · rw [nd_cnt_f (q := fun s => L s == s) z]
end NDX
