/-! the reference's walks: rings that are met -/
section
variable {n A : Nat → Nat} {mn : Int32} {R W S K C : Nat → Int32}
theorem yw_met_l (D : lo_Dy n A S) {post : Int32 → Prop} {z y : Nat} (hz : z < 2401) (hy : y < 2401) : ∀ d j, j + d = 4 →
    post (lo_b (!lo_any (fun t => decide (lo_e z t < 6) && decide (lo_e z t ≠ lo_e y t)) d j)) →
    wY_isMet_2 post (nI z) (nI y) mn (lo_a A) (lo_a n) R W S K C (d + 1) (nI j) := by
  intro d
  induction d with
  | zero => intro j hj h; exact br_t (nI_le (a := 4) (by omega) (by omega)) h
  | succ d ih =>
    intro j hj h
    have h1 := lo_e_lt z j
    have h2 := lo_e_lt y j
    have e2 : lo_any (fun t => decide (lo_e z t < 6) && decide (lo_e z t ≠ lo_e y t)) (d + 1) j = ((decide (lo_e z j < 6) && decide (lo_e z j ≠ lo_e y j)) || lo_any (fun t => decide (lo_e z t < 6) && decide (lo_e z t ≠ lo_e y t)) d (j + 1)) := rfl
    rw [e2] at h
    refine br_f (nI_ge (a := j) (b := 4) (by omega) (by decide)) ?_
    refine yw_done D hz (by omega) ?_
    refine pk_le 6 (lo_e z j) (fun e => ?_) (fun e => ?_) rfl rfl (by decide) (by omega)
    · rw [decide_eq_false (show ¬ lo_e z j < 6 by omega), Bool.false_and, Bool.false_or] at h
      exact nm_r (nI_1 j) (ih (j + 1) (by omega) h)
    · rw [decide_eq_true e, Bool.true_and] at h
      refine yw_done D hy (by omega) ?_
      refine pk_eq (lo_e z j) (lo_e y j) (fun e3 => ?_) (fun e3 => ?_) rfl rfl (by omega) (by omega)
      · rw [decide_eq_false (show ¬ (lo_e z j ≠ lo_e y j) from fun q => q e3), Bool.false_or] at h
        exact nm_r (nI_1 j) (ih (j + 1) (by omega) h)
      · rw [decide_eq_true (show lo_e z j ≠ lo_e y j from e3), Bool.true_or] at h
        exact h
theorem yw_isMet (D : lo_Dy n A S) {post : Int32 → Prop} {z y : Nat} (hz : z < 2401) (hy : y < 2401) (h : post (lo_b (lo_mY z y))) :
    wpY_isMet post (mn, lo_a A, lo_a n, R, W, S, K, C) (nI z) (nI y) := by
  unfold wpY_isMet
  exact ⟨5, yw_met_l D hz hy 4 0 rfl h⟩
theorem yw_any_l (D : lo_Dy n A S) {post : Int32 → Prop} {m y : Nat} {z : Nat → Nat} (hm : m ≤ 2401) (hK : ∀ j, j < m → K j = nI (z j)) (hz : ∀ j, j < m → z j < 2401) (hy : y < 2401) :
    ∀ d j, j + d = m → post (lo_b (lo_any (fun j => lo_mY (z j) y) d j)) → wY_anyMet_2 post (nI y) (nI m) (lo_a A) (lo_a n) R W S K C (d + 1) (nI j) := by
  intro d
  induction d with
  | zero => intro j hj h; exact br_t (nI_le (a := m) (by omega) (by omega)) h
  | succ d ih =>
    intro j hj h
    have e2 : lo_any (fun j => lo_mY (z j) y) (d + 1) j = (lo_mY (z j) y || lo_any (fun j => lo_mY (z j) y) d (j + 1)) := rfl
    rw [e2] at h
    refine br_f (nI_ge (a := j) (b := m) (by omega) (by omega)) ?_
    refine ⟨pk_in j 2401 (by omega), ?_⟩
    rw [nI_clamp (show j < 2 ^ 31 by omega), hK j (by omega)]
    refine yw_isMet D (hz j (by omega)) hy (lo_br (fun e => ?_) (fun e => ?_))
    · rw [e, Bool.false_or] at h
      exact nm_r (nI_1 j) (ih (j + 1) (by omega) h)
    · rw [e, Bool.true_or] at h
      exact h
theorem yw_any (D : lo_Dy n A S) {post : Int32 → Prop} {m y : Nat} {z : Nat → Nat} (hm : m ≤ 2401) (hK : ∀ j, j < m → K j = nI (z j)) (hz : ∀ j, j < m → z j < 2401) (hy : y < 2401)
    (h : post (lo_b (lo_any (fun j => lo_mY (z j) y) m 0))) : wpY_anyMet post (nI m, lo_a A, lo_a n, R, W, S, K, C) (nI y) := by
  unfold wpY_anyMet
  exact ⟨m + 1, yw_any_l D hm hK hz hy m 0 (by omega) h⟩
/-- met in a state that is reached -/
def lo_my (R : Nat → Int32) (z : Nat → Nat) (m y : Nat) : Bool := decide (R y ≠ 0) && lo_any (fun j => lo_mY (z j) y) m 0
theorem yw_cnt5 (D : lo_Dy n A S) {post : Int32 → SY → Prop} {m : Nat} {z : Nat → Nat} (hm : m ≤ 2401) (hK : ∀ j, j < m → K j = nI (z j)) (hz : ∀ j, j < m → z j < 2401)
    (h : post (nI (lo_c (fun y => lo_my R z m y) 2401)) (nI m, lo_a A, lo_a n, R, W, S, K, C)) :
    wY_statesMet_12 post (nI m) (lo_a A) (lo_a n) R W S K C 2402 0 0 := by
  refine lo_loopS (fun f i (s : Nat) => wY_statesMet_12 post (nI m) (lo_a A) (lo_a n) R W S K C f (nI s) (nI i)) (lo_c (fun y => lo_my R z m y)) 2401 (fun f => ?_) (fun f i hi k => ?_)
  · exact br_t (nI_le (a := 2401) (b := 2401) (by omega) (by decide)) h
  · try dsimp only at k ⊢
    have k' : lo_c (fun y => lo_my R z m y) (i + 1) = if (decide (R i ≠ 0) && lo_any (fun j => lo_mY (z j) i) m 0) = true then lo_c (fun y => lo_my R z m y) i + 1 else lo_c (fun y => lo_my R z m y) i := rfl
    rw [k'] at k
    refine br_f (nI_ge (a := i) (b := 2401) (by omega) (by decide)) ?_
    refine ⟨pk_in i 2401 hi, ?_⟩
    rw [nI_clamp (show i < 2 ^ 31 by omega)]
    refine br_c (fun e => ?_) (fun e => ?_)
    · rw [decide_eq_false (show ¬ (R i ≠ 0) from fun q => q e), Bool.false_and, if_neg (by decide)] at k
      exact nm_r (nI_1 i) k
    · rw [decide_eq_true (show R i ≠ 0 from e), Bool.true_and] at k
      refine yw_any D hm hK hz hi (lo_br (fun e2 => ?_) (fun e2 => ?_))
      · rw [if_neg (by rw [e2]; decide)] at k
        exact nm_r (nI_1 i) k
      · rw [if_pos e2] at k
        exact nm_r (nI_1 _) (nm_r (nI_1 i) k)
theorem yw_25 (D : lo_Dy n A S) {post : Int32 → SY → Prop} {J : Int32 → Int32 → Prop} {m c r : Nat} {z : Nat → Nat} (hm : m ≤ 2401) (hK : ∀ j, j < m → K j = nI (z j)) (hz : ∀ j, j < m → z j < 2401) (hr : r < m) :
    ∀ d j, j + d = 2401 → (lo_any (fun y => decide (R y ≠ 0) && lo_mY (z r) y) d j = false → J (nI c) (nI (r + 1))) → (lo_any (fun y => decide (R y ≠ 0) && lo_mY (z r) y) d j = true → J (nI (c + 1)) (nI (r + 1))) →
    wY_ringsMet_25 post J (nI c) (nI r) (nI m) (lo_a A) (lo_a n) R W S K C (d + 2) 0 (nI j) := by
  intro d
  induction d with
  | zero =>
    intro j hj h0 h1
    refine br_t (nI_le (a := 2401) (by omega) (by omega)) ?_
    unfold wY_ringsMet_74
    exact br_t rfl (nm_r (nI_1 r) (h0 rfl))
  | succ d ih =>
    intro j hj h0 h1
    have e2 : lo_any (fun y => decide (R y ≠ 0) && lo_mY (z r) y) (d + 1) j = ((decide (R j ≠ 0) && lo_mY (z r) j) || lo_any (fun y => decide (R y ≠ 0) && lo_mY (z r) y) d (j + 1)) := rfl
    rw [e2] at h0 h1
    refine br_f (nI_ge (a := j) (b := 2401) (by omega) (by decide)) ?_
    refine br_t rfl ?_
    refine ⟨pk_in j 2401 (by omega), ?_⟩
    rw [nI_clamp (show j < 2 ^ 31 by omega)]
    refine br_c (fun e => ?_) (fun e => ?_)
    · rw [decide_eq_false (show ¬ (R j ≠ 0) from fun q => q e), Bool.false_and, Bool.false_or] at h0 h1
      exact nm_r (nI_1 j) (ih (j + 1) (by omega) h0 h1)
    · rw [decide_eq_true (show R j ≠ 0 from e), Bool.true_and] at h0 h1
      refine ⟨pk_in r 2401 (by omega), ?_⟩
      rw [nI_clamp (show r < 2 ^ 31 by omega), hK r hr]
      refine yw_isMet D (hz r hr) (by omega) (lo_br (fun e3 => ?_) (fun e3 => ?_))
      · rw [e3, Bool.false_or] at h0 h1
        exact nm_r (nI_1 j) (ih (j + 1) (by omega) h0 h1)
      · rw [e3, Bool.true_or] at h1
        have g1 := h1 rfl
        have g74 : wY_ringsMet_74 post J (nI c) (nI r) 1 (nI m) (lo_a A) (lo_a n) R W S K C := by
          unfold wY_ringsMet_74
          exact br_f (by decide) (nm_r (nI_1 c) (nm_r (nI_1 r) g1))
        exact nm_r (nI_1 j) (br_c (fun _ => g74) (fun _ => br_f (by decide) g74))
theorem yw_cnt3 (D : lo_Dy n A S) {post : Int32 → SY → Prop} {m : Nat} {z : Nat → Nat} (hm : m ≤ 2401) (hK : ∀ j, j < m → K j = nI (z j)) (hz : ∀ j, j < m → z j < 2401)
    (h : post (nI (lo_c (fun j => lo_mt R (z j)) m)) (nI m, lo_a A, lo_a n, R, W, S, K, C)) :
    wY_ringsMet_12 post (nI m) (lo_a A) (lo_a n) R W S K C (m + 1) 0 0 := by
  refine lo_loopS (fun f i (s : Nat) => wY_ringsMet_12 post (nI m) (lo_a A) (lo_a n) R W S K C f (nI s) (nI i)) (lo_c (fun j => lo_mt R (z j))) m (fun f => ?_) (fun f i hi k => ?_)
  · exact br_t (nI_le (a := m) (b := m) (by omega) (by omega)) h
  · try dsimp only at k ⊢
    have k' : lo_c (fun j => lo_mt R (z j)) (i + 1) = if lo_mt R (z i) = true then lo_c (fun j => lo_mt R (z j)) i + 1 else lo_c (fun j => lo_mt R (z j)) i := rfl
    rw [k'] at k
    refine br_f (nI_ge (a := i) (b := m) (by omega) (by omega)) ?_
    refine ⟨2403, yw_25 D hm hK hz hi 2401 0 rfl (fun e => ?_) (fun e => ?_)⟩
    · have e' : lo_mt R (z i) = false := e
      rw [if_neg (by rw [e']; decide)] at k
      exact k
    · have e' : lo_mt R (z i) = true := e
      rw [if_pos e'] at k
      exact k
theorem yw_soon (D : lo_Dy n A S) {post : Int32 → SY → Prop} {m : Nat} {z : Nat → Nat} (hm : m ≤ 2401) (hK : ∀ j, j < m → K j = nI (z j)) (hz : ∀ j, j < m → z j < 2401)
    (h4 : lo_F (lo_sY (fun y => lo_my R z m y)) 99 2401 = 99 → post (-4) (nI m, lo_a A, lo_a n, R, W, S, K, C))
    (h5 : ¬ lo_F (lo_sY (fun y => lo_my R z m y)) 99 2401 = 99 → post (lo_F (lo_sY (fun y => lo_my R z m y)) 99 2401) (nI m, lo_a A, lo_a n, R, W, S, K, C)) :
    wY_soonest_13 post (nI m) (lo_a A) (lo_a n) R W S K C 2402 99 0 := by
  refine lo_loop (fun f i (s : Int32) => wY_soonest_13 post (nI m) (lo_a A) (lo_a n) R W S K C f s (nI i)) (lo_sY (fun y => lo_my R z m y)) 99 2401 (fun f => ?_) (fun f i hi k => ?_)
  · exact br_t (nI_le (a := 2401) (b := 2401) (by omega) (by decide)) (br_c h4 h5)
  · have k' : lo_F (lo_sY (fun y => lo_my R z m y)) 99 (i + 1) = (if (decide (R i ≠ 0) && lo_any (fun j => lo_mY (z j) i) m 0) = true then (if nI (lo_sm (lo_e i)) < lo_F (lo_sY (fun y => lo_my R z m y)) 99 i then nI (lo_sm (lo_e i)) else lo_F (lo_sY (fun y => lo_my R z m y)) 99 i) else lo_F (lo_sY (fun y => lo_my R z m y)) 99 i) := rfl
    try dsimp only at k ⊢
    rw [k'] at k
    generalize lo_F (lo_sY (fun y => lo_my R z m y)) 99 i = s at k ⊢
    refine br_f (nI_ge (a := i) (b := 2401) (by omega) (by decide)) ?_
    refine yw_done (t := 0) D hi (by decide) ?_
    refine yw_done (t := 1) D hi (by decide) ?_
    refine yw_done (t := 2) D hi (by decide) ?_
    refine yw_done (t := 3) D hi (by decide) ?_
    refine nm_r (e' := nI (lo_sm (lo_e i))) (by rw [nI_add, nI_add, nI_add]; rfl) ?_
    refine ⟨pk_in i 2401 hi, ?_⟩
    rw [nI_clamp (show i < 2 ^ 31 by omega)]
    refine br_c (fun e => ?_) (fun e => ?_)
    · rw [decide_eq_false (show ¬ (R i ≠ 0) from fun q => q e), Bool.false_and, if_neg (by decide)] at k
      exact nm_r (nI_1 i) k
    · rw [decide_eq_true (show R i ≠ 0 from e), Bool.true_and] at k
      refine br_c (fun e2 => ?_) (fun e2 => ?_)
      · rw [if_neg (Int32.not_lt.mpr e2)] at k
        have k2 : wY_soonest_13 post (nI m) (lo_a A) (lo_a n) R W S K C f s (nI (i + 1)) := by
          by_cases q : lo_any (fun j => lo_mY (z j) i) m 0 = true
          · rw [if_pos q] at k; exact k
          · rw [if_neg q] at k; exact k
        exact nm_r (nI_1 i) k2
      · rw [if_pos (Int32.not_le.mp e2)] at k
        refine yw_any D hm hK hz hi (lo_br (fun e3 => ?_) (fun e3 => ?_))
        · rw [if_neg (by rw [e3]; decide)] at k
          exact nm_r (nI_1 i) k
        · rw [if_pos e3] at k
          exact nm_r (nI_1 i) k
end
