/-! the component's walks: questions on states -/
section
variable {n L T H : Nat → Nat} {R W G M : Nat → Int32}
/-- a sum over the threads -/
def lo_fs (n p : Nat → Nat) : Nat → Nat
  | 0 => 0
  | t + 1 => lo_fs n p t + n t * p t
theorem lo_fs_4 (n p : Nat → Nat) : lo_fs n p 4 = lo_fn n p := by
  show 0 + n 0 * p 0 + n 1 * p 1 + n 2 * p 2 + n 3 * p 3 = _
  rw [Nat.zero_add]
  rfl
theorem xw_fin {post : Int32 → Prop} (h : post (nI (lo_fn n lo_p))) :
    wpX_finishedState post (lo_a n, lo_a L, lo_a T, lo_a H, R, W, G, M) := by
  unfold wpX_finishedState
  refine ⟨5, lo_loopS (fun f i (s : Nat) => wX_finishedState_4 post (lo_a n) (lo_a L) (lo_a T) (lo_a H) R W G M f (nI s) (nI i)) (lo_fs n lo_p) 4 (fun f => ?_) (fun f i hi k => ?_)⟩
  · rw [← lo_fs_4] at h
    exact br_t (nI_le (a := 4) (b := 4) (by omega) (by decide)) h
  · try dsimp only at k ⊢
    refine br_f (nI_ge (a := i) (b := 4) (by omega) (by decide)) ?_
    refine ⟨pk_in i 4 hi, ?_⟩
    refine xw_oneBy hi ?_
    refine nm_r (e' := nI (lo_fs n lo_p (i + 1))) ?_ (nm_r (nI_1 i) k)
    rw [lo_at n (by omega), pk_mul, nI_add]
    rfl
theorem xw_stuck_l (D : lo_Dx n L T H) {post : Int32 → Prop} {x : Nat} (hx : x < 4096) : ∀ d j, j + d = 4 → post (lo_b (!lo_any (fun t => lo_gX n L T H x t) d j)) →
    wX_isStuck_21 post (nI x) (lo_a n) (lo_a L) (lo_a T) (lo_a H) R W G M (d + 1) (nI j) := by
  intro d
  induction d with
  | zero => intro j hj h; exact br_t (nI_le (a := 4) (by omega) (by omega)) h
  | succ d ih =>
    intro j hj h
    have e2 : lo_any (fun t => lo_gX n L T H x t) (d + 1) j = (lo_gX n L T H x j || lo_any (fun t => lo_gX n L T H x t) d (j + 1)) := rfl
    rw [e2] at h
    refine br_f (nI_ge (a := j) (b := 4) (by omega) (by decide)) ?_
    refine xw_mayGoOn D hx (by omega) (lo_br (fun e => ?_) (fun e => ?_))
    · rw [e, Bool.false_or] at h
      exact nm_r (nI_1 j) (ih (j + 1) (by omega) h)
    · rw [e, Bool.true_or] at h
      exact h
theorem xw_isStuck (D : lo_Dx n L T H) {post : Int32 → Prop} {x : Nat} (hx : x < 4096) (h : post (lo_b (lo_sk R (lo_gX n L T H) (lo_fn n lo_p) x))) :
    wpX_isStuck post (lo_a n, lo_a L, lo_a T, lo_a H, R, W, G, M) (nI x) := by
  unfold wpX_isStuck
  refine ⟨pk_in x 4096 hx, ?_⟩
  rw [nI_clamp (show x < 2 ^ 31 by omega)]
  unfold lo_sk at h
  refine br_c (fun e => ?_) (fun e => ?_)
  · rw [decide_eq_false (show ¬ (R x ≠ 0) from fun q => q e), Bool.false_and] at h
    exact h
  · rw [decide_eq_true (show R x ≠ 0 from e), Bool.true_and] at h
    have hf := (lo_fnX D.1).1
    refine xw_fin ?_
    refine pk_eq x (lo_fn n lo_p) (fun e2 => ?_) (fun e2 => ?_) rfl rfl (by omega) (by omega)
    · rw [decide_eq_false (show ¬ (x ≠ lo_fn n lo_p) from fun q => q e2), Bool.false_and] at h
      exact h
    · rw [decide_eq_true (show x ≠ lo_fn n lo_p from e2), Bool.true_and] at h
      exact ⟨5, xw_stuck_l D hx 4 0 rfl h⟩
theorem xw_cnt1 {post : Int32 → SX → Prop} (P : Nat → Bool) (hP : ∀ x, x < 4096 → P x = decide (R x ≠ 0)) (h : post (nI (lo_c P 4096)) (lo_a n, lo_a L, lo_a T, lo_a H, R, W, G, M)) :
    wX_states_8 post (lo_a n) (lo_a L) (lo_a T) (lo_a H) R W G M 4097 0 0 := by
  refine lo_loopS (fun f i (s : Nat) => wX_states_8 post (lo_a n) (lo_a L) (lo_a T) (lo_a H) R W G M f (nI s) (nI i)) (lo_c P) 4096 (fun f => ?_) (fun f i hi k => ?_)
  · exact br_t (nI_le (a := 4096) (b := 4096) (by omega) (by decide)) h
  · try dsimp only at k ⊢
    rw [lo_c_s, hP i hi] at k
    refine br_f (nI_ge (a := i) (b := 4096) (by omega) (by decide)) ?_
    refine ⟨pk_in i 4096 hi, ?_⟩
    rw [nI_clamp (show i < 2 ^ 31 by omega)]
    refine br_c (fun e => ?_) (fun e => ?_)
    · rw [decide_eq_false (show ¬ (R i ≠ 0) from fun q => q e), if_neg (by decide)] at k
      exact nm_r (nI_1 i) k
    · rw [decide_eq_true (show R i ≠ 0 from e), if_pos rfl] at k
      exact nm_r (nI_1 _) (nm_r (nI_1 i) k)
theorem xw_cnt2 {post : Int32 → SX → Prop} (P : Nat → Bool) (hP : ∀ x, x < 4096 → P x = decide (G x ≠ 0)) (h : post (nI (lo_c P 4096)) (lo_a n, lo_a L, lo_a T, lo_a H, R, W, G, M)) :
    wX_rings_8 post (lo_a n) (lo_a L) (lo_a T) (lo_a H) R W G M 4097 0 0 := by
  refine lo_loopS (fun f i (s : Nat) => wX_rings_8 post (lo_a n) (lo_a L) (lo_a T) (lo_a H) R W G M f (nI s) (nI i)) (lo_c P) 4096 (fun f => ?_) (fun f i hi k => ?_)
  · exact br_t (nI_le (a := 4096) (b := 4096) (by omega) (by decide)) h
  · try dsimp only at k ⊢
    rw [lo_c_s, hP i hi] at k
    refine br_f (nI_ge (a := i) (b := 4096) (by omega) (by decide)) ?_
    refine ⟨pk_in i 4096 hi, ?_⟩
    rw [nI_clamp (show i < 2 ^ 31 by omega)]
    refine br_c (fun e => ?_) (fun e => ?_)
    · rw [decide_eq_false (show ¬ (G i ≠ 0) from fun q => q e), if_neg (by decide)] at k
      exact nm_r (nI_1 i) k
    · rw [decide_eq_true (show G i ≠ 0 from e), if_pos rfl] at k
      exact nm_r (nI_1 _) (nm_r (nI_1 i) k)
theorem xw_cnt3 {post : Int32 → SX → Prop} (P : Nat → Bool) (hP : ∀ x, x < 4096 → P x = decide (M x ≠ 0)) (h : post (nI (lo_c P 4096)) (lo_a n, lo_a L, lo_a T, lo_a H, R, W, G, M)) :
    wX_ringsMet_16 post (lo_a n) (lo_a L) (lo_a T) (lo_a H) R W G M 4097 0 0 := by
  refine lo_loopS (fun f i (s : Nat) => wX_ringsMet_16 post (lo_a n) (lo_a L) (lo_a T) (lo_a H) R W G M f (nI s) (nI i)) (lo_c P) 4096 (fun f => ?_) (fun f i hi k => ?_)
  · exact br_t (nI_le (a := 4096) (b := 4096) (by omega) (by decide)) h
  · try dsimp only at k ⊢
    rw [lo_c_s, hP i hi] at k
    refine br_f (nI_ge (a := i) (b := 4096) (by omega) (by decide)) ?_
    refine ⟨pk_in i 4096 hi, ?_⟩
    rw [nI_clamp (show i < 2 ^ 31 by omega)]
    refine br_c (fun e => ?_) (fun e => ?_)
    · rw [decide_eq_false (show ¬ (M i ≠ 0) from fun q => q e), if_neg (by decide)] at k
      exact nm_r (nI_1 i) k
    · rw [decide_eq_true (show M i ≠ 0 from e), if_pos rfl] at k
      exact nm_r (nI_1 _) (nm_r (nI_1 i) k)
theorem xw_cnt4 (D : lo_Dx n L T H) {post : Int32 → SX → Prop} (h : post (nI (lo_c (fun x => lo_sk R (lo_gX n L T H) (lo_fn n lo_p) x) 4096)) (lo_a n, lo_a L, lo_a T, lo_a H, R, W, G, M)) :
    wX_stuck_8 post (lo_a n) (lo_a L) (lo_a T) (lo_a H) R W G M 4097 0 0 := by
  refine lo_loopS (fun f i (s : Nat) => wX_stuck_8 post (lo_a n) (lo_a L) (lo_a T) (lo_a H) R W G M f (nI s) (nI i)) (lo_c (fun x => lo_sk R (lo_gX n L T H) (lo_fn n lo_p) x)) 4096 (fun f => ?_) (fun f i hi k => ?_)
  · exact br_t (nI_le (a := 4096) (b := 4096) (by omega) (by decide)) h
  · try dsimp only at k ⊢
    rw [lo_c_s] at k
    refine br_f (nI_ge (a := i) (b := 4096) (by omega) (by decide)) ?_
    refine xw_isStuck D hi (lo_br (fun e => ?_) (fun e => ?_))
    · rw [if_neg (by rw [e]; decide)] at k
      exact nm_r (nI_1 i) k
    · rw [if_pos e] at k
      exact nm_r (nI_1 _) (nm_r (nI_1 i) k)
/-- an answer of stuckAt -/
def lo_an (o : Option Int32) : Int32 := match o with
  | some r => r
  | none => -4
theorem xw_at (D : lo_Dx n L T H) {post : Int32 → SX → Prop} (i : Int32) {t : Nat} (ht : t < 4)
    (h : post (lo_an (lo_fo (fun x => lo_sk R (lo_gX n L T H) (lo_fn n lo_p) x) (fun x => nI (lo_d x t)) i 4096)) (lo_a n, lo_a L, lo_a T, lo_a H, R, W, G, M)) :
    wX_stuckAt_18 post i (nI t) (lo_a n) (lo_a L) (lo_a T) (lo_a H) R W G M 4097 0 0 := by
  have key : ∀ d j, j + d = 4096 → lo_fo (fun x => lo_sk R (lo_gX n L T H) (lo_fn n lo_p) x) (fun x => nI (lo_d x t)) i j = none →
      wX_stuckAt_18 post i (nI t) (lo_a n) (lo_a L) (lo_a T) (lo_a H) R W G M (d + 1) (nI (lo_c (fun x => lo_sk R (lo_gX n L T H) (lo_fn n lo_p) x) j)) (nI j) := by
    intro d
    induction d with
    | zero =>
      intro j hj hn
      have ej : j = 4096 := by omega
      subst ej
      rw [hn] at h
      exact br_t (nI_le (a := 4096) (b := 4096) (by omega) (by decide)) h
    | succ d ih =>
      intro j hj hn
      have e1 : lo_fo (fun x => lo_sk R (lo_gX n L T H) (lo_fn n lo_p) x) (fun x => nI (lo_d x t)) i (j + 1) = lo_ff (fun x => lo_sk R (lo_gX n L T H) (lo_fn n lo_p) x) (fun x => nI (lo_d x t)) i j (lo_fo (fun x => lo_sk R (lo_gX n L T H) (lo_fn n lo_p) x) (fun x => nI (lo_d x t)) i j) := rfl
      rw [hn] at e1
      have e2 : lo_fo (fun x => lo_sk R (lo_gX n L T H) (lo_fn n lo_p) x) (fun x => nI (lo_d x t)) i (j + 1) = if lo_sk R (lo_gX n L T H) (lo_fn n lo_p) j = true then (if nI (lo_c (fun x => lo_sk R (lo_gX n L T H) (lo_fn n lo_p) x) j) = i then some (nI (lo_d j t)) else none) else none := e1
      have hs : lo_c (fun x => lo_sk R (lo_gX n L T H) (lo_fn n lo_p) x) (j + 1) = if lo_sk R (lo_gX n L T H) (lo_fn n lo_p) j = true then lo_c (fun x => lo_sk R (lo_gX n L T H) (lo_fn n lo_p) x) j + 1 else lo_c (fun x => lo_sk R (lo_gX n L T H) (lo_fn n lo_p) x) j := rfl
      have ih2 := ih (j + 1) (by omega)
      refine br_f (nI_ge (a := j) (b := 4096) (by omega) (by decide)) ?_
      refine xw_isStuck D (by omega) (lo_br (fun e => ?_) (fun e => ?_))
      · have e' : ¬ lo_sk R (lo_gX n L T H) (lo_fn n lo_p) j = true := by rw [e]; decide
        rw [if_neg e'] at e2 hs
        rw [hs] at ih2
        exact nm_r (nI_1 j) (ih2 e2)
      · rw [if_pos e] at e2 hs
        rw [hs] at ih2
        refine br_c (fun e3 => ?_) (fun e3 => ?_)
        · rw [if_pos e3] at e2
          rw [lo_fo_some _ _ _ e2 4096 (by omega)] at h
          exact xw_doneBy (by omega) ht h
        · rw [if_neg e3] at e2
          exact nm_r (nI_1 _) (nm_r (nI_1 j) (ih2 e2))
  exact key 4096 0 rfl rfl
/-- a number of a range, or not -/
theorem xw_isThread {post : Int32 → Prop} (t : Int32) (h0 : t < 0 ∨ nI 4 ≤ t → post 0) (h1 : ∀ j, j < 4 → t = nI j → post 1) : wpX_isThread post t := by
  unfold wpX_isThread
  refine br_c (fun e => h0 (Or.inl e)) (fun e => ?_)
  obtain ⟨j, hj, rfl⟩ := nI_of e
  refine pk_le 4 j (fun e2 => h0 (Or.inr (nI_le e2 hj))) (fun e2 => h1 j e2 rfl) rfl rfl (by decide) hj
theorem xw_isLock {post : Int32 → Prop} (t : Int32) (h0 : t < 0 ∨ nI 5 ≤ t → post 0) (h1 : ∀ j, j < 5 → t = nI j → post 1) : wpX_isLock post t := by
  unfold wpX_isLock
  refine br_c (fun e => h0 (Or.inl e)) (fun e => ?_)
  obtain ⟨j, hj, rfl⟩ := nI_of e
  refine pk_le 5 j (fun e2 => h0 (Or.inr (nI_le e2 hj))) (fun e2 => h1 j e2 rfl) rfl rfl (by decide) hj
theorem xw_isCount {post : Int32 → Prop} (t : Int32) (h0 : t < 0 ∨ nI 7 ≤ t → post 0) (h1 : ∀ j, j < 7 → t = nI j → post 1) : wpX_isCount post t := by
  unfold wpX_isCount
  refine br_c (fun e => h0 (Or.inl e)) (fun e => ?_)
  obtain ⟨j, hj, rfl⟩ := nI_of e
  refine pk_lt 6 j (fun e2 => h0 (Or.inr (nI_le (by omega) hj))) (fun e2 => h1 j (by omega) rfl) rfl rfl (by decide) hj
end
