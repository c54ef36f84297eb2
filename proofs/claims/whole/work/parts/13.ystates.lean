/-! the reference's walks: questions on states -/
section
variable {n A : Nat → Nat} {mn : Int32} {R W S K C : Nat → Int32}
theorem yw_last (D : lo_Dy n A S) {post : Int32 → Prop} (h : post (nI (lo_fn n lo_q))) :
    wpY_last post (mn, lo_a A, lo_a n, R, W, S, K, C) := by
  unfold wpY_last
  refine ⟨5, lo_loopS (fun f i (s : Nat) => wY_last_4 post mn (lo_a A) (lo_a n) R W S K C f (nI s) (nI i)) (lo_fs n lo_q) 4 (fun f => ?_) (fun f i hi k => ?_)⟩
  · rw [← lo_fs_4] at h
    exact br_t (nI_le (a := 4) (b := 4) (by omega) (by decide)) h
  · try dsimp only at k ⊢
    refine br_f (nI_ge (a := i) (b := 4) (by omega) (by decide)) ?_
    refine ⟨pk_in i 4 hi, pk_in i 4 hi, ?_⟩
    refine nm_r (e' := nI (lo_fs n lo_q (i + 1))) ?_ (nm_r (nI_1 i) k)
    rw [lo_at n (by omega), nI_clamp (show i < 2 ^ 31 by omega), D.2.2 i hi, pk_mul, nI_add, Nat.mul_comm]
    rfl
theorem yw_stuck_l (D : lo_Dy n A S) {post : Int32 → Prop} {y : Nat} (hy : y < 2401) (hd : ∀ t, t < 4 → lo_e y t ≤ n t) : ∀ d j, j + d = 4 → post (lo_b (!lo_any (fun t => lo_gY n A y t) d j)) →
    wY_isStuck_18 post (nI y) mn (lo_a A) (lo_a n) R W S K C (d + 1) (nI j) := by
  intro d
  induction d with
  | zero => intro j hj h; exact br_t (nI_le (a := 4) (by omega) (by omega)) h
  | succ d ih =>
    intro j hj h
    have e2 : lo_any (fun t => lo_gY n A y t) (d + 1) j = (lo_gY n A y j || lo_any (fun t => lo_gY n A y t) d (j + 1)) := rfl
    rw [e2] at h
    refine br_f (nI_ge (a := j) (b := 4) (by omega) (by decide)) ?_
    refine yw_mayGoOn D hy (by omega) (hd j (by omega)) (lo_br (fun e => ?_) (fun e => ?_))
    · rw [e, Bool.false_or] at h
      exact nm_r (nI_1 j) (ih (j + 1) (by omega) h)
    · rw [e, Bool.true_or] at h
      exact h
theorem yw_isStuck (D : lo_Dy n A S) (hi : lo_iY n R) {post : Int32 → Prop} {y f : Nat} (hy : y < 2401) (hf : f < 2401) (h : post (lo_b (lo_sk R (lo_gY n A) f y))) :
    wpY_isStuck post (mn, lo_a A, lo_a n, R, W, S, K, C) (nI y) (nI f) := by
  unfold wpY_isStuck
  refine ⟨pk_in y 2401 hy, ?_⟩
  rw [nI_clamp (show y < 2 ^ 31 by omega)]
  unfold lo_sk at h
  refine br_c (fun e => ?_) (fun e => ?_)
  · rw [decide_eq_false (show ¬ (R y ≠ 0) from fun q => q e), Bool.false_and] at h
    exact h
  · rw [decide_eq_true (show R y ≠ 0 from e), Bool.true_and] at h
    refine pk_eq y f (fun e2 => ?_) (fun e2 => ?_) rfl rfl (by omega) (by omega)
    · rw [decide_eq_false (show ¬ (y ≠ f) from fun q => q e2), Bool.false_and] at h
      exact h
    · rw [decide_eq_true (show y ≠ f from e2), Bool.true_and] at h
      exact ⟨5, yw_stuck_l D hy (hi y hy e) 4 0 rfl h⟩
theorem yw_cnt1 {post : Int32 → SY → Prop} (P : Nat → Bool) (hP : ∀ x, x < 2401 → P x = decide (R x ≠ 0)) (h : post (nI (lo_c P 2401)) (mn, lo_a A, lo_a n, R, W, S, K, C)) :
    wY_states_8 post mn (lo_a A) (lo_a n) R W S K C 2402 0 0 := by
  refine lo_loopS (fun f i (s : Nat) => wY_states_8 post mn (lo_a A) (lo_a n) R W S K C f (nI s) (nI i)) (lo_c P) 2401 (fun f => ?_) (fun f i hi k => ?_)
  · exact br_t (nI_le (a := 2401) (b := 2401) (by omega) (by decide)) h
  · try dsimp only at k ⊢
    rw [lo_c_s, hP i hi] at k
    refine br_f (nI_ge (a := i) (b := 2401) (by omega) (by decide)) ?_
    refine ⟨pk_in i 2401 hi, ?_⟩
    rw [nI_clamp (show i < 2 ^ 31 by omega)]
    refine br_c (fun e => ?_) (fun e => ?_)
    · rw [decide_eq_false (show ¬ (R i ≠ 0) from fun q => q e), if_neg (by decide)] at k
      exact nm_r (nI_1 i) k
    · rw [decide_eq_true (show R i ≠ 0 from e), if_pos rfl] at k
      exact nm_r (nI_1 _) (nm_r (nI_1 i) k)
theorem yw_cnt4 (D : lo_Dy n A S) (hr : lo_iY n R) {post : Int32 → SY → Prop} {g : Nat} (hg : g < 2401) (h : post (nI (lo_c (fun x => lo_sk R (lo_gY n A) g x) 2401)) (mn, lo_a A, lo_a n, R, W, S, K, C)) :
    wY_stuck_13 post (nI g) mn (lo_a A) (lo_a n) R W S K C 2402 0 0 := by
  refine lo_loopS (fun f i (s : Nat) => wY_stuck_13 post (nI g) mn (lo_a A) (lo_a n) R W S K C f (nI s) (nI i)) (lo_c (fun x => lo_sk R (lo_gY n A) g x)) 2401 (fun f => ?_) (fun f i hi k => ?_)
  · exact br_t (nI_le (a := 2401) (b := 2401) (by omega) (by decide)) h
  · try dsimp only at k ⊢
    rw [lo_c_s] at k
    refine br_f (nI_ge (a := i) (b := 2401) (by omega) (by decide)) ?_
    refine yw_isStuck D hr hi hg (lo_br (fun e => ?_) (fun e => ?_))
    · rw [if_neg (by rw [e]; decide)] at k
      exact nm_r (nI_1 i) k
    · rw [if_pos e] at k
      exact nm_r (nI_1 _) (nm_r (nI_1 i) k)
theorem yw_at (D : lo_Dy n A S) (hr : lo_iY n R) {post : Int32 → SY → Prop} (i : Int32) {t g : Nat} (ht : t < 4) (hg : g < 2401)
    (h : post (lo_an (lo_fo (fun x => lo_sk R (lo_gY n A) g x) (fun x => nI (lo_e x t)) i 2401)) (mn, lo_a A, lo_a n, R, W, S, K, C)) :
    wY_stuckAt_26 post i (nI t) (nI g) mn (lo_a A) (lo_a n) R W S K C 2402 0 0 := by
  have key : ∀ d j, j + d = 2401 → lo_fo (fun x => lo_sk R (lo_gY n A) g x) (fun x => nI (lo_e x t)) i j = none →
      wY_stuckAt_26 post i (nI t) (nI g) mn (lo_a A) (lo_a n) R W S K C (d + 1) (nI (lo_c (fun x => lo_sk R (lo_gY n A) g x) j)) (nI j) := by
    intro d
    induction d with
    | zero =>
      intro j hj hn
      have ej : j = 2401 := by omega
      subst ej
      rw [hn] at h
      exact br_t (nI_le (a := 2401) (b := 2401) (by omega) (by decide)) h
    | succ d ih =>
      intro j hj hn
      have e1 : lo_fo (fun x => lo_sk R (lo_gY n A) g x) (fun x => nI (lo_e x t)) i (j + 1) = lo_ff (fun x => lo_sk R (lo_gY n A) g x) (fun x => nI (lo_e x t)) i j (lo_fo (fun x => lo_sk R (lo_gY n A) g x) (fun x => nI (lo_e x t)) i j) := rfl
      rw [hn] at e1
      have e2 : lo_fo (fun x => lo_sk R (lo_gY n A) g x) (fun x => nI (lo_e x t)) i (j + 1) = if lo_sk R (lo_gY n A) g j = true then (if nI (lo_c (fun x => lo_sk R (lo_gY n A) g x) j) = i then some (nI (lo_e j t)) else none) else none := e1
      have hs : lo_c (fun x => lo_sk R (lo_gY n A) g x) (j + 1) = if lo_sk R (lo_gY n A) g j = true then lo_c (fun x => lo_sk R (lo_gY n A) g x) j + 1 else lo_c (fun x => lo_sk R (lo_gY n A) g x) j := rfl
      have ih2 := ih (j + 1) (by omega)
      refine br_f (nI_ge (a := j) (b := 2401) (by omega) (by decide)) ?_
      refine yw_isStuck D hr (by omega) hg (lo_br (fun e => ?_) (fun e => ?_))
      · have e' : ¬ lo_sk R (lo_gY n A) g j = true := by rw [e]; decide
        rw [if_neg e'] at e2 hs
        rw [hs] at ih2
        exact nm_r (nI_1 j) (ih2 e2)
      · rw [if_pos e] at e2 hs
        rw [hs] at ih2
        refine br_c (fun e3 => ?_) (fun e3 => ?_)
        · rw [if_pos e3] at e2
          rw [lo_fo_some _ _ _ e2 2401 (by omega)] at h
          exact yw_done D (by omega) ht h
        · rw [if_neg e3] at e2
          exact nm_r (nI_1 _) (nm_r (nI_1 j) (ih2 e2))
  exact key 2401 0 rfl rfl
end
