/-! the reference's walks: rings -/
theorem lo_lst_or (P : Nat → Bool) : lo_lst P 4 = 4 ∨ (lo_lst P 4 < 4 ∧ P (lo_lst P 4) = true) := by
  rw [lo_lst_4]
  by_cases e0 : P 3 = true
  · rw [if_pos e0]; exact Or.inr ⟨by decide, e0⟩
  · rw [if_neg e0]
    by_cases e1 : P 2 = true
    · rw [if_pos e1]; exact Or.inr ⟨by decide, e1⟩
    · rw [if_neg e1]
      by_cases e2 : P 1 = true
      · rw [if_pos e2]; exact Or.inr ⟨by decide, e2⟩
      · rw [if_neg e2]
        by_cases e3 : P 0 = true
        · rw [if_pos e3]; exact Or.inr ⟨by decide, e3⟩
        · rw [if_neg e3]; exact Or.inl rfl
theorem lo_ok8 {x : Nat} (h : lo_ok x) (h8 : x < 8) : x < 5 := by rcases h with q | q <;> omega
theorem lo_ok13 {x : Nat} (h : lo_ok x) : x < 13 := by rcases h with q | q <;> omega
section
variable {n A : Nat → Nat} {mn : Int32} {R W S K C : Nat → Int32}
theorem yw_isRequest (D : lo_Dy n A S) {post : Int32 → Prop} {t d : Nat} (ht : t < 4) (hd : d < 8) (h : post (lo_b (lo_rqY n A t d))) :
    wpY_isRequest post (mn, lo_a A, lo_a n, R, W, S, K, C) (nI t) (nI d) := by
  unfold wpY_isRequest
  unfold lo_rqY at h
  have hn := D.1 t ht
  have hA := lo_ok13 (D.2.1 (6 * t + d))
  refine ⟨pk_in t 4 ht, ?_⟩
  refine pk_le (n t) d (fun e => ?_) (fun e => ?_) (lo_at n (by omega)) rfl (by omega) (by omega)
  · rw [decide_eq_false (show ¬ d < n t by omega), Bool.false_and] at h
    exact h
  · rw [decide_eq_true e, Bool.true_and] at h
    rw [lo_cell6]
    refine ⟨pk_in (6 * t + d) 24 (by omega), ?_⟩
    refine pk_le 8 (A (6 * t + d)) (fun e2 => ?_) (fun e2 => ?_) rfl (lo_at A (by omega)) (by decide) (by omega)
    · rw [decide_eq_false (show ¬ A (6 * t + d) < 8 by omega), Bool.false_and] at h
      exact h
    · rw [decide_eq_true e2, Bool.true_and] at h
      have hh := lo_h_lt D.2.1 t d
      refine yw_held D ht (by omega) ?_
      refine pk_eq (lo_h A t d) 0 (fun e3 => ?_) (fun e3 => ?_) rfl rfl (by omega) (by decide)
      · rw [decide_eq_false (show ¬ (lo_h A t d ≠ 0) from fun q => q e3)] at h
        exact h
      · rw [decide_eq_true (show lo_h A t d ≠ 0 from e3)] at h
        exact h
theorem lo_nb0 {k : Nat} (h : k < 4) : (0 : Int32) ≤ nI k := nI_pos' (by omega)
theorem yw_33 (D : lo_Dy n A S) {post : Int32 → Prop} {J : Int32 → Int32 → Prop} {e : Nat → Nat} {f k p : Nat} (hC : ∀ t, t < 4 → C t = nI (e t)) (he : ∀ t, t < 4 → e t < 7)
    (hf : f < 4) (hp : p < 5) (P : Nat → Bool) (hP : ∀ u, u < 4 → P u = (decide (e u < 6) && (lo_h A u (e u)).testBit p))
    (h4 : lo_lst P 4 = 4 → post 0) (h5 : lo_lst P 4 ≠ 4 → lo_lst P 4 = f → post (nI k)) (h6 : lo_lst P 4 ≠ 4 → lo_lst P 4 ≠ f → J (nI (lo_lst P 4)) (nI (k + 1))) :
    wY_round_33 post J (nI f) (nI k) (nI p) mn (lo_a A) (lo_a n) R W S K C 5 (-1) 0 := by
  refine lo_loopS (fun g i (s : Int32) => wY_round_33 post J (nI f) (nI k) (nI p) mn (lo_a A) (lo_a n) R W S K C g s (nI i)) (fun i => lo_nb (lo_lst P i)) 4 (fun g => ?_) (fun g i hi q => ?_)
  · refine br_t (nI_le (a := 4) (b := 4) (by omega) (by decide)) ?_
    rcases lo_lst_or P with o | ⟨o, _⟩
    · rw [o]
      exact br_f (by decide) (h4 o)
    · have o4 : lo_lst P 4 ≠ 4 := by omega
      rw [lo_nbn o4]
      refine br_t (lo_nb0 o) ?_
      refine pk_eq (lo_lst P 4) f (fun e5 => h5 o4 e5) (fun e5 => ?_) rfl rfl (by omega) (by omega)
      exact nm_r (nI_1 k) (h6 o4 e5)
  · try dsimp only at q ⊢
    have k' : lo_lst P (i + 1) = if P i = true then i else lo_lst P i := rfl
    rw [k', hP i hi] at q
    have hei := he i hi
    refine br_f (nI_ge (a := i) (b := 4) (by omega) (by decide)) ?_
    refine ⟨pk_in i 4 hi, ?_⟩
    rw [nI_clamp (show i < 2 ^ 31 by omega), hC i hi]
    refine pk_le 6 (e i) (fun e1 => ?_) (fun e1 => ?_) rfl rfl (by decide) (by omega)
    · rw [decide_eq_false (show ¬ e i < 6 by omega), Bool.false_and, if_neg (by decide)] at q
      exact nm_r (nI_1 i) q
    · rw [decide_eq_true (show e i < 6 by omega), Bool.true_and] at q
      refine ⟨pk_in i 4 hi, ?_⟩
      refine yw_held D hi (by omega) ?_
      refine lo_brY (lo_h_lt D.2.1 i _) hp (fun e3 => ?_) (fun e3 => ?_)
      · rw [e3, if_pos rfl, lo_nbn (show i ≠ 4 by omega)] at q
        exact nm_r (nI_1 i) q
      · rw [e3, if_neg (by decide)] at q
        exact nm_r (nI_1 i) q
theorem yw_round_l (D : lo_Dy n A S) {post : Int32 → Prop} {e : Nat → Nat} {f : Nat} (hC : ∀ t, t < 4 → C t = nI (e t)) (he : ∀ t, t < 4 → e t < 7) (hf : f < 4)
    (hq : ∀ t, t < 4 → e t < 6 → A (6 * t + e t) < 5) : ∀ d k t, d + k = 5 → t < 4 → e t < 6 → post (nI (lo_ry (lo_nY A e) f d k t)) →
    wY_round_4 post (nI f) mn (lo_a A) (lo_a n) R W S K C (d + 1) (nI t) (nI k) := by
  intro d
  induction d with
  | zero => intro k t hk ht ht6 h; exact br_t (nI_lt (a := 4) (by omega) (by omega)) h
  | succ d ih =>
    intro k t hk ht ht6 h
    have e2 : lo_ry (lo_nY A e) f (d + 1) k t = if lo_nY A e t = 4 then 0 else if lo_nY A e t = f then k else lo_ry (lo_nY A e) f d (k + 1) (lo_nY A e t) := rfl
    rw [e2] at h
    refine br_f (nI_nlt (a := 4) (by omega) (by omega)) ?_
    refine ⟨pk_in t 4 ht, ?_⟩
    rw [nI_clamp (show t < 2 ^ 31 by omega), hC t ht, lo_cell6]
    refine ⟨pk_in (6 * t + e t) 24 (by omega), ?_⟩
    refine nm_r (lo_at A (by omega)) ?_
    refine ⟨5, yw_33 D hC he hf (hq t ht ht6) (fun u => decide (e u < 6) && (lo_h A u (e u)).testBit (A (6 * t + e t))) (fun u _ => rfl) (fun o => ?_) (fun o o2 => ?_) (fun o o2 => ?_)⟩
    · have o' : lo_nY A e t = 4 := o
      rw [if_pos o'] at h
      exact h
    · have o' : ¬ lo_nY A e t = 4 := o
      have o2' : lo_nY A e t = f := o2
      rw [if_neg o', if_pos o2'] at h
      exact h
    · have o' : ¬ lo_nY A e t = 4 := o
      have o2' : ¬ lo_nY A e t = f := o2
      rw [if_neg o', if_neg o2'] at h
      rcases lo_lst_or (fun u => decide (e u < 6) && (lo_h A u (e u)).testBit (A (6 * t + e t))) with q | ⟨q, q2⟩
      · exact absurd q o
      · exact ih (k + 1) (lo_nY A e t) (by omega) q (of_decide_eq_true (Bool.and_eq_true_iff.mp q2).1) h
theorem yw_isRing_l (D : lo_Dy n A S) {post : Int32 → Prop} {e : Nat → Nat} (hC : ∀ t, t < 4 → C t = nI (e t)) (he : ∀ t, t < 4 → e t < 7) (h : post (lo_b (lo_rY n A e))) :
    ∀ d j v, j + d = 4 → lo_fY n A e j = some v →
    wY_isRing_9 post mn (lo_a A) (lo_a n) R W S K C (d + 1) (lo_nb v.2.2) (nI v.2.1) (nI v.1) (nI j) := by
  intro d
  induction d with
  | zero =>
    intro j v hj hv
    have ej : j = 4 := by omega
    subst ej
    obtain ⟨i1, _, _, i4, i5, _⟩ := lo_r4_inv _ _ _ 4 v hv
    unfold lo_rY at h
    rw [hv] at h
    have h' : post (lo_b (decide (2 ≤ v.2.1) && decide (lo_ry (lo_nY A e) v.2.2 4 1 v.2.2 = v.2.1))) := h
    refine br_t (nI_le (a := 4) (b := 4) (by omega) (by decide)) ?_
    refine pk_le v.2.1 1 (fun e1 => ?_) (fun e1 => ?_) rfl rfl (by omega) (by decide)
    · rw [decide_eq_false (show ¬ 2 ≤ v.2.1 by omega), Bool.false_and] at h'
      exact h'
    · rw [decide_eq_true (show 2 ≤ v.2.1 by omega), Bool.true_and] at h'
      obtain ⟨i6, i7⟩ := i5 (by omega)
      have hq : ∀ t, t < 4 → e t < 6 → A (6 * t + e t) < 5 := by
        intro t ht h6
        have hr : lo_rqY n A t (e t) = true := i1 t ht (decide_eq_true h6)
        unfold lo_rqY at hr
        exact lo_ok8 (D.2.1 _) (of_decide_eq_true (Bool.and_eq_true_iff.mp (Bool.and_eq_true_iff.mp hr).2).1)
      have hge := lo_ry_ge (lo_nY A e) v.2.2 4 1 v.2.2
      have hle : lo_ry (lo_nY A e) v.2.2 4 1 v.2.2 ≤ 5 := by
        have key : ∀ d k t, lo_ry (lo_nY A e) v.2.2 d k t ≤ k + d := by
          intro d
          induction d with
          | zero => intro k t; exact Nat.zero_le _
          | succ d ih =>
            intro k t
            show (if lo_nY A e t = 4 then 0 else if lo_nY A e t = v.2.2 then k else lo_ry (lo_nY A e) v.2.2 d (k + 1) (lo_nY A e t)) ≤ k + (d + 1)
            by_cases h1 : lo_nY A e t = 4
            · rw [if_pos h1]; omega
            · rw [if_neg h1]
              by_cases h2 : lo_nY A e t = v.2.2
              · rw [if_pos h2]; omega
              · rw [if_neg h2]
                have := ih (k + 1) (lo_nY A e t)
                omega
        exact key 4 1 v.2.2
      rw [lo_nbn (show v.2.2 ≠ 4 by omega)]
      unfold wpY_round
      refine ⟨5, yw_round_l D hC he i6 hq 4 1 v.2.2 rfl i6 (of_decide_eq_true i7) ?_⟩
      refine pk_eq (lo_ry (lo_nY A e) v.2.2 4 1 v.2.2) v.2.1 (fun e2 => ?_) (fun e2 => ?_) rfl rfl (by omega) (by omega)
      · rw [decide_eq_true e2] at h'; exact h'
      · rw [decide_eq_false e2] at h'; exact h'
  | succ d ih =>
    intro j v hj hv
    have hj4 : j < 4 := by omega
    have hej := he j hj4
    have hH := lo_h_lt D.2.1 j (e j)
    have e1 : lo_fY n A e (j + 1) = lo_r1 (lo_slY e) (fun t => lo_rqY n A t (e t)) (fun t => lo_h A t (e t)) j (lo_fY n A e j) := rfl
    rw [hv] at e1
    have e2 : lo_fY n A e (j + 1) = if lo_slY e j = true then (if lo_rqY n A j (e j) = true then (if v.1 &&& lo_h A j (e j) = 0 then some (v.1 ||| lo_h A j (e j), v.2.1 + 1, j) else none) else none) else some v := e1
    have hno : lo_fY n A e (j + 1) = none → post 0 := by
      intro q
      have q4 : lo_fY n A e 4 = none := lo_r4_none _ _ _ q 4 (by omega)
      unfold lo_rY at h
      rw [q4] at h
      exact h
    refine br_f (nI_ge (a := j) (b := 4) (by omega) (by decide)) ?_
    refine ⟨pk_in j 4 hj4, ?_⟩
    rw [nI_clamp (show j < 2 ^ 31 by omega), hC j hj4]
    refine pk_le 6 (e j) (fun e3 => ?_) (fun e3 => ?_) rfl rfl (by decide) (by omega)
    · have hs : ¬ lo_slY e j = true := by
        unfold lo_slY
        rw [decide_eq_true_eq]
        omega
      rw [if_neg hs] at e2
      exact nm_r (nI_1 j) (ih (j + 1) v (by omega) e2)
    · have hs : lo_slY e j = true := decide_eq_true (show e j < 6 by omega)
      rw [if_pos hs] at e2
      refine ⟨pk_in j 4 hj4, ?_⟩
      refine yw_isRequest D hj4 (by omega) ?_
      refine lo_br (fun e4 => ?_) (fun e4 => ?_)
      · rw [if_neg (by rw [e4]; decide)] at e2
        exact hno e2
      · rw [if_pos e4] at e2
        refine ⟨pk_in j 4 hj4, ?_⟩
        refine yw_held D hj4 (by omega) ?_
        rw [lo_andI]
        have hle : v.1 &&& lo_h A j (e j) ≤ lo_h A j (e j) := Nat.and_le_right
        refine pk_eq (v.1 &&& lo_h A j (e j)) 0 (fun e5 => ?_) (fun e5 => ?_) rfl rfl (by omega) (by decide)
        · rw [if_pos e5] at e2
          have k := ih (j + 1) _ (by omega) e2
          rw [lo_nbn (show j ≠ 4 by omega)] at k
          exact nm_r (lo_or2 _ _) (nm_r (nI_1 _) (nm_r (nI_1 j) k))
        · rw [if_neg e5] at e2
          exact hno e2
theorem yw_isRing (D : lo_Dy n A S) {post : Int32 → Prop} {e : Nat → Nat} (hC : ∀ t, t < 4 → C t = nI (e t)) (he : ∀ t, t < 4 → e t < 7) (h : post (lo_b (lo_rY n A e))) :
    wpY_isRing post (mn, lo_a A, lo_a n, R, W, S, K, C) := by
  unfold wpY_isRing
  exact ⟨5, yw_isRing_l D hC he h 4 0 (0, 0, 4) rfl rfl⟩
def lo_ch (y t : Nat) (c : Nat → Int32) : Nat → Int32 := upd c t (nI (lo_e y t))
theorem lo_ch_v (y : Nat) (c : Nat → Int32) : ∀ N t, t < N → lo_F (lo_ch y) c N t = nI (lo_e y t) := by
  intro N
  induction N with
  | zero => intro j hj; exact absurd hj (Nat.not_lt_zero j)
  | succ N ih =>
    intro j hj
    show upd (lo_F (lo_ch y) c N) N (nI (lo_e y N)) j = _
    by_cases e : j = N
    · rw [e, pk_us]
    · rw [pk_un e]; exact ih j (by omega)
theorem yw_16 (D : lo_Dy n A S) {post : SY → Prop} {J : Int32 → Int32 → (Nat → Int32) → (Nat → Int32) → (Nat → Int32) → (Nat → Int32) → (Nat → Int32) → (Nat → Int32) → (Nat → Int32) → Prop} {y m : Nat} (hy : y < 2401) (hm : m < 2401)
    (h0 : lo_rY n A (lo_e y) = false → ∀ C', J (nI (y + 1)) (nI m) (lo_a A) (lo_a n) R W S K C')
    (h1 : lo_rY n A (lo_e y) = true → ∀ C', J (nI (y + 1)) (nI (m + 1)) (lo_a A) (lo_a n) R W S (upd K m (nI y)) C') :
    wY_findRings_16 post J (nI y) (nI m) 5 0 (lo_a A) (lo_a n) R W S K C := by
  refine lo_loop (fun f i (c : Nat → Int32) => wY_findRings_16 post J (nI y) (nI m) f (nI i) (lo_a A) (lo_a n) R W S K c) (lo_ch y) C 4 (fun f => ?_) (fun f i hi k => ?_)
  · have hc := lo_ch_v y C 4
    try dsimp only
    generalize lo_F (lo_ch y) C 4 = c at hc ⊢
    refine br_t (nI_le (a := 4) (b := 4) (by omega) (by decide)) ?_
    refine yw_isRing D hc (fun t _ => lo_e_lt y t) ?_
    refine lo_br (fun e => ?_) (fun e => ?_)
    · exact nm_r (nI_1 y) (h0 e c)
    · refine ⟨pk_in m 2401 hm, ?_⟩
      refine nm_r (e' := upd K m (nI y)) (by rw [nI_clamp (by omega)]) ?_
      exact nm_r (nI_1 m) (nm_r (nI_1 y) (h1 e c))
  · have k' : lo_F (lo_ch y) C (i + 1) = upd (lo_F (lo_ch y) C i) i (nI (lo_e y i)) := rfl
    try dsimp only at k ⊢
    rw [k'] at k
    generalize lo_F (lo_ch y) C i = c at k ⊢
    refine br_f (nI_ge (a := i) (b := 4) (by omega) (by decide)) ?_
    refine yw_done D hy hi ?_
    refine ⟨pk_in i 4 hi, ?_⟩
    refine nm_r (e' := upd c i (nI (lo_e y i))) (by rw [nI_clamp (by omega)]) ?_
    exact nm_r (nI_1 i) k
/-- the reference's list stands for the rings below N -/
def lo_K (G : Nat → Bool) (N : Nat) (K : Nat → Int32) : Prop := ∀ j, j < (lo_ls G N).1 → K j = nI ((lo_ls G N).2 j)
theorem lo_K_t {G : Nat → Bool} {N : Nat} {K : Nat → Int32} (h : lo_K G N K) (g : G N = true) : lo_K G (N + 1) (upd K (lo_ls G N).1 (nI N)) := by
  intro j hj
  rw [lo_ls_t g] at hj ⊢
  have hj' : j < (lo_ls G N).1 + 1 := hj
  show upd K (lo_ls G N).1 (nI N) j = nI (lo_u (lo_ls G N).2 (lo_ls G N).1 N j)
  by_cases e : j = (lo_ls G N).1
  · rw [e, pk_us, lo_us]
  · rw [pk_un e, lo_un e]
    exact h j (by omega)
theorem yw_findRings (D : lo_Dy n A S) {post : SY → Prop}
    (h : ∀ K' C', lo_K (fun y => lo_rY n A (lo_e y)) 2401 K' → post (nI (lo_ls (fun y => lo_rY n A (lo_e y)) 2401).1, lo_a A, lo_a n, R, W, S, K', C')) :
    wpY_findRings post (mn, lo_a A, lo_a n, R, W, S, K, C) := by
  unfold wpY_findRings
  refine ⟨2402, loop_i (fun f i (s : Int32 × (Nat → Int32) × (Nat → Int32)) => wY_findRings_7 post f (nI i) s.1 (lo_a A) (lo_a n) R W S s.2.1 s.2.2)
    (fun i s => s.1 = nI (lo_ls (fun y => lo_rY n A (lo_e y)) i).1 ∧ lo_K (fun y => lo_rY n A (lo_e y)) i s.2.1) 2401 (fun f s hs => ?_) (fun f i s hi hs k => ?_) 2402 0 (0, K, C) (by omega) (by omega) ⟨rfl, fun j hj => absurd hj (Nat.not_lt_zero j)⟩⟩
  · have h1 := h s.2.1 s.2.2 hs.2
    rw [← hs.1] at h1
    exact br_t (nI_le (a := 2401) (b := 2401) (by omega) (by decide)) h1
  · obtain ⟨m, kk, cc⟩ := s
    obtain ⟨hm, hK⟩ := hs
    have hm' : m = nI (lo_ls (fun y => lo_rY n A (lo_e y)) i).1 := hm
    have hK' : lo_K (fun y => lo_rY n A (lo_e y)) i kk := hK
    subst hm'
    have hle : (lo_ls (fun y => lo_rY n A (lo_e y)) i).1 ≤ i := by
      rw [lo_ls_1]
      exact lo_c_le _ i
    try dsimp only
    refine br_f (nI_ge (a := i) (b := 2401) (by omega) (by decide)) ?_
    refine ⟨5, yw_16 D hi (by omega) (fun e C' => ?_) (fun e C' => ?_)⟩
    · have e' : ¬ (fun y => lo_rY n A (lo_e y)) i = true := by
        show ¬ lo_rY n A (lo_e i) = true
        rw [e]
        decide
      exact k (nI (lo_ls (fun y => lo_rY n A (lo_e y)) i).1, kk, C') ⟨by rw [lo_ls_f e'], by
        intro j hj
        rw [lo_ls_f e'] at hj ⊢
        exact hK' j hj⟩
    · have e' : (fun y => lo_rY n A (lo_e y)) i = true := e
      exact k (nI ((lo_ls (fun y => lo_rY n A (lo_e y)) i).1 + 1), upd kk (lo_ls (fun y => lo_rY n A (lo_e y)) i).1 (nI i), C') ⟨by rw [lo_ls_t e'], lo_K_t hK' e'⟩
end
