/-! the component's walks: rings -/
section
variable {n L T H : Nat → Nat} {R W G M : Nat → Int32}
theorem xw_isRequest (D : lo_Dx n L T H) {post : Int32 → Prop} {t d : Nat} (ht : t < 4) (hd : d < 8) (h : post (lo_b (lo_rqX n T H t d))) :
    wpX_isRequest post (lo_a n, lo_a L, lo_a T, lo_a H, R, W, G, M) (nI t) (nI d) := by
  unfold wpX_isRequest
  unfold lo_rqX at h
  have hn := D.1 t ht
  have hT := D.2.2.1 (t * 8 + d)
  have hH := D.2.2.2 (t * 8 + d)
  refine xw_cell ?_
  refine ⟨pk_in t 4 ht, ?_⟩
  refine pk_le (n t) d (fun e => ?_) (fun e => ?_) (lo_at n (by omega)) rfl (by omega) (by omega)
  · rw [decide_eq_false (show ¬ d < n t by omega), Bool.false_and] at h
    exact h
  · rw [decide_eq_true e, Bool.true_and] at h
    refine ⟨pk_in (t * 8 + d) 32 (by omega), ?_⟩
    refine pk_eq (T (t * 8 + d)) 0 (fun e2 => ?_) (fun e2 => ?_) (lo_at T (by omega)) rfl (by omega) (by decide)
    · rw [decide_eq_false (show ¬ T (t * 8 + d) = 1 by omega), Bool.false_and] at h
      exact h
    · rw [decide_eq_true (show T (t * 8 + d) = 1 by omega), Bool.true_and] at h
      refine ⟨pk_in (t * 8 + d) 32 (by omega), ?_⟩
      refine pk_eq (H (t * 8 + d)) 0 (fun e3 => ?_) (fun e3 => ?_) (lo_at H (by omega)) rfl (by omega) (by decide)
      · rw [decide_eq_false (show ¬ (H (t * 8 + d) ≠ 0) from fun q => q e3)] at h
        exact h
      · rw [decide_eq_true (show H (t * 8 + d) ≠ 0 from e3)] at h
        exact h
/-- a thread, or nobody -/
def lo_nb (k : Nat) : Int32 := if k = 4 then -1 else nI k
theorem lo_nb4 : lo_nb 4 = -1 := rfl
theorem lo_nbn {k : Nat} (h : k ≠ 4) : lo_nb k = nI k := if_neg h
theorem lo_m1 {k : Nat} (h : k < 4) : ¬ nI k = -1 := by
  intro q
  have q2 := congrArg Int32.toInt q
  rw [nI_toInt (by omega), show (-1 : Int32).toInt = -1 from by decide] at q2
  omega
theorem xw_how_l (D : lo_Dx n L T H) {post : Int32 → Prop} {r c p : Nat} (hr : r < 4096) (hc : c < 32) (hp : L c = p) (P : Nat → Bool)
    (hP : ∀ u, u < 4 → P u = (decide (lo_d r u ≠ 7) && (H (u * 8 + lo_d r u)).testBit p)) : ∀ d j, j + d = 4 → post (lo_nb (lo_fst P d j)) →
    wX_holderOfWanted_16 post (nI r) (nI c) (lo_a n) (lo_a L) (lo_a T) (lo_a H) R W G M (d + 1) (nI j) := by
  intro d
  induction d with
  | zero => intro j hj h; exact br_t (nI_le (a := 4) (by omega) (by omega)) h
  | succ d ih =>
    intro j hj h
    have hd := lo_d_lt r j
    have hH := D.2.2.2 (j * 8 + lo_d r j)
    have hL := D.2.1 c
    have e2 : lo_fst P (d + 1) j = if P j = true then j else lo_fst P d (j + 1) := rfl
    rw [e2, hP j (by omega)] at h
    refine br_f (nI_ge (a := j) (b := 4) (by omega) (by decide)) ?_
    refine xw_doneBy hr (by omega) ?_
    refine xw_cell ?_
    refine pk_eq (lo_d r j) 7 (fun e => ?_) (fun e => ?_) rfl rfl (by omega) (by decide)
    · rw [decide_eq_false (show ¬ (lo_d r j ≠ 7) from fun q => q e), Bool.false_and, if_neg (by decide)] at h
      exact nm_r (nI_1 j) (ih (j + 1) (by omega) h)
    · rw [decide_eq_true (show lo_d r j ≠ 7 from e), Bool.true_and] at h
      refine ⟨pk_in (j * 8 + lo_d r j) 32 (by omega), pk_in c 32 hc, ?_⟩
      rw [lo_at L (show c < 2 ^ 31 by omega), hp]
      refine lo_brb (lo_at H (by omega)) hH (by omega) (fun e3 => ?_) (fun e3 => ?_)
      · rw [e3, if_neg (by decide)] at h
        exact nm_r (nI_1 j) (ih (j + 1) (by omega) h)
      · rw [e3, if_pos rfl, lo_nbn (by omega)] at h
        exact h
theorem xw_how (D : lo_Dx n L T H) {post : Int32 → Prop} {r t : Nat} (hr : r < 4096) (ht : t < 4) (h : post (lo_nb (lo_nX L H r t))) :
    wpX_holderOfWanted post (lo_a n, lo_a L, lo_a T, lo_a H, R, W, G, M) (nI r) (nI t) := by
  unfold wpX_holderOfWanted
  have hd := lo_d_lt r t
  refine xw_doneBy hr ht ?_
  refine xw_cell ?_
  exact ⟨5, xw_how_l D hr (by omega) rfl _ (fun u _ => rfl) 4 0 rfl h⟩
theorem lo_nX_or (L H : Nat → Nat) (r t : Nat) : lo_nX L H r t = 4 ∨ lo_nX L H r t < 4 := by
  rcases lo_fst_or (fun u => decide (lo_d r u ≠ 7) && (H (u * 8 + lo_d r u)).testBit (L (t * 8 + lo_d r t))) with h | h
  · exact Or.inl h
  · exact Or.inr h.1
theorem xw_around (D : lo_Dx n L T H) {post : Int32 → Prop} {r f size : Nat} (hr : r < 4096) (hf : f < 4) (hs : size ≤ 4) : ∀ d k t, d + k = size + 1 → t < 4 →
    post (lo_b (lo_rx (lo_nX L H r) f size d k t)) → wX_comesAround_6 post (nI r) (nI f) (nI size) (lo_a n) (lo_a L) (lo_a T) (lo_a H) R W G M (d + 1) (nI t) (nI k) := by
  intro d
  induction d with
  | zero => intro k t hk ht h; exact br_t (nI_lt (by omega) (by omega)) h
  | succ d ih =>
    intro k t hk ht h
    have e2 : lo_rx (lo_nX L H r) f size (d + 1) k t = if lo_nX L H r t = 4 then false else if lo_nX L H r t = f then decide (k = size) else lo_rx (lo_nX L H r) f size d (k + 1) (lo_nX L H r t) := rfl
    rw [e2] at h
    refine br_f (nI_nlt (by omega) (by omega)) ?_
    refine xw_how D hr ht ?_
    rcases lo_nX_or L H r t with e | e
    · rw [if_pos e] at h
      rw [e]
      exact br_t lo_nb4 h
    · have e4 : lo_nX L H r t ≠ 4 := by omega
      rw [if_neg e4] at h
      rw [lo_nbn e4]
      refine br_f (lo_m1 e) ?_
      refine pk_eq (lo_nX L H r t) f (fun e5 => ?_) (fun e5 => ?_) rfl rfl (by omega) (by omega)
      · rw [if_pos e5] at h
        refine pk_eq k size (fun e6 => ?_) (fun e6 => ?_) rfl rfl (by omega) (by omega)
        · rw [decide_eq_true e6] at h; exact h
        · rw [decide_eq_false e6] at h; exact h
      · rw [if_neg e5] at h
        exact nm_r (nI_1 k) (ih (k + 1) _ (by omega) e h)
theorem xw_forms_l (D : lo_Dx n L T H) {post : Int32 → Prop} {r : Nat} (hr : r < 4096) (h : post (lo_b (lo_rX n L T H r))) : ∀ d j v, j + d = 4 → lo_fX n T H r j = some v →
    wX_formsRing_10 post (nI r) (lo_a n) (lo_a L) (lo_a T) (lo_a H) R W G M (d + 1) (nI v.1) (nI v.2.1) (lo_nb v.2.2) (nI j) := by
  intro d
  induction d with
  | zero =>
    intro j v hj hv
    have ej : j = 4 := by omega
    subst ej
    obtain ⟨_, _, _, i4, i5, _⟩ := lo_r4_inv _ _ _ 4 v hv
    unfold lo_rX at h
    rw [hv] at h
    have h' : post (lo_b (decide (2 ≤ v.2.1) && lo_rx (lo_nX L H r) v.2.2 v.2.1 v.2.1 1 v.2.2)) := h
    refine br_t (nI_le (a := 4) (b := 4) (by omega) (by decide)) ?_
    refine pk_lt v.2.1 2 (fun e => ?_) (fun e => ?_) rfl rfl (by omega) (by decide)
    · rw [decide_eq_false (show ¬ 2 ≤ v.2.1 by omega), Bool.false_and] at h'
      exact h'
    · rw [decide_eq_true e, Bool.true_and] at h'
      obtain ⟨i6, _⟩ := i5 (by omega)
      rw [lo_nbn (show v.2.2 ≠ 4 by omega)]
      unfold wpX_comesAround
      refine ⟨v.2.1 + 1, xw_around D hr i6 i4 v.2.1 1 v.2.2 rfl i6 ?_⟩
      refine lo_br (fun e2 => ?_) (fun e2 => ?_)
      · rw [e2] at h'; exact h'
      · rw [e2] at h'; exact h'
  | succ d ih =>
    intro j v hj hv
    have hd := lo_d_lt r j
    have hH := D.2.2.2 (j * 8 + lo_d r j)
    have e1 : lo_fX n T H r (j + 1) = lo_r1 (lo_slX r) (fun t => lo_rqX n T H t (lo_d r t)) (fun t => H (t * 8 + lo_d r t)) j (lo_fX n T H r j) := rfl
    rw [hv] at e1
    have e2 : lo_fX n T H r (j + 1) = if lo_slX r j = true then (if lo_rqX n T H j (lo_d r j) = true then (if v.1 &&& H (j * 8 + lo_d r j) = 0 then some (v.1 ||| H (j * 8 + lo_d r j), v.2.1 + 1, j) else none) else none) else some v := e1
    have hno : lo_fX n T H r (j + 1) = none → post 0 := by
      intro q
      have q4 : lo_fX n T H r 4 = none := lo_r4_none _ _ _ q 4 (by omega)
      unfold lo_rX at h
      rw [q4] at h
      exact h
    refine br_f (nI_ge (a := j) (b := 4) (by omega) (by decide)) ?_
    refine xw_doneBy hr (by omega) ?_
    refine pk_eq (lo_d r j) 7 (fun e => ?_) (fun e => ?_) rfl rfl (by omega) (by decide)
    · have hs : ¬ lo_slX r j = true := by
        unfold lo_slX
        rw [decide_eq_true_eq]
        exact fun q => q e
      rw [if_neg hs] at e2
      exact nm_r (nI_1 j) (ih (j + 1) v (by omega) e2)
    · have hs : lo_slX r j = true := decide_eq_true e
      rw [if_pos hs] at e2
      refine xw_cell ?_
      refine xw_isRequest D (by omega) hd ?_
      refine lo_br (fun e3 => ?_) (fun e3 => ?_)
      · rw [if_neg (by rw [e3]; decide)] at e2
        exact hno e2
      · rw [if_pos e3] at e2
        refine ⟨pk_in (j * 8 + lo_d r j) 32 (by omega), ?_⟩
        rw [lo_at H (show j * 8 + lo_d r j < 2 ^ 31 by omega), lo_andI]
        have hle : v.1 &&& H (j * 8 + lo_d r j) ≤ H (j * 8 + lo_d r j) := Nat.and_le_right
        refine pk_eq (v.1 &&& H (j * 8 + lo_d r j)) 0 (fun e4 => ?_) (fun e4 => ?_) rfl rfl (by omega) (by decide)
        · rw [if_pos e4] at e2
          refine ⟨pk_in (j * 8 + lo_d r j) 32 (by omega), ?_⟩
          have k := ih (j + 1) _ (by omega) e2
          rw [lo_nbn (show j ≠ 4 by omega)] at k
          exact nm_r (lo_or2 _ _) (nm_r (nI_1 _) (nm_r (nI_1 j) k))
        · rw [if_neg e4] at e2
          exact hno e2
theorem xw_forms (D : lo_Dx n L T H) {post : Int32 → Prop} {r : Nat} (hr : r < 4096) (h : post (lo_b (lo_rX n L T H r))) :
    wpX_formsRing post (lo_a n, lo_a L, lo_a T, lo_a H, R, W, G, M) (nI r) := by
  unfold wpX_formsRing
  exact ⟨5, xw_forms_l D hr h 4 0 (0, 0, 4) rfl rfl⟩
def lo_gr (n L T H : Nat → Nat) (i : Nat) (g : Nat → Int32) : Nat → Int32 := upd g i (lo_b (lo_rX n L T H i))
theorem lo_gr_v (n L T H : Nat → Nat) (g : Nat → Int32) : ∀ N j, j < N → lo_F (lo_gr n L T H) g N j = lo_b (lo_rX n L T H j) := by
  intro N
  induction N with
  | zero => intro j hj; exact absurd hj (Nat.not_lt_zero j)
  | succ N ih =>
    intro j hj
    show upd (lo_F (lo_gr n L T H) g N) N (lo_b (lo_rX n L T H N)) j = _
    by_cases e : j = N
    · rw [e, pk_us]
    · rw [pk_un e]; exact ih j (by omega)
theorem xw_findRings (D : lo_Dx n L T H) {post : SX → Prop}
    (h : ∀ G', (∀ r, r < 4096 → G' r = lo_b (lo_rX n L T H r)) → post (lo_a n, lo_a L, lo_a T, lo_a H, R, W, G', M)) :
    wpX_findRings post (lo_a n, lo_a L, lo_a T, lo_a H, R, W, G, M) := by
  unfold wpX_findRings
  refine ⟨4097, lo_loop (fun f i (s : Nat → Int32) => wX_findRings_2 post f (nI i) (lo_a n) (lo_a L) (lo_a T) (lo_a H) R W s M)
    (lo_gr n L T H) G 4096 (fun f => ?_) (fun f i hi k => ?_)⟩
  · exact br_t (nI_le (a := 4096) (b := 4096) (by omega) (by decide)) (h _ (lo_gr_v n L T H G 4096))
  · have k' : lo_F (lo_gr n L T H) G (i + 1) = upd (lo_F (lo_gr n L T H) G i) i (lo_b (lo_rX n L T H i)) := rfl
    try dsimp only at k ⊢
    rw [k'] at k
    generalize lo_F (lo_gr n L T H) G i = s at k ⊢
    refine br_f (nI_ge (a := i) (b := 4096) (by omega) (by decide)) ?_
    refine xw_forms D hi ?_
    refine ⟨pk_in i 4096 hi, ?_⟩
    refine nm_r (e' := upd s i (lo_b (lo_rX n L T H i))) (by rw [nI_clamp (by omega), lo_vb]) ?_
    exact nm_r (nI_1 i) k
end
