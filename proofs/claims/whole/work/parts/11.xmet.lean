/-! the component's walks: rings that are met -/
section
variable {n L T H : Nat → Nat} {R W G M : Nat → Int32}
def lo_nd (s k t : Nat) : Nat := if k.testBit t = true then lo_d s t else 7
theorem lo_nd_na (s k : Nat) : lo_fs (lo_nd s k) lo_p 4 = lo_na s k := by
  rw [lo_fs_4]
  show lo_nd s k 0 * 512 + lo_nd s k 1 * 64 + lo_nd s k 2 * 8 + lo_nd s k 3 * 1 = _
  rw [Nat.mul_one]
  rfl
theorem xw_next {post : Int32 → Prop} {s k : Nat} (hs : s < 4096) (hk : k < 16) (h : post (nI (lo_na s k))) : wpX_nextActions post (nI s) (nI k) := by
  unfold wpX_nextActions
  refine ⟨5, lo_loopS (fun f i (z : Nat) => wX_nextActions_4 post (nI s) (nI k) f (nI z) (nI i)) (lo_fs (lo_nd s k) lo_p) 4 (fun f => ?_) (fun f i hi q => ?_)⟩
  · rw [← lo_nd_na] at h
    exact br_t (nI_le (a := 4) (b := 4) (by omega) (by decide)) h
  · try dsimp only at q ⊢
    have hb := lo_bit16 k hk i hi
    refine br_f (nI_ge (a := i) (b := 4) (by omega) (by decide)) ?_
    refine br_c (fun e => ?_) (fun e => ?_)
    · have en : lo_nd s k i = 7 := if_neg (by rw [hb.mp e]; decide)
      unfold wX_nextActions_27
      refine xw_oneBy hi ?_
      refine nm_r (e' := nI (lo_fs (lo_nd s k) lo_p (i + 1))) ?_ (nm_r (nI_1 i) q)
      show nI (lo_fs (lo_nd s k) lo_p i) + nI 7 * nI (lo_p i) = nI (lo_fs (lo_nd s k) lo_p i + lo_nd s k i * lo_p i)
      rw [en, pk_mul, nI_add]
    · have et : k.testBit i = true := by
        cases q2 : k.testBit i with
        | true => rfl
        | false => exact absurd (hb.mpr q2) e
      have en : lo_nd s k i = lo_d s i := if_pos et
      refine xw_doneBy hs hi ?_
      unfold wX_nextActions_27
      refine xw_oneBy hi ?_
      refine nm_r (e' := nI (lo_fs (lo_nd s k) lo_p (i + 1))) ?_ (nm_r (nI_1 i) q)
      show nI (lo_fs (lo_nd s k) lo_p i) + nI (lo_d s i) * nI (lo_p i) = nI (lo_fs (lo_nd s k) lo_p i + lo_nd s k i * lo_p i)
      rw [en, pk_mul, nI_add]
def lo_mm (G : Nat → Int32) (s k : Nat) (m : Nat → Int32) : Nat → Int32 := if G (lo_na s k) = 0 then m else upd m (lo_na s k) 1
theorem lo_mm_iff (G : Nat → Int32) (s : Nat) (m : Nat → Int32) (r : Nat) : ∀ K, lo_F (lo_mm G s) m K r ≠ 0 ↔ (m r ≠ 0 ∨ (G r ≠ 0 ∧ ∃ k, k < K ∧ r = lo_na s k)) := by
  intro K
  induction K with
  | zero =>
    constructor
    · intro h; exact Or.inl h
    · rintro (h | ⟨_, k, hk, _⟩)
      · exact h
      · exact absurd hk (Nat.not_lt_zero k)
  | succ K ih =>
    show lo_mm G s K (lo_F (lo_mm G s) m K) r ≠ 0 ↔ _
    unfold lo_mm
    by_cases e : G (lo_na s K) = 0
    · rw [if_pos e]
      refine Iff.trans ih ?_
      constructor
      · rintro (h | ⟨h, k, hk, hr⟩)
        · exact Or.inl h
        · exact Or.inr ⟨h, k, by omega, hr⟩
      · rintro (h | ⟨h, k, hk, hr⟩)
        · exact Or.inl h
        · by_cases ek : k = K
          · subst ek; rw [hr] at h; exact absurd e h
          · exact Or.inr ⟨h, k, by omega, hr⟩
    · rw [if_neg e]
      by_cases er : r = lo_na s K
      · rw [er, pk_us]
        constructor
        · intro _; exact Or.inr ⟨e, K, by omega, rfl⟩
        · intro _; decide
      · rw [pk_un er]
        refine Iff.trans ih ?_
        constructor
        · rintro (h | ⟨h, k, hk, hr⟩)
          · exact Or.inl h
          · exact Or.inr ⟨h, k, by omega, hr⟩
        · rintro (h | ⟨h, k, hk, hr⟩)
          · exact Or.inl h
          · by_cases ek : k = K
            · subst ek; exact absurd hr er
            · exact Or.inr ⟨h, k, by omega, hr⟩
def lo_mf (R G : Nat → Int32) (s : Nat) (m : Nat → Int32) : Nat → Int32 := if R s = 0 then m else lo_F (lo_mm G s) m 16
theorem lo_mf_iff (R G m : Nat → Int32) (r : Nat) : ∀ N, lo_F (lo_mf R G) m N r ≠ 0 ↔ (m r ≠ 0 ∨ (G r ≠ 0 ∧ ∃ s, s < N ∧ R s ≠ 0 ∧ ∃ k, k < 16 ∧ r = lo_na s k)) := by
  intro N
  induction N with
  | zero =>
    constructor
    · intro h; exact Or.inl h
    · rintro (h | ⟨_, k, hk, _⟩)
      · exact h
      · exact absurd hk (Nat.not_lt_zero k)
  | succ N ih =>
    show lo_mf R G N (lo_F (lo_mf R G) m N) r ≠ 0 ↔ _
    unfold lo_mf
    by_cases e : R N = 0
    · rw [if_pos e]
      refine Iff.trans ih ?_
      constructor
      · rintro (h | ⟨h, s, hs, hr⟩)
        · exact Or.inl h
        · exact Or.inr ⟨h, s, by omega, hr⟩
      · rintro (h | ⟨h, s, hs, hr⟩)
        · exact Or.inl h
        · by_cases ek : s = N
          · subst ek; exact absurd e hr.1
          · exact Or.inr ⟨h, s, by omega, hr⟩
    · rw [if_neg e]
      refine Iff.trans (lo_mm_iff G N _ r 16) ?_
      constructor
      · rintro (h | ⟨h, k, hk, hr⟩)
        · rcases ih.mp h with h | ⟨h, s, hs, hr⟩
          · exact Or.inl h
          · exact Or.inr ⟨h, s, by omega, hr⟩
        · exact Or.inr ⟨h, N, by omega, e, k, hk, hr⟩
      · rintro (h | ⟨h, s, hs, hR, k, hk, hr⟩)
        · exact Or.inl (ih.mpr (Or.inl h))
        · by_cases ek : s = N
          · subst ek; exact Or.inr ⟨h, k, hk, hr⟩
          · exact Or.inl (ih.mpr (Or.inr ⟨h, s, by omega, hR, k, hk, hr⟩))
theorem xw_mark {post : SX → Prop} {s : Nat} (hs : s < 4096) (h : post (lo_a n, lo_a L, lo_a T, lo_a H, R, W, G, lo_F (lo_mm G s) M 16)) :
    wpX_markMetIn post (lo_a n, lo_a L, lo_a T, lo_a H, R, W, G, M) (nI s) := by
  unfold wpX_markMetIn
  refine ⟨17, lo_loop (fun f i (m : Nat → Int32) => wX_markMetIn_2 post (nI s) f (nI i) (lo_a n) (lo_a L) (lo_a T) (lo_a H) R W G m)
    (lo_mm G s) M 16 (fun f => ?_) (fun f i hi k => ?_)⟩
  · exact br_t (nI_le (a := 16) (b := 16) (by omega) (by decide)) h
  · have k' : lo_F (lo_mm G s) M (i + 1) = lo_mm G s i (lo_F (lo_mm G s) M i) := rfl
    try dsimp only at k ⊢
    rw [k'] at k
    generalize lo_F (lo_mm G s) M i = m at k ⊢
    unfold lo_mm at k
    have hna := (lo_na_d s i).1
    refine br_f (nI_ge (a := i) (b := 16) (by omega) (by decide)) ?_
    refine xw_next hs hi ?_
    refine ⟨pk_in (lo_na s i) 4096 hna, ?_⟩
    rw [nI_clamp (show lo_na s i < 2 ^ 31 by omega)]
    refine br_c (fun e => ?_) (fun e => ?_)
    · rw [if_pos e] at k
      exact nm_r (nI_1 i) k
    · rw [if_neg e] at k
      refine ⟨pk_in (lo_na s i) 4096 hna, ?_⟩
      refine nm_r (e' := upd m (lo_na s i) 1) (by rw [lo_v1]) ?_
      exact nm_r (nI_1 i) k
def lo_c1 (i : Nat) (m : Nat → Int32) : Nat → Int32 := upd m i 0
theorem lo_c1_0 (z : Nat → Int32) : ∀ N j, j < N → lo_F lo_c1 z N j = 0 := by
  intro N
  induction N with
  | zero => intro j hj; exact absurd hj (Nat.not_lt_zero j)
  | succ N ih =>
    intro j hj
    show upd (lo_F lo_c1 z N) N 0 j = 0
    by_cases e : j = N
    · rw [e, pk_us]
    · rw [pk_un e]; exact ih j (by omega)
theorem xw_findMet {post : SX → Prop}
    (h : ∀ M', (∀ r, r < 4096 → (M' r ≠ 0 ↔ (G r ≠ 0 ∧ ∃ s, s < 4096 ∧ R s ≠ 0 ∧ ∃ k, k < 16 ∧ r = lo_na s k))) → post (lo_a n, lo_a L, lo_a T, lo_a H, R, W, G, M')) :
    wpX_findMet post (lo_a n, lo_a L, lo_a T, lo_a H, R, W, G, M) := by
  unfold wpX_findMet
  refine ⟨4097, lo_loop (fun f i (m : Nat → Int32) => wX_findMet_2 post f (nI i) (lo_a n) (lo_a L) (lo_a T) (lo_a H) R W G m)
    lo_c1 M 4096 (fun f => ?_) (fun f i hi k => ?_)⟩
  · have h0 := lo_c1_0 M 4096
    try dsimp only
    generalize lo_F lo_c1 M 4096 = z at h0 ⊢
    refine br_t (nI_le (a := 4096) (b := 4096) (by omega) (by decide)) ?_
    refine ⟨4097, lo_loop (fun f i (m : Nat → Int32) => wX_findMet_24 post f (nI i) (lo_a n) (lo_a L) (lo_a T) (lo_a H) R W G m)
      (lo_mf R G) z 4096 (fun f => ?_) (fun f i hi k => ?_)⟩
    · refine br_t (nI_le (a := 4096) (b := 4096) (by omega) (by decide)) (h _ (fun r hr => ?_))
      refine Iff.trans (lo_mf_iff R G z r 4096) ?_
      constructor
      · rintro (q | q)
        · exact absurd (h0 r hr) q
        · exact q
      · intro q; exact Or.inr q
    · have k' : lo_F (lo_mf R G) z (i + 1) = lo_mf R G i (lo_F (lo_mf R G) z i) := rfl
      try dsimp only at k ⊢
      rw [k'] at k
      generalize lo_F (lo_mf R G) z i = m at k ⊢
      unfold lo_mf at k
      refine br_f (nI_ge (a := i) (b := 4096) (by omega) (by decide)) ?_
      refine ⟨pk_in i 4096 hi, ?_⟩
      rw [nI_clamp (show i < 2 ^ 31 by omega)]
      refine br_c (fun e => ?_) (fun e => ?_)
      · rw [if_pos e] at k
        exact nm_r (nI_1 i) k
      · rw [if_neg e] at k
        refine xw_mark hi ?_
        exact nm_r (nI_1 i) k
  · have k' : lo_F lo_c1 M (i + 1) = upd (lo_F lo_c1 M i) i 0 := rfl
    try dsimp only at k ⊢
    rw [k'] at k
    generalize lo_F lo_c1 M i = m at k ⊢
    refine br_f (nI_ge (a := i) (b := 4096) (by omega) (by decide)) ?_
    refine ⟨pk_in i 4096 hi, ?_⟩
    refine nm_r (e' := upd m i 0) (by rw [nI_clamp (by omega), lo_v0]) ?_
    exact nm_r (nI_1 i) k
theorem xw_meets_l {post : Int32 → Prop} {s : Nat} (hs : s < 4096) : ∀ d j, j + d = 16 → post (lo_b (lo_any (fun k => decide (G (lo_na s k) ≠ 0)) d j)) →
    wX_meetsRing_13 post (nI s) (lo_a n) (lo_a L) (lo_a T) (lo_a H) R W G M (d + 1) (nI j) := by
  intro d
  induction d with
  | zero => intro j hj h; exact br_t (nI_le (a := 16) (by omega) (by omega)) h
  | succ d ih =>
    intro j hj h
    have hna := (lo_na_d s j).1
    have e2 : lo_any (fun k => decide (G (lo_na s k) ≠ 0)) (d + 1) j = (decide (G (lo_na s j) ≠ 0) || lo_any (fun k => decide (G (lo_na s k) ≠ 0)) d (j + 1)) := rfl
    rw [e2] at h
    refine br_f (nI_ge (a := j) (b := 16) (by omega) (by decide)) ?_
    refine xw_next hs (by omega) ?_
    refine ⟨pk_in (lo_na s j) 4096 hna, ?_⟩
    rw [nI_clamp (show lo_na s j < 2 ^ 31 by omega)]
    refine br_c (fun e => ?_) (fun e => ?_)
    · rw [decide_eq_false (show ¬ (G (lo_na s j) ≠ 0) from fun q => q e), Bool.false_or] at h
      exact nm_r (nI_1 j) (ih (j + 1) (by omega) h)
    · rw [decide_eq_true (show G (lo_na s j) ≠ 0 from e), Bool.true_or] at h
      exact h
def lo_me (R G : Nat → Int32) (s : Nat) : Bool := decide (R s ≠ 0) && lo_ms (fun r => decide (G r ≠ 0)) s
theorem xw_meets {post : Int32 → Prop} {s : Nat} (hs : s < 4096) (h : post (lo_b (lo_me R G s))) :
    wpX_meetsRing post (lo_a n, lo_a L, lo_a T, lo_a H, R, W, G, M) (nI s) := by
  unfold wpX_meetsRing
  unfold lo_me at h
  refine ⟨pk_in s 4096 hs, ?_⟩
  rw [nI_clamp (show s < 2 ^ 31 by omega)]
  refine br_c (fun e => ?_) (fun e => ?_)
  · rw [decide_eq_false (show ¬ (R s ≠ 0) from fun q => q e), Bool.false_and] at h
    exact h
  · rw [decide_eq_true (show R s ≠ 0 from e), Bool.true_and] at h
    exact ⟨17, xw_meets_l hs 16 0 rfl h⟩
theorem xw_cnt5 {post : Int32 → SX → Prop} (h : post (nI (lo_c (fun x => lo_me R G x) 4096)) (lo_a n, lo_a L, lo_a T, lo_a H, R, W, G, M)) :
    wX_statesMet_12 post (lo_a n) (lo_a L) (lo_a T) (lo_a H) R W G M 4097 0 0 := by
  refine lo_loopS (fun f i (s : Nat) => wX_statesMet_12 post (lo_a n) (lo_a L) (lo_a T) (lo_a H) R W G M f (nI s) (nI i)) (lo_c (fun x => lo_me R G x)) 4096 (fun f => ?_) (fun f i hi k => ?_)
  · exact br_t (nI_le (a := 4096) (b := 4096) (by omega) (by decide)) h
  · try dsimp only at k ⊢
    rw [lo_c_s] at k
    refine br_f (nI_ge (a := i) (b := 4096) (by omega) (by decide)) ?_
    refine xw_meets hi (lo_br (fun e => ?_) (fun e => ?_))
    · rw [if_neg (by rw [e]; decide)] at k
      exact nm_r (nI_1 i) k
    · rw [if_pos e] at k
      exact nm_r (nI_1 _) (nm_r (nI_1 i) k)
def lo_ss (d : Nat → Nat) : Nat → Nat
  | 0 => 0
  | t + 1 => lo_ss d t + d t
theorem lo_ss_4 (d : Nat → Nat) : lo_ss d 4 = lo_sm d := by
  show 0 + d 0 + d 1 + d 2 + d 3 = _
  rw [Nat.zero_add]
  rfl
theorem xw_byAll {post : Int32 → Prop} {x : Nat} (hx : x < 4096) (h : post (nI (lo_sm (lo_d x)))) : wpX_doneByAll post (nI x) := by
  unfold wpX_doneByAll
  refine ⟨5, lo_loopS (fun f i (z : Nat) => wX_doneByAll_4 post (nI x) f (nI z) (nI i)) (lo_ss (lo_d x)) 4 (fun f => ?_) (fun f i hi q => ?_)⟩
  · rw [← lo_ss_4] at h
    exact br_t (nI_le (a := 4) (b := 4) (by omega) (by decide)) h
  · try dsimp only at q ⊢
    refine br_f (nI_ge (a := i) (b := 4) (by omega) (by decide)) ?_
    refine xw_doneBy hx hi ?_
    exact nm_r (nI_add _ _) (nm_r (nI_1 i) q)
theorem xw_soon {post : Int32 → SX → Prop} (h : post (lo_F (lo_sX (fun x => lo_me R G x)) (-4) 4096) (lo_a n, lo_a L, lo_a T, lo_a H, R, W, G, M)) :
    wX_soonest_13 post (lo_a n) (lo_a L) (lo_a T) (lo_a H) R W G M 4097 (-4) 0 := by
  refine lo_loop (fun f i (s : Int32) => wX_soonest_13 post (lo_a n) (lo_a L) (lo_a T) (lo_a H) R W G M f s (nI i)) (lo_sX (fun x => lo_me R G x)) (-4) 4096 (fun f => ?_) (fun f i hi k => ?_)
  · exact br_t (nI_le (a := 4096) (b := 4096) (by omega) (by decide)) h
  · have k' : lo_F (lo_sX (fun x => lo_me R G x)) (-4) (i + 1) = (if lo_me R G i = true then (if lo_F (lo_sX (fun x => lo_me R G x)) (-4) i = -4 then nI (lo_sm (lo_d i)) else if nI (lo_sm (lo_d i)) < lo_F (lo_sX (fun x => lo_me R G x)) (-4) i then nI (lo_sm (lo_d i)) else lo_F (lo_sX (fun x => lo_me R G x)) (-4) i) else lo_F (lo_sX (fun x => lo_me R G x)) (-4) i) := rfl
    try dsimp only at k ⊢
    rw [k'] at k
    generalize lo_F (lo_sX (fun x => lo_me R G x)) (-4) i = s at k ⊢
    refine br_f (nI_ge (a := i) (b := 4096) (by omega) (by decide)) ?_
    refine xw_meets hi (lo_br (fun e => ?_) (fun e => ?_))
    · rw [if_neg (by rw [e]; decide)] at k
      exact nm_r (nI_1 i) k
    · rw [if_pos e] at k
      refine xw_byAll hi ?_
      refine br_c (fun e2 => ?_) (fun e2 => ?_)
      · rw [if_pos e2] at k
        exact nm_r (nI_1 i) k
      · rw [if_neg e2] at k
        refine br_c (fun e3 => ?_) (fun e3 => ?_)
        · rw [if_neg (Int32.not_lt.mpr e3)] at k
          exact nm_r (nI_1 i) k
        · rw [if_pos (Int32.not_le.mp e3)] at k
          exact nm_r (nI_1 i) k
end
