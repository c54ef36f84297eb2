/-! the relation; take, give, drop -/
/-- what the component keeps of actions, beside the reference's; all else is worked out anew by each question -/
def i_Rel (k : Nat) (u : SX) (v : SY) : Prop :=
  ∃ (n L T H A : Nat → Nat) (R W G M : Nat → Int32) (mn : Int32) (R' W' S K C : Nat → Int32),
    u = (lo_a n, lo_a L, lo_a T, lo_a H, R, W, G, M) ∧ v = (mn, lo_a A, lo_a n, R', W', S, K, C) ∧ lo_D n L T H A ∧ ∀ t, t < 4 → S t = nI (lo_q t)
theorem i_up {k : Nat} {u : SX} {v : SY} (h : i_Rel k u v) : i_Rel (k + 5) u v := h
theorem lo_rel {k : Nat} {n L T H A : Nat → Nat} {R W G M : Nat → Int32} {mn : Int32} {R' W' S K C : Nat → Int32} (D : lo_D n L T H A) (hS : ∀ t, t < 4 → S t = nI (lo_q t)) :
    i_Rel k (lo_a n, lo_a L, lo_a T, lo_a H, R, W, G, M) (mn, lo_a A, lo_a n, R', W', S, K, C) :=
  ⟨n, L, T, H, A, R, W, G, M, mn, R', W', S, K, C, rfl, rfl, D, hS⟩
theorem lo_DX {n L T H A : Nat → Nat} (D : lo_D n L T H A) : lo_Dx n L T H := ⟨D.1, D.2.2.2.1, D.2.2.2.2.1, D.2.2.2.2.2.1⟩
theorem lo_DY {n L T H A : Nat → Nat} {S : Nat → Int32} (D : lo_D n L T H A) (hS : ∀ t, t < 4 → S t = nI (lo_q t)) : lo_Dy n A S := ⟨D.1, D.2.2.2.2.2.2, hS⟩
theorem lo_D0 : lo_D (fun _ => 0) (fun _ => 0) (fun _ => 0) (fun _ => 0) (fun _ => 0) := by
  refine ⟨fun t _ => Nat.zero_le _, fun t _ k hk => absurd hk (Nat.not_lt_zero k), fun t _ k hk => ?_, fun j => by show 0 < 5; decide, fun j => Nat.zero_le _, fun j => by show 0 < 32; decide, fun j => Or.inl (by show 0 < 5; decide)⟩
  have e : k = 0 := Nat.le_zero.mp hk
  subst e
  rfl
theorem yw_init {post : SY → Prop} (h : ∀ S : Nat → Int32, (∀ t, t < 4 → S t = nI (lo_q t)) → post (0, lo_a (fun _ => 0), lo_a (fun _ => 0), (fun _ => 0), (fun _ => 0), S, (fun _ => 0), (fun _ => 0))) : wpY_init post := by
  unfold wpY_init
  refine ⟨5, ?_⟩
  refine br_f (by decide) ⟨vp_in_iff.mpr (by decide), nm_e ⟨by decide, nm_r (e' := 49) (by decide) (nm_r (e' := 1) (by decide) ?_)⟩⟩
  refine br_f (by decide) ⟨vp_in_iff.mpr (by decide), nm_e ⟨by decide, nm_r (e' := 7) (by decide) (nm_r (e' := 2) (by decide) ?_)⟩⟩
  refine br_f (by decide) ⟨vp_in_iff.mpr (by decide), nm_e ⟨by decide, nm_r (e' := 1) (by decide) (nm_r (e' := 3) (by decide) ?_)⟩⟩
  refine br_f (by decide) ⟨vp_in_iff.mpr (by decide), nm_e ⟨by decide, nm_r (e' := 0) (by decide) (nm_r (e' := 4) (by decide) ?_)⟩⟩
  exact br_t (by decide) (h _ (lo_4 rfl rfl rfl rfl))
theorem i_vc0 : wpX_init (fun u => wpY_init (fun v => i_Rel 0 u v)) := by
  unfold wpX_init
  refine yw_init (fun S hS => ?_)
  exact ⟨fun _ => 0, fun _ => 0, fun _ => 0, fun _ => 0, fun _ => 0, fun _ => 0, fun _ => 0, fun _ => 0, fun _ => 0, 0, fun _ => 0, fun _ => 0, S, fun _ => 0, fun _ => 0, rfl, rfl, lo_D0, hS⟩
/-- one action more -/
theorem lo_D_put {n L T H A : Nat → Nat} (D : lo_D n L T H A) {t p tk x : Nat} (ht : t < 4) (hn : n t < 6) (hp : p < 5) (hx : (tk = 1 ∧ x = p) ∨ (tk = 0 ∧ x = 8 + p))
    (hm : H (t * 8 + n t) ^^^ 2 ^ p = lo_m (H (t * 8 + n t)) x) :
    lo_D (lo_u n t (n t + 1)) (lo_u L (t * 8 + n t) p) (lo_u T (t * 8 + n t) tk) (lo_u H (t * 8 + n t + 1) (H (t * 8 + n t) ^^^ 2 ^ p)) (lo_u A (6 * t + n t) x) := by
  obtain ⟨d1, d2, d3, d4, d5, d6, d7⟩ := D
  have hok : lo_ok x := by
    rcases hx with ⟨_, e⟩ | ⟨_, e⟩
    · exact Or.inl (by omega)
    · exact Or.inr ⟨by omega, by omega⟩
  refine ⟨fun s hs => ?_, fun s hs k hk => ?_, fun s hs k hk => ?_, fun j => ?_, fun j => ?_, fun j => ?_, fun j => ?_⟩
  · by_cases e : s = t
    · rw [e, lo_us]; omega
    · rw [lo_un e]; exact d1 s hs
  · by_cases e : s = t
    · subst e
      rw [lo_us] at hk
      by_cases ek : k = n s
      · subst ek
        rw [lo_us, lo_us, lo_us]
        exact hx
      · rw [lo_un (show s * 8 + k ≠ s * 8 + n s by omega), lo_un (show s * 8 + k ≠ s * 8 + n s by omega), lo_un (show 6 * s + k ≠ 6 * s + n s by omega)]
        exact d2 s hs k (by omega)
    · rw [lo_un e] at hk
      have h6 := d1 s hs
      rw [lo_un (show s * 8 + k ≠ t * 8 + n t by omega), lo_un (show s * 8 + k ≠ t * 8 + n t by omega), lo_un (show 6 * s + k ≠ 6 * t + n t by omega)]
      exact d2 s hs k hk
  · by_cases e : s = t
    · subst e
      rw [lo_us] at hk
      have hc : ∀ k, k ≤ n s → lo_h (lo_u A (6 * s + n s) x) s k = lo_h A s k := fun k hk => lo_h_congr _ _ s k (fun j hj => lo_un (by omega))
      by_cases ek : k = n s + 1
      · subst ek
        show lo_u H (s * 8 + n s + 1) (H (s * 8 + n s) ^^^ 2 ^ p) (s * 8 + n s + 1) = lo_m (lo_h (lo_u A (6 * s + n s) x) s (n s)) (lo_u A (6 * s + n s) x (6 * s + n s))
        rw [lo_us, lo_us, hc (n s) (Nat.le_refl _), ← d3 s hs (n s) (Nat.le_refl _)]
        exact hm
      · rw [lo_un (show s * 8 + k ≠ s * 8 + n s + 1 by omega), hc k (by omega)]
        exact d3 s hs k (by omega)
    · rw [lo_un e] at hk
      have h6 := d1 s hs
      rw [lo_un (show s * 8 + k ≠ t * 8 + n t + 1 by omega), lo_h_congr (lo_u A (6 * t + n t) x) A s k (fun j hj => lo_un (by omega))]
      exact d3 s hs k hk
  · by_cases e : j = t * 8 + n t
    · rw [e, lo_us]; exact hp
    · rw [lo_un e]; exact d4 j
  · by_cases e : j = t * 8 + n t
    · rw [e, lo_us]; rcases hx with ⟨q, _⟩ | ⟨q, _⟩ <;> omega
    · rw [lo_un e]; exact d5 j
  · by_cases e : j = t * 8 + n t + 1
    · rw [e, lo_us]; exact lo_xor_lt _ (d6 _) p hp
    · rw [lo_un e]; exact d6 j
  · by_cases e : j = 6 * t + n t
    · rw [e, lo_us]; exact hok
    · rw [lo_un e]; exact d7 j
theorem lo_D_drop {n L T H A : Nat → Nat} (D : lo_D n L T H A) {t : Nat} (ht : t < 4) : lo_D (lo_u n t (n t - 1)) L T H A := by
  obtain ⟨d1, d2, d3, d4⟩ := D
  have hle : ∀ s, s < 4 → lo_u n t (n t - 1) s ≤ n s := by
    intro s _
    by_cases e : s = t
    · rw [e, lo_us]; omega
    · rw [lo_un e]; exact Nat.le_refl _
  exact ⟨fun s hs => Nat.le_trans (hle s hs) (d1 s hs), fun s hs k hk => d2 s hs k (Nat.lt_of_lt_of_le hk (hle s hs)), fun s hs k hk => d3 s hs k (Nat.le_trans hk (hle s hs)), d4⟩
theorem lo_nr {t : Int32} {N i : Nat} (hN : N < 2 ^ 31) (hb : t < 0 ∨ nI N ≤ t) (hi : i < N) (e : t = nI i) : False := by
  rw [e] at hb
  rcases hb with q | q
  · exact nI_pos (by omega) q
  · exact nI_ge hi hN q
section
variable {n L T H A : Nat → Nat} {R W G M : Nat → Int32} {mn : Int32} {R' W' S K C : Nat → Int32}
theorem xw_holds (D : lo_Dx n L T H) {post : Int32 → Prop} {t p : Nat} (ht : t < 4) (hp : p < 5) (h : post (lo_b ((H (t * 8 + n t)).testBit p))) :
    wpX_holdsAtEnd post (lo_a n, lo_a L, lo_a T, lo_a H, R, W, G, M) (nI t) (nI p) := by
  unfold wpX_holdsAtEnd
  have hn := D.1 t ht
  refine ⟨pk_in t 4 ht, ?_⟩
  rw [lo_at n (show t < 2 ^ 31 by omega)]
  refine xw_cell ?_
  refine ⟨pk_in (t * 8 + n t) 32 (by omega), lo_brb (lo_at H (by omega)) (D.2.2.2 _) hp (fun e => ?_) (fun e => ?_)⟩
  · rw [e] at h; exact h
  · rw [e] at h; exact h
theorem xw_append (D : lo_Dx n L T H) {post : Int32 → SX → Prop} {t p tk : Nat} {b : Int32} (ht : t < 4) (hn : n t < 6) (hp : p < 5) (hv : vp_nar .boolean b = nI tk)
    (h : post (nI (n t + 1)) (lo_a (lo_u n t (n t + 1)), lo_a (lo_u L (t * 8 + n t) p), lo_a (lo_u T (t * 8 + n t) tk), lo_a (lo_u H (t * 8 + n t + 1) (H (t * 8 + n t) ^^^ 2 ^ p)), R, W, G, M)) :
    wpX_append post (lo_a n, lo_a L, lo_a T, lo_a H, R, W, G, M) (nI t) (nI p) b := by
  unfold wpX_append
  refine ⟨pk_in t 4 ht, ?_⟩
  rw [lo_at n (show t < 2 ^ 31 by omega)]
  refine xw_cell ?_
  have hi := pk_in (x := nI (t * 8 + n t)) (t * 8 + n t) 32 (by omega)
  refine ⟨hi, nm_r (e' := lo_a (lo_u L (t * 8 + n t) p)) (by rw [nI_clamp (by omega), lo_au]) ?_⟩
  refine ⟨hi, nm_r (e' := lo_a (lo_u T (t * 8 + n t) tk)) (by rw [nI_clamp (by omega), hv, lo_au]) ?_⟩
  refine ⟨hi, pk_in (t * 8 + n t + 1) 32 (by omega) (nI_1 _), ?_⟩
  refine nm_r (e' := lo_a (lo_u H (t * 8 + n t + 1) (H (t * 8 + n t) ^^^ 2 ^ p))) (by rw [nI_1, nI_clamp (n := t * 8 + n t + 1) (by omega), lo_at H (by omega), lo_xorI _ (D.2.2.2 _) p hp, lo_au]) ?_
  refine ⟨pk_in t 4 ht, pk_in t 4 ht, ?_⟩
  refine nm_r (e' := lo_a (lo_u n t (n t + 1))) (by rw [nI_1, nI_clamp (n := t) (by omega), lo_au]) ?_
  refine ⟨pk_in t 4 ht, ?_⟩
  rw [lo_at _ (show t < 2 ^ 31 by omega), lo_us]
  exact h
theorem yw_bad {post : Int32 → Prop} (t l : Int32) (h1 : (t < 0 ∨ nI 4 ≤ t) ∨ (l < 0 ∨ nI 5 ≤ l) → post 1) (h0 : ∀ i, i < 4 → ∀ j, j < 5 → t = nI i → l = nI j → post 0) :
    wpY_bad post (mn, lo_a A, lo_a n, R', W', S, K, C) t l := by
  unfold wpY_bad
  refine br_c (fun e => h1 (Or.inl (Or.inl e))) (fun e => ?_)
  obtain ⟨i, hi, rfl⟩ := nI_of e
  refine pk_lt 3 i (fun e2 => h1 (Or.inl (Or.inr (nI_le (by omega) hi)))) (fun e2 => ?_) rfl rfl (by decide) hi
  refine br_c (fun e3 => h1 (Or.inr (Or.inl e3))) (fun e3 => ?_)
  obtain ⟨j, hj, rfl⟩ := nI_of e3
  exact pk_le j 4 (fun e4 => h0 i (by omega) j (by omega) rfl rfl) (fun e4 => h1 (Or.inr (Or.inr (nI_le (by omega) hj)))) rfl rfl hj (by decide)
theorem yw_take_bad {post : Int32 → SY → Prop} {t l : Int32} (hb : (t < 0 ∨ nI 4 ≤ t) ∨ (l < 0 ∨ nI 5 ≤ l)) (h : post (-1) (mn, lo_a A, lo_a n, R', W', S, K, C)) :
    wpY_take post (mn, lo_a A, lo_a n, R', W', S, K, C) t l := by
  unfold wpY_take
  refine yw_bad t l (fun _ => br_f (by decide) h) (fun i hi j hj e1 e2 => ?_)
  rcases hb with q | q
  · exact (lo_nr (by decide) q hi e1).elim
  · exact (lo_nr (by decide) q hj e2).elim
theorem yw_give_bad {post : Int32 → SY → Prop} {t l : Int32} (hb : (t < 0 ∨ nI 4 ≤ t) ∨ (l < 0 ∨ nI 5 ≤ l)) (h : post (-1) (mn, lo_a A, lo_a n, R', W', S, K, C)) :
    wpY_give post (mn, lo_a A, lo_a n, R', W', S, K, C) t l := by
  unfold wpY_give
  refine yw_bad t l (fun _ => br_f (by decide) h) (fun i hi j hj e1 e2 => ?_)
  rcases hb with q | q
  · exact (lo_nr (by decide) q hi e1).elim
  · exact (lo_nr (by decide) q hj e2).elim
theorem yw_take (D : lo_Dy n A S) {post : Int32 → SY → Prop} {t p : Nat} (ht : t < 4) (hp : p < 5) (h2 : n t = 6 → post (-2) (mn, lo_a A, lo_a n, R', W', S, K, C))
    (h4 : n t < 6 → (lo_h A t (n t)).testBit p = true → post (-4) (mn, lo_a A, lo_a n, R', W', S, K, C))
    (h0 : n t < 6 → (lo_h A t (n t)).testBit p = false → post (nI (n t + 1)) (mn, lo_a (lo_u A (6 * t + n t) p), lo_a (lo_u n t (n t + 1)), R', W', S, K, C)) :
    wpY_take post (mn, lo_a A, lo_a n, R', W', S, K, C) (nI t) (nI p) := by
  unfold wpY_take
  have hn := D.1 t ht
  refine yw_bad (nI t) (nI p) (fun hb => ?_) (fun _ _ _ _ _ _ => br_t rfl ?_)
  · rcases hb with q | q
    · exact (lo_nr (by decide) q ht rfl).elim
    · exact (lo_nr (by decide) q hp rfl).elim
  · refine ⟨pk_in t 4 ht, ?_⟩
    rw [lo_at n (show t < 2 ^ 31 by omega)]
    refine pk_eq (n t) 6 h2 (fun e => ?_) rfl rfl (by omega) (by decide)
    refine ⟨pk_in t 4 ht, ?_⟩
    refine yw_held D ht hn ?_
    refine lo_brY (lo_h_lt D.2.1 t _) hp (fun e2 => h4 (by omega) e2) (fun e2 => ?_)
    refine ⟨pk_in t 4 ht, ?_⟩
    rw [lo_cell6]
    refine ⟨pk_in (6 * t + n t) 24 (by omega), ?_⟩
    refine nm_r (e' := lo_a (lo_u A (6 * t + n t) p)) (by rw [nI_clamp (by omega), lo_au]) ?_
    refine ⟨pk_in t 4 ht, pk_in t 4 ht, ?_⟩
    refine nm_r (e' := lo_a (lo_u n t (n t + 1))) (by rw [nI_1, nI_clamp (n := t) (by omega), lo_au]) ?_
    refine ⟨pk_in t 4 ht, ?_⟩
    rw [lo_at _ (show t < 2 ^ 31 by omega), lo_us]
    exact h0 (by omega) e2
theorem yw_give (D : lo_Dy n A S) {post : Int32 → SY → Prop} {t p : Nat} (ht : t < 4) (hp : p < 5) (h2 : n t = 6 → post (-2) (mn, lo_a A, lo_a n, R', W', S, K, C))
    (h4 : n t < 6 → (lo_h A t (n t)).testBit p = false → post (-4) (mn, lo_a A, lo_a n, R', W', S, K, C))
    (h0 : n t < 6 → (lo_h A t (n t)).testBit p = true → post (nI (n t + 1)) (mn, lo_a (lo_u A (6 * t + n t) (8 + p)), lo_a (lo_u n t (n t + 1)), R', W', S, K, C)) :
    wpY_give post (mn, lo_a A, lo_a n, R', W', S, K, C) (nI t) (nI p) := by
  unfold wpY_give
  have hn := D.1 t ht
  refine yw_bad (nI t) (nI p) (fun hb => ?_) (fun _ _ _ _ _ _ => br_t rfl ?_)
  · rcases hb with q | q
    · exact (lo_nr (by decide) q ht rfl).elim
    · exact (lo_nr (by decide) q hp rfl).elim
  · refine ⟨pk_in t 4 ht, ?_⟩
    rw [lo_at n (show t < 2 ^ 31 by omega)]
    refine pk_eq (n t) 6 h2 (fun e => ?_) rfl rfl (by omega) (by decide)
    refine ⟨pk_in t 4 ht, ?_⟩
    refine yw_held D ht hn ?_
    refine lo_br0 (lo_h_lt D.2.1 t _) hp (fun e2 => h4 (by omega) e2) (fun e2 => ?_)
    refine ⟨pk_in t 4 ht, ?_⟩
    rw [lo_cell6]
    refine ⟨pk_in (6 * t + n t) 24 (by omega), ?_⟩
    refine nm_r (e' := lo_a (lo_u A (6 * t + n t) (8 + p))) (by rw [nI_clamp (by omega), show (8 : Int32) + nI p = nI (8 + p) from nI_add 8 p, lo_au]) ?_
    refine ⟨pk_in t 4 ht, pk_in t 4 ht, ?_⟩
    refine nm_r (e' := lo_a (lo_u n t (n t + 1))) (by rw [nI_1, nI_clamp (n := t) (by omega), lo_au]) ?_
    refine ⟨pk_in t 4 ht, ?_⟩
    rw [lo_at _ (show t < 2 ^ 31 by omega), lo_us]
    exact h0 (by omega) e2
end
theorem i_vc_take {k : Nat} {u : SX} {v : SY} (I : i_Rel k u v) (hk : k + 5 ≤ 2560) (v1 : Int32) (v2 : Int32) : wpX_take (fun r u' => wpY_take (fun r' v' => r' = r ∧ i_Rel (k + 5) u' v') v v1 v2) u v1 v2 := by
  obtain ⟨n, L, T, H, A, R, W, G, M, mn, R', W', S, K, C, rfl, rfl, D, hS⟩ := I
  have Dx := lo_DX D
  have Dy := lo_DY D hS
  unfold wpX_take
  refine xw_isThread v1 (fun hb => br_t rfl ?_) (fun t ht et => br_f (by decide) ?_)
  · exact yw_take_bad (Or.inl hb) ⟨rfl, lo_rel D hS⟩
  · refine xw_isLock v2 (fun hb => br_t rfl ?_) (fun p hp ep => br_f (by decide) ?_)
    · exact yw_take_bad (Or.inr hb) ⟨rfl, lo_rel D hS⟩
    · subst et ep
      have hn := D.1 t ht
      have hh := D.2.2.1 t ht (n t) (Nat.le_refl _)
      refine ⟨pk_in t 4 ht, pk_lt (n t) 6 (fun e => ?_) (fun e => ?_) (lo_at n (by omega)) rfl (by omega) (by decide)⟩
      · refine xw_holds Dx ht hp (lo_br (fun e2 => ?_) (fun e2 => ?_))
        · refine xw_append (tk := 1) Dx ht e hp lo_v1 ?_
          refine yw_take Dy ht hp (fun q => by omega) (fun _ q => ?_) (fun _ _ => ⟨rfl, ?_⟩)
          · rw [← hh, e2] at q; exact absurd q (by decide)
          · exact lo_rel (lo_D_put D ht e hp (Or.inl ⟨rfl, rfl⟩) (lo_m_take _ (D.2.2.2.2.2.1 _) p hp e2)) hS
        · refine yw_take Dy ht hp (fun q => by omega) (fun _ _ => ⟨rfl, lo_rel D hS⟩) (fun _ q => ?_)
          rw [← hh, e2] at q; exact absurd q (by decide)
      · exact yw_take Dy ht hp (fun _ => ⟨rfl, lo_rel D hS⟩) (fun q => by omega) (fun q => by omega)
theorem i_vc_give {k : Nat} {u : SX} {v : SY} (I : i_Rel k u v) (hk : k + 5 ≤ 2560) (v1 : Int32) (v2 : Int32) : wpX_give (fun r u' => wpY_give (fun r' v' => r' = r ∧ i_Rel (k + 5) u' v') v v1 v2) u v1 v2 := by
  obtain ⟨n, L, T, H, A, R, W, G, M, mn, R', W', S, K, C, rfl, rfl, D, hS⟩ := I
  have Dx := lo_DX D
  have Dy := lo_DY D hS
  unfold wpX_give
  refine xw_isThread v1 (fun hb => br_t rfl ?_) (fun t ht et => br_f (by decide) ?_)
  · exact yw_give_bad (Or.inl hb) ⟨rfl, lo_rel D hS⟩
  · refine xw_isLock v2 (fun hb => br_t rfl ?_) (fun p hp ep => br_f (by decide) ?_)
    · exact yw_give_bad (Or.inr hb) ⟨rfl, lo_rel D hS⟩
    · subst et ep
      have hn := D.1 t ht
      have hh := D.2.2.1 t ht (n t) (Nat.le_refl _)
      refine ⟨pk_in t 4 ht, pk_lt (n t) 6 (fun e => ?_) (fun e => ?_) (lo_at n (by omega)) rfl (by omega) (by decide)⟩
      · refine xw_holds Dx ht hp (lo_br (fun e2 => ?_) (fun e2 => ?_))
        · refine yw_give Dy ht hp (fun q => by omega) (fun _ _ => ⟨rfl, lo_rel D hS⟩) (fun _ q => ?_)
          rw [← hh, e2] at q; exact absurd q (by decide)
        · refine xw_append (tk := 0) Dx ht e hp lo_v0 ?_
          refine yw_give Dy ht hp (fun q => by omega) (fun _ q => ?_) (fun _ _ => ⟨rfl, ?_⟩)
          · rw [← hh, e2] at q; exact absurd q (by decide)
          · exact lo_rel (lo_D_put D ht e hp (Or.inr ⟨rfl, rfl⟩) (lo_m_give _ (D.2.2.2.2.2.1 _) p hp e2)) hS
      · exact yw_give Dy ht hp (fun _ => ⟨rfl, lo_rel D hS⟩) (fun q => by omega) (fun q => by omega)
theorem i_vc_drop {k : Nat} {u : SX} {v : SY} (I : i_Rel k u v) (hk : k + 5 ≤ 2560) (v1 : Int32) : wpX_drop (fun r u' => wpY_drop (fun r' v' => r' = r ∧ i_Rel (k + 5) u' v') v v1) u v1 := by
  obtain ⟨n, L, T, H, A, R, W, G, M, mn, R', W', S, K, C, rfl, rfl, D, hS⟩ := I
  unfold wpX_drop
  refine xw_isThread v1 (fun hb => br_t rfl ?_) (fun t ht et => br_f (by decide) ?_)
  · unfold wpY_drop
    refine br_c (fun _ => ⟨rfl, lo_rel D hS⟩) (fun e => ?_)
    obtain ⟨j, hj, ej⟩ := nI_of e
    subst ej
    refine pk_le j 3 (fun e2 => ?_) (fun e2 => ⟨rfl, lo_rel D hS⟩) rfl rfl hj (by decide)
    exact (lo_nr (i := j) (by decide) hb (by omega) rfl).elim
  · subst et
    have hn := D.1 t ht
    have hi := pk_in (x := nI t) t 4 ht
    refine ⟨hi, ?_⟩
    rw [lo_at n (show t < 2 ^ 31 by omega)]
    have hsub : 0 < n t → upd (lo_a n) (nI t).toNatClampNeg (nI (n t) - 1) = lo_a (lo_u n t (n t - 1)) := by
      intro h0
      rw [nI_clamp (show t < 2 ^ 31 by omega), show nI (n t) - 1 = nI (n t - 1) from pk_sub (b := 1) h0, lo_au]
    refine pk_eq (n t) 0 (fun e => ?_) (fun e => ?_) rfl rfl (by omega) (by decide)
    · unfold wpY_drop
      refine br_f (nI_pos (by omega)) (br_t (nI_le (b := 3) (by omega) (by decide)) ⟨hi, ?_⟩)
      rw [lo_at n (show t < 2 ^ 31 by omega)]
      exact br_t (by rw [e]; rfl) ⟨rfl, lo_rel D hS⟩
    · refine ⟨hi, hi, nm_r (hsub (by omega)) ⟨hi, ?_⟩⟩
      unfold wpY_drop
      refine br_f (nI_pos (by omega)) (br_t (nI_le (b := 3) (by omega) (by decide)) ⟨hi, ?_⟩)
      rw [lo_at n (show t < 2 ^ 31 by omega)]
      exact br_f (nI_ne0 (by omega) (by omega)) ⟨hi, hi, nm_r (hsub (by omega)) ⟨hi, rfl, lo_rel (lo_D_drop D ht) hS⟩⟩
