/-! the questions: both sides meet in the pure lemmas -/
theorem lo_bd (b : Bool) : decide (lo_b b ≠ 0) = b := by cases b <;> decide
theorem lo_dec {x : Int32} {b : Bool} (h : x ≠ 0 ↔ b = true) : decide (x ≠ 0) = b := by
  cases b with
  | true => exact decide_eq_true (h.mpr rfl)
  | false => exact decide_eq_false (fun q => absurd (h.mp q) (by decide))
theorem lo_beq {a b : Bool} (h : a = true ↔ b = true) : a = b := by
  cases a with
  | true => exact (h.mp rfl).symm
  | false =>
    cases b with
    | true => exact h.mpr rfl
    | false => rfl
section
variable {n L T H A : Nat → Nat} {a b : (Nat → Int32) × (Nat → Int32)} {G : Nat → Int32}
theorem lo_R_c (D : lo_D n L T H A) (h : lo_Rr n a b) : lo_c (fun x => decide (b.1 x ≠ 0)) 2401 = lo_c (fun x => decide (a.1 x ≠ 0)) 4096 :=
  (lo_c_y _ _ (fun x hx gx => by rw [(h.1 x hx gx).1]) (fun x hx gx => by rw [lo_R0 D h hx gx]; rfl)).symm
theorem lo_sk_c (D : lo_D n L T H A) (h : lo_Rr n a b) : lo_c (fun x => lo_sk b.1 (lo_gY n A) (lo_fn n lo_q) x) 2401 = lo_c (fun x => lo_sk a.1 (lo_gX n L T H) (lo_fn n lo_p) x) 4096 :=
  (lo_c_y _ _ (fun x hx gx => lo_sk_eq D h hx gx) (fun x hx gx => lo_sk_no D h hx gx)).symm
theorem lo_sk_fo (D : lo_D n L T H A) (h : lo_Rr n a b) (i : Int32) {t : Nat} (ht : t < 4) :
    lo_fo (fun x => lo_sk b.1 (lo_gY n A) (lo_fn n lo_q) x) (fun x => nI (lo_e x t)) i 2401 = lo_fo (fun x => lo_sk a.1 (lo_gX n L T H) (lo_fn n lo_p) x) (fun x => nI (lo_d x t)) i 4096 :=
  (lo_fo_y _ _ _ _ i (fun x hx gx => lo_sk_eq D h hx gx) (fun x hx gx => lo_sk_no D h hx gx) (fun x hx gx => by
    show nI (lo_d x t) = nI (lo_e (lo_y x) t)
    rw [lo_y_e hx gx t ht])).symm
theorem lo_fin (D : lo_D n L T H A) (h : lo_Rr n a b) : b.1 (lo_fn n lo_q) = a.1 (lo_fn n lo_p) ∧ b.2 (lo_fn n lo_q) = a.2 (lo_fn n lo_p) := by
  have q := h.1 _ (lo_fnX D.1).1 (lo_fn_g D.1)
  rw [lo_fn_y D.1] at q
  exact ⟨q.1.symm, q.2.symm⟩
theorem lo_rg_c (D : lo_D n L T H A) : (lo_ls (fun y => lo_rY n A (lo_e y)) 2401).1 = lo_c (fun r => lo_rX n L T H r) 4096 := by
  rw [lo_ls_1]
  exact (lo_c_z _ _ (fun x hx gx => lo_rXz D hx gx) (fun x hx gx => lo_rX_no D gx)).symm
theorem lo_met_c (D : lo_D n L T H A) (h : lo_Rr n a b) {M : Nat → Int32} (hG : ∀ r, r < 4096 → G r = lo_b (lo_rX n L T H r))
    (hM : ∀ r, r < 4096 → (M r ≠ 0 ↔ (G r ≠ 0 ∧ ∃ s, s < 4096 ∧ a.1 s ≠ 0 ∧ ∃ k, k < 16 ∧ r = lo_na s k))) :
    lo_c (fun j => lo_mt b.1 ((lo_ls (fun y => lo_rY n A (lo_e y)) 2401).2 j)) (lo_ls (fun y => lo_rY n A (lo_e y)) 2401).1 = lo_c (fun r => decide (M r ≠ 0)) 4096 := by
  have hG2 : ∀ r, r < 4096 → (G r ≠ 0 ↔ lo_rX n L T H r = true) := by
    intro r hr
    rw [hG r hr]
    cases lo_rX n L T H r with
    | true => exact ⟨fun _ => rfl, fun _ => by decide⟩
    | false => exact ⟨fun q => absurd rfl q, fun q => absurd q (by decide)⟩
  rw [lo_ls_c (fun y => lo_rY n A (lo_e y)) (fun z => lo_mt b.1 z) 2401]
  refine (lo_c_z _ _ (fun r hr g => ?_) (fun r hr g => ?_)).symm
  · refine lo_dec (Iff.trans (hM r hr) ?_)
    rw [hG2 r hr]
    exact lo_met_iff D h hr g
  · refine decide_eq_false (fun q => ?_)
    have q2 := (hG2 r hr).mp ((hM r hr).mp q).1
    rw [lo_rX_no D g] at q2
    exact absurd q2 (by decide)
theorem lo_me_eq (D : lo_D n L T H A) (h : lo_Rr n a b) (hG : ∀ r, r < 4096 → G r = lo_b (lo_rX n L T H r)) {x : Nat} (hx : x < 4096) (gx : lo_g x = true) :
    lo_me a.1 G x = lo_my b.1 (lo_ls (fun y => lo_rY n A (lo_e y)) 2401).2 (lo_ls (fun y => lo_rY n A (lo_e y)) 2401).1 (lo_y x) := by
  unfold lo_me lo_my
  rw [← (h.1 x hx gx).1]
  have e1 : lo_ms (fun r => decide (G r ≠ 0)) x = lo_ms (lo_rX n L T H) x := by
    refine lo_any_congr _ _ 16 0 (fun k _ _ => ?_)
    show decide (G (lo_na x k) ≠ 0) = lo_rX n L T H (lo_na x k)
    rw [hG _ (lo_na_d x k).1, lo_bd]
  rw [e1]
  refine congrArg (fun q => decide (a.1 x ≠ 0) && q) (lo_beq ?_)
  refine Iff.trans (lo_ms_iff D hx gx) ?_
  refine Iff.trans (lo_ls_ex (fun y => lo_rY n A (lo_e y)) (fun z => lo_mY z (lo_y x)) 2401).symm ?_
  rw [lo_any_iff]
  constructor
  · rintro ⟨j, hj, q⟩
    exact ⟨j, by omega, by omega, q⟩
  · rintro ⟨j, _, hj, q⟩
    exact ⟨j, by omega, q⟩
theorem lo_me_no (D : lo_D n L T H A) (h : lo_Rr n a b) {x : Nat} (hx : x < 4096) (gx : lo_g x = false) : lo_me a.1 G x = false := by
  unfold lo_me
  rw [decide_eq_false (show ¬ (a.1 x ≠ 0) from fun q => q (lo_R0 D h hx gx)), Bool.false_and]
theorem lo_ls_le (G : Nat → Bool) (N : Nat) : (lo_ls G N).1 ≤ N := by
  rw [lo_ls_1]
  exact lo_c_le G N
end
section
variable {n A : Nat → Nat} {mn : Int32} {R W S K C : Nat → Int32}
theorem yw_noNumber {post : Int32 → Prop} (t : Int32) (h1 : t < 0 ∨ nI 7 ≤ t → post 1) (h0 : ∀ j, j < 7 → t = nI j → post 0) :
    wpY_noNumber post (mn, lo_a A, lo_a n, R, W, S, K, C) t := by
  unfold wpY_noNumber
  refine br_c (fun e => h1 (Or.inl e)) (fun e => ?_)
  obtain ⟨j, hj, rfl⟩ := nI_of e
  exact pk_le j 6 (fun e4 => h0 j (by omega) rfl) (fun e4 => h1 (Or.inr (nI_le (by omega) hj))) rfl rfl hj (by decide)
theorem yw_reached_bad {post : Int32 → SY → Prop} {p q r s : Int32} (hb : (p < 0 ∨ nI 7 ≤ p) ∨ (q < 0 ∨ nI 7 ≤ q) ∨ (r < 0 ∨ nI 7 ≤ r) ∨ (s < 0 ∨ nI 7 ≤ s))
    (h : post (-1) (mn, lo_a A, lo_a n, R, W, S, K, C)) : wpY_reached post (mn, lo_a A, lo_a n, R, W, S, K, C) p q r s := by
  unfold wpY_reached
  refine yw_noNumber p (fun _ => br_f (by decide) h) (fun i hi e1 => br_t rfl ?_)
  refine yw_noNumber q (fun _ => br_f (by decide) h) (fun j hj e2 => br_t rfl ?_)
  refine yw_noNumber r (fun _ => br_f (by decide) h) (fun k hk e3 => br_t rfl ?_)
  refine yw_noNumber s (fun _ => br_f (by decide) h) (fun l hl e4 => br_t rfl ?_)
  rcases hb with z | z | z | z
  · exact (lo_nr (by decide) z hi e1).elim
  · exact (lo_nr (by decide) z hj e2).elim
  · exact (lo_nr (by decide) z hk e3).elim
  · exact (lo_nr (by decide) z hl e4).elim
theorem lo_ixY (p q r s : Nat) : (((343 * nI p) + (49 * nI q)) + (7 * nI r)) + nI s = nI (p * 343 + q * 49 + r * 7 + s) := by
  rw [show (343 : Int32) = nI 343 from rfl, show (49 : Int32) = nI 49 from rfl, show (7 : Int32) = nI 7 from rfl, pk_mul, pk_mul, pk_mul, nI_add, nI_add, nI_add]
  exact congrArg nI (by omega)
theorem yw_reached (D : lo_Dy n A S) {post : Int32 → SY → Prop} {p q r s : Nat} (hp : p < 7) (hq : q < 7) (hr : r < 7) (hs : s < 7)
    (h : ∀ b, lo_I0 2401 b → post (lo_b (decide ((lo_ex (lo_gY n A) lo_q b 2401).1 (p * 343 + q * 49 + r * 7 + s) ≠ 0))) (mn, lo_a A, lo_a n, (lo_ex (lo_gY n A) lo_q b 2401).1, (lo_ex (lo_gY n A) lo_q b 2401).2, S, K, C)) :
    wpY_reached post (mn, lo_a A, lo_a n, R, W, S, K, C) (nI p) (nI q) (nI r) (nI s) := by
  unfold wpY_reached
  have hlt := (lo_dig7 hp hq hr hs).1
  refine yw_noNumber (nI p) (fun z => (lo_nr (by decide) z hp rfl).elim) (fun _ _ _ => br_t rfl ?_)
  refine yw_noNumber (nI q) (fun z => (lo_nr (by decide) z hq rfl).elim) (fun _ _ _ => br_t rfl ?_)
  refine yw_noNumber (nI r) (fun z => (lo_nr (by decide) z hr rfl).elim) (fun _ _ _ => br_t rfl ?_)
  refine yw_noNumber (nI s) (fun z => (lo_nr (by decide) z hs rfl).elim) (fun _ _ _ => br_t rfl ?_)
  refine yw_work D (fun b hb => ?_)
  have h1 := h b hb
  try dsimp only
  rw [lo_ixY]
  refine ⟨pk_in (p * 343 + q * 49 + r * 7 + s) 2401 hlt, ?_⟩
  rw [nI_clamp (show p * 343 + q * 49 + r * 7 + s < 2 ^ 31 by omega)]
  refine br_c (fun e => ?_) (fun e => ?_)
  · rw [decide_eq_false (fun q => q e)] at h1; exact h1
  · rw [decide_eq_true e] at h1; exact h1
end
