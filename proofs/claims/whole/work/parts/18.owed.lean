/-! what is owed of the questions -/
theorem i_vc_states {k : Nat} {u : SX} {v : SY} (I : i_Rel k u v) (hk : k + 5 ≤ 2560) : wpX_states (fun r u' => wpY_states (fun r' v' => r' = r ∧ i_Rel (k + 5) u' v') v) u := by
  obtain ⟨n, L, T, H, A, R, W, G, M, mn, R', W', S, K, C, rfl, rfl, D, hS⟩ := I
  unfold wpX_states
  refine xw_explore (lo_DX D) (fun a ha => ?_)
  refine ⟨4097, xw_cnt1 (fun x => decide ((lo_ex (lo_gX n L T H) lo_p a 4096).1 x ≠ 0)) (fun _ _ => rfl) ?_⟩
  unfold wpY_states
  refine yw_work (lo_DY D hS) (fun b hb => ?_)
  refine ⟨2402, yw_cnt1 (fun x => decide ((lo_ex (lo_gY n A) lo_q b 2401).1 x ≠ 0)) (fun _ _ => rfl) ⟨?_, lo_rel D hS⟩⟩
  exact congrArg nI (lo_R_c D (lo_go_rel D ha hb))
theorem i_vc_stuck {k : Nat} {u : SX} {v : SY} (I : i_Rel k u v) (hk : k + 5 ≤ 2560) : wpX_stuck (fun r u' => wpY_stuck (fun r' v' => r' = r ∧ i_Rel (k + 5) u' v') v) u := by
  obtain ⟨n, L, T, H, A, R, W, G, M, mn, R', W', S, K, C, rfl, rfl, D, hS⟩ := I
  have Dy := lo_DY D hS
  unfold wpX_stuck
  refine xw_explore (lo_DX D) (fun a ha => ?_)
  refine ⟨4097, xw_cnt4 (lo_DX D) ?_⟩
  unfold wpY_stuck
  refine yw_work Dy (fun b hb => ?_)
  refine yw_last Dy ?_
  refine ⟨2402, yw_cnt4 Dy (lo_ex_iY D.1 (lo_I0_iY hb) 2401 (Nat.le_refl _)) (lo_fnY D.1).1 ⟨?_, lo_rel D hS⟩⟩
  exact congrArg nI (lo_sk_c D (lo_go_rel D ha hb))
theorem i_vc_stuckAt {k : Nat} {u : SX} {v : SY} (I : i_Rel k u v) (hk : k + 5 ≤ 2560) (v1 : Int32) (v2 : Int32) : wpX_stuckAt (fun r u' => wpY_stuckAt (fun r' v' => r' = r ∧ i_Rel (k + 5) u' v') v v1 v2) u v1 v2 := by
  obtain ⟨n, L, T, H, A, R, W, G, M, mn, R', W', S, K, C, rfl, rfl, D, hS⟩ := I
  have Dy := lo_DY D hS
  unfold wpX_stuckAt
  refine xw_isThread v2 (fun hb => br_t rfl ?_) (fun t ht et => br_f (by decide) ?_)
  · unfold wpY_stuckAt
    refine br_c (fun _ => ⟨rfl, lo_rel D hS⟩) (fun e => ?_)
    obtain ⟨j, hj, ej⟩ := nI_of e
    subst ej
    refine pk_le j 3 (fun e2 => ?_) (fun e2 => ⟨rfl, lo_rel D hS⟩) rfl rfl hj (by decide)
    exact (lo_nr (i := j) (by decide) hb (by omega) rfl).elim
  · subst et
    refine xw_explore (lo_DX D) (fun a ha => ?_)
    refine ⟨4097, xw_at (lo_DX D) v1 ht ?_⟩
    unfold wpY_stuckAt
    refine br_f (nI_pos (by omega)) (br_t (nI_le (b := 3) (by omega) (by decide)) ?_)
    refine yw_work Dy (fun b hb => ?_)
    refine yw_last Dy ?_
    refine ⟨2402, yw_at Dy (lo_ex_iY D.1 (lo_I0_iY hb) 2401 (Nat.le_refl _)) v1 ht (lo_fnY D.1).1 ⟨?_, lo_rel D hS⟩⟩
    exact congrArg lo_an (lo_sk_fo D (lo_go_rel D ha hb) v1 ht)
theorem i_vc_canFinish {k : Nat} {u : SX} {v : SY} (I : i_Rel k u v) (hk : k + 5 ≤ 2560) : wpX_canFinish (fun r u' => wpY_canFinish (fun r' v' => r' = r ∧ i_Rel (k + 5) u' v') v) u := by
  obtain ⟨n, L, T, H, A, R, W, G, M, mn, R', W', S, K, C, rfl, rfl, D, hS⟩ := I
  have Dy := lo_DY D hS
  have hX := (lo_fnX D.1).1
  have hY := (lo_fnY D.1).1
  unfold wpX_canFinish
  refine xw_explore (lo_DX D) (fun a ha => ?_)
  refine xw_fin ?_
  refine ⟨pk_in (lo_fn n lo_p) 4096 hX, ?_⟩
  rw [nI_clamp (show lo_fn n lo_p < 2 ^ 31 by omega)]
  refine br_c (fun e => ?_) (fun e => ?_)
  · unfold wpY_canFinish
    refine yw_work Dy (fun b hb => ?_)
    refine yw_last Dy ?_
    refine ⟨pk_in (lo_fn n lo_q) 2401 hY, ?_⟩
    rw [nI_clamp (show lo_fn n lo_q < 2 ^ 31 by omega)]
    exact br_t (by rw [(lo_fin D (lo_go_rel D ha hb)).1]; exact e) ⟨rfl, lo_rel D hS⟩
  · unfold wpY_canFinish
    refine yw_work Dy (fun b hb => ?_)
    refine yw_last Dy ?_
    refine ⟨pk_in (lo_fn n lo_q) 2401 hY, ?_⟩
    rw [nI_clamp (show lo_fn n lo_q < 2 ^ 31 by omega)]
    exact br_f (by rw [(lo_fin D (lo_go_rel D ha hb)).1]; exact e) ⟨rfl, lo_rel D hS⟩
theorem i_vc_reached {k : Nat} {u : SX} {v : SY} (I : i_Rel k u v) (hk : k + 5 ≤ 2560) (v1 : Int32) (v2 : Int32) (v3 : Int32) (v4 : Int32) : wpX_reached (fun r u' => wpY_reached (fun r' v' => r' = r ∧ i_Rel (k + 5) u' v') v v1 v2 v3 v4) u v1 v2 v3 v4 := by
  obtain ⟨n, L, T, H, A, R, W, G, M, mn, R', W', S, K, C, rfl, rfl, D, hS⟩ := I
  have Dy := lo_DY D hS
  unfold wpX_reached
  refine xw_isCount v1 (fun hb => br_t rfl (yw_reached_bad (Or.inl hb) ⟨rfl, lo_rel D hS⟩)) (fun p hp ep => br_f (by decide) ?_)
  refine xw_isCount v2 (fun hb => br_t rfl (yw_reached_bad (Or.inr (Or.inl hb)) ⟨rfl, lo_rel D hS⟩)) (fun q hq eq => br_f (by decide) ?_)
  refine xw_isCount v3 (fun hb => br_t rfl (yw_reached_bad (Or.inr (Or.inr (Or.inl hb))) ⟨rfl, lo_rel D hS⟩)) (fun r hr er => br_f (by decide) ?_)
  refine xw_isCount v4 (fun hb => br_t rfl (yw_reached_bad (Or.inr (Or.inr (Or.inr hb))) ⟨rfl, lo_rel D hS⟩)) (fun s hs es => br_f (by decide) ?_)
  subst ep eq er es
  obtain ⟨hX, d0, d1, d2, d3⟩ := lo_dig (a := p) (b := q) (c := r) (d := s) (by omega) (by omega) (by omega) (by omega)
  obtain ⟨hY, e0, e1, e2, e3⟩ := lo_dig7 hp hq hr hs
  have gX : lo_g (p * 512 + q * 64 + r * 8 + s) = true := lo_g_of (lo_4 (by rw [d0]; omega) (by rw [d1]; omega) (by rw [d2]; omega) (by rw [d3]; omega))
  have ey : lo_y (p * 512 + q * 64 + r * 8 + s) = p * 343 + q * 49 + r * 7 + s :=
    lo_e_inj (lo_y_lt hX gX) hY (lo_4 (by rw [lo_y_e hX gX 0 (by decide), d0, e0]) (by rw [lo_y_e hX gX 1 (by decide), d1, e1]) (by rw [lo_y_e hX gX 2 (by decide), d2, e2]) (by rw [lo_y_e hX gX 3 (by decide), d3, e3]))
  refine xw_explore (lo_DX D) (fun a ha => ?_)
  refine xw_oneBy (t := 0) (by decide) ?_
  refine xw_oneBy (t := 1) (by decide) ?_
  refine xw_oneBy (t := 2) (by decide) ?_
  refine xw_oneBy (t := 3) (by decide) ?_
  refine nm_r (e' := nI (p * 512 + q * 64 + r * 8 + s)) ?_ ?_
  · rw [pk_mul, pk_mul, pk_mul, pk_mul, nI_add, nI_add, nI_add]
    show nI (p * 512 + q * 64 + r * 8 + s * 1) = _
    rw [Nat.mul_one]
  · refine ⟨pk_in (p * 512 + q * 64 + r * 8 + s) 4096 hX, ?_⟩
    rw [nI_clamp (show p * 512 + q * 64 + r * 8 + s < 2 ^ 31 by omega)]
    refine br_c (fun e => ?_) (fun e => ?_)
    · refine yw_reached Dy hp hq hr hs (fun b hb => ⟨?_, lo_rel D hS⟩)
      have hh := ((lo_go_rel D ha hb).1 _ hX gX).1
      rw [ey] at hh
      rw [← hh, decide_eq_false (fun z => z e)]
      rfl
    · refine yw_reached Dy hp hq hr hs (fun b hb => ⟨?_, lo_rel D hS⟩)
      have hh := ((lo_go_rel D ha hb).1 _ hX gX).1
      rw [ey] at hh
      rw [← hh, decide_eq_true e]
      rfl
theorem i_vc_ways {k : Nat} {u : SX} {v : SY} (I : i_Rel k u v) (hk : k + 5 ≤ 2560) : wpX_ways (fun r u' => wpY_ways (fun r' v' => r' = r ∧ i_Rel (k + 5) u' v') v) u := by
  obtain ⟨n, L, T, H, A, R, W, G, M, mn, R', W', S, K, C, rfl, rfl, D, hS⟩ := I
  have Dy := lo_DY D hS
  have hX := (lo_fnX D.1).1
  have hY := (lo_fnY D.1).1
  unfold wpX_ways
  refine xw_explore (lo_DX D) (fun a ha => ?_)
  refine xw_fin ?_
  refine ⟨pk_in (lo_fn n lo_p) 4096 hX, ?_⟩
  rw [nI_clamp (show lo_fn n lo_p < 2 ^ 31 by omega)]
  unfold wpY_ways
  refine yw_work Dy (fun b hb => ?_)
  refine yw_last Dy ?_
  refine ⟨pk_in (lo_fn n lo_q) 2401 hY, ?_⟩
  rw [nI_clamp (show lo_fn n lo_q < 2 ^ 31 by omega)]
  exact ⟨(lo_fin D (lo_go_rel D ha hb)).2, lo_rel D hS⟩
theorem i_vc_rings {k : Nat} {u : SX} {v : SY} (I : i_Rel k u v) (hk : k + 5 ≤ 2560) : wpX_rings (fun r u' => wpY_rings (fun r' v' => r' = r ∧ i_Rel (k + 5) u' v') v) u := by
  obtain ⟨n, L, T, H, A, R, W, G, M, mn, R', W', S, K, C, rfl, rfl, D, hS⟩ := I
  unfold wpX_rings
  refine xw_findRings (lo_DX D) (fun G' hG => ?_)
  refine ⟨4097, xw_cnt2 (fun r => lo_rX n L T H r) (fun r hr => by rw [hG r hr, lo_bd]) ?_⟩
  unfold wpY_rings
  refine yw_findRings (lo_DY D hS) (fun K' C' hK => ?_)
  exact ⟨congrArg nI (lo_rg_c D), lo_rel D hS⟩
theorem i_vc_ringsMet {k : Nat} {u : SX} {v : SY} (I : i_Rel k u v) (hk : k + 5 ≤ 2560) : wpX_ringsMet (fun r u' => wpY_ringsMet (fun r' v' => r' = r ∧ i_Rel (k + 5) u' v') v) u := by
  obtain ⟨n, L, T, H, A, R, W, G, M, mn, R', W', S, K, C, rfl, rfl, D, hS⟩ := I
  have Dy := lo_DY D hS
  unfold wpX_ringsMet
  refine xw_explore (lo_DX D) (fun a ha => ?_)
  refine xw_findRings (lo_DX D) (fun G' hG => ?_)
  refine xw_findMet (fun M' hM => ?_)
  refine ⟨4097, xw_cnt3 (fun r => decide (M' r ≠ 0)) (fun _ _ => rfl) ?_⟩
  unfold wpY_ringsMet
  refine yw_findRings Dy (fun K' C' hK => ?_)
  refine yw_work Dy (fun b hb => ?_)
  refine ⟨_, yw_cnt3 Dy (lo_ls_le _ 2401) hK (lo_ls_lt _ 2401) ⟨?_, lo_rel D hS⟩⟩
  exact congrArg nI (lo_met_c D (lo_go_rel D ha hb) hG hM)
theorem i_vc_statesMet {k : Nat} {u : SX} {v : SY} (I : i_Rel k u v) (hk : k + 5 ≤ 2560) : wpX_statesMet (fun r u' => wpY_statesMet (fun r' v' => r' = r ∧ i_Rel (k + 5) u' v') v) u := by
  obtain ⟨n, L, T, H, A, R, W, G, M, mn, R', W', S, K, C, rfl, rfl, D, hS⟩ := I
  have Dy := lo_DY D hS
  unfold wpX_statesMet
  refine xw_explore (lo_DX D) (fun a ha => ?_)
  refine xw_findRings (lo_DX D) (fun G' hG => ?_)
  refine ⟨4097, xw_cnt5 ?_⟩
  unfold wpY_statesMet
  refine yw_findRings Dy (fun K' C' hK => ?_)
  refine yw_work Dy (fun b hb => ?_)
  refine ⟨2402, yw_cnt5 Dy (lo_ls_le _ 2401) hK (lo_ls_lt _ 2401) ⟨?_, lo_rel D hS⟩⟩
  have h := lo_go_rel D ha hb
  exact congrArg nI (lo_c_y _ _ (fun x hx gx => lo_me_eq D h hG hx gx) (fun x hx gx => lo_me_no D h hx gx)).symm
theorem i_vc_soonest {k : Nat} {u : SX} {v : SY} (I : i_Rel k u v) (hk : k + 5 ≤ 2560) : wpX_soonest (fun r u' => wpY_soonest (fun r' v' => r' = r ∧ i_Rel (k + 5) u' v') v) u := by
  obtain ⟨n, L, T, H, A, R, W, G, M, mn, R', W', S, K, C, rfl, rfl, D, hS⟩ := I
  have Dy := lo_DY D hS
  unfold wpX_soonest
  refine xw_explore (lo_DX D) (fun a ha => ?_)
  refine xw_findRings (lo_DX D) (fun G' hG => ?_)
  refine ⟨4097, xw_soon ?_⟩
  unfold wpY_soonest
  refine yw_findRings Dy (fun K' C' hK => ?_)
  refine yw_work Dy (fun b hb => ?_)
  have h := lo_go_rel D ha hb
  have hso := lo_so_ans (lo_so_rel (fun x => lo_me (lo_ex (lo_gX n L T H) lo_p a 4096).1 G' x) (fun y => lo_my (lo_ex (lo_gY n A) lo_q b 2401).1 (lo_ls (fun y => lo_rY n A (lo_e y)) 2401).2 (lo_ls (fun y => lo_rY n A (lo_e y)) 2401).1 y) (fun x hx gx => lo_me_eq D h hG hx gx) (fun x hx gx => lo_me_no D h hx gx))
  exact ⟨2402, yw_soon Dy (lo_ls_le _ 2401) hK (lo_ls_lt _ 2401) (fun e => ⟨(hso.1 e).symm, lo_rel D hS⟩) (fun e => ⟨(hso.2 e).symm, lo_rel D hS⟩)⟩
