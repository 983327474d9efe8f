theorem i_vc_today {k : Nat} {u : SX} {v : SY} (I : i_Rel k u v) (hk : k + 4 ≤ 2049) : wpX_today (fun r => wpY_today (fun r' => r' = r ∧ i_Rel (k + 4) u v) v) u := by
  obtain ⟨A, T, N, D, P, E, bl, mk, kd, pv, qo, ic, xn, xw, nw, py, pe, am, rl, rf, st, e1, e2, e3, e4, e5, rfl, rfl, G⟩ := I
  exact ⟨rfl, cx_rel _ G⟩
theorem i_vc_nodes {k : Nat} {u : SX} {v : SY} (I : i_Rel k u v) (hk : k + 4 ≤ 2049) : wpX_nodes (fun r => wpY_nodes (fun r' => r' = r ∧ i_Rel (k + 4) u v) v) u := by
  obtain ⟨A, T, N, D, P, E, bl, mk, kd, pv, qo, ic, xn, xw, nw, py, pe, am, rl, rf, st, e1, e2, e3, e4, e5, rfl, rfl, G⟩ := I
  exact ⟨rfl, cx_rel _ G⟩
theorem i_vc_deals {k : Nat} {u : SX} {v : SY} (I : i_Rel k u v) (hk : k + 4 ≤ 2049) : wpX_deals (fun r => wpY_deals (fun r' => r' = r ∧ i_Rel (k + 4) u v) v) u := by
  obtain ⟨A, T, N, D, P, E, bl, mk, kd, pv, qo, ic, xn, xw, nw, py, pe, am, rl, rf, st, e1, e2, e3, e4, e5, rfl, rfl, G⟩ := I
  exact ⟨rfl, cx_rel _ G⟩
theorem i_vc_entries {k : Nat} {u : SX} {v : SY} (I : i_Rel k u v) (hk : k + 4 ≤ 2049) : wpX_entries (fun r => wpY_entries (fun r' => r' = r ∧ i_Rel (k + 4) u v) v) u := by
  obtain ⟨A, T, N, D, P, E, bl, mk, kd, pv, qo, ic, xn, xw, nw, py, pe, am, rl, rf, st, e1, e2, e3, e4, e5, rfl, rfl, G⟩ := I
  exact ⟨rfl, cx_rel _ G⟩
theorem i_vc_state {k : Nat} {u : SX} {v : SY} (I : i_Rel k u v) (hk : k + 4 ≤ 2049) (v1 : Int32) : wpX_state (fun r => wpY_state (fun r' => r' = r ∧ i_Rel (k + 4) u v) v v1) u v1 := by
  obtain ⟨A, T, N, D, P, E, bl, mk, kd, pv, qo, ic, xn, xw, nw, py, pe, am, rl, rf, st, e1, e2, e3, e4, e5, rfl, rfl, G⟩ := I
  have gC : D ≤ 12 := G.2.2.2.1
  unfold wpX_state
  rcases cq_ix v1 (n := D) (by omega) with h | ⟨d, hd, rfl⟩
  · refine cq_xDeal_no h (br_t rfl ?_)
    unfold wpY_state
    exact cq_yDeal_no h (br_f cx_10 ⟨rfl, cx_rel _ G⟩)
  · have pd : vp_in (nI d) 12 := vp_in_nI (by omega) (by omega)
    refine cq_xDeal_ok hd gC (br_f cx_10 ⟨pd, ?_⟩)
    unfold wpY_state
    exact cq_yDeal_ok hd gC (br_t rfl ⟨pd, rfl, cx_rel _ G⟩)
theorem i_vc_balance {k : Nat} {u : SX} {v : SY} (I : i_Rel k u v) (hk : k + 4 ≤ 2049) (v1 : Int32) : wpX_balance (fun r => wpY_balance (fun r' => r' = r ∧ i_Rel (k + 4) u v) v v1) u v1 := by
  obtain ⟨A, T, N, D, P, E, bl, mk, kd, pv, qo, ic, xn, xw, nw, py, pe, am, rl, rf, st, e1, e2, e3, e4, e5, rfl, rfl, G⟩ := I
  have gC : A ≤ 6 := G.1.2
  unfold wpX_balance
  rcases cq_ix v1 (n := A) (by omega) with h | ⟨d, hd, rfl⟩
  · refine cq_xAccount_no h (br_t rfl ?_)
    unfold wpY_balance
    exact cq_yAccount_no h (br_f cx_10 ⟨rfl, cx_rel _ G⟩)
  · have pd : vp_in (nI d) 6 := vp_in_nI (by omega) (by omega)
    refine cq_xAccount_ok hd gC (br_f cx_10 ⟨pd, ?_⟩)
    unfold wpY_balance
    exact cq_yAccount_ok hd gC (br_t rfl ⟨pd, rfl, cx_rel _ G⟩)
theorem cq_E {A T N D P E : Nat} {mk kd pv qo ic xn py pe rl rf st : Nat → Int32} (G : cx_G A T N D P E mk kd pv qo ic xn py pe rl rf st) : E ≤ 64 := by
  obtain ⟨gA, gT, gN, gD, gP, gE, HN, HD⟩ := G
  have := cx_rs_le st D
  omega
theorem i_vc_entryKind {k : Nat} {u : SX} {v : SY} (I : i_Rel k u v) (hk : k + 4 ≤ 2049) (v1 : Int32) : wpX_entryKind (fun r => wpY_entryKind (fun r' => r' = r ∧ i_Rel (k + 4) u v) v v1) u v1 := by
  obtain ⟨A, T, N, D, P, E, bl, mk, kd, pv, qo, ic, xn, xw, nw, py, pe, am, rl, rf, st, e1, e2, e3, e4, e5, rfl, rfl, G⟩ := I
  have gC := cq_E G
  unfold wpX_entryKind
  rcases cq_ix v1 (n := E) (by omega) with h | ⟨d, hd, rfl⟩
  · refine cq_xEntry_no h (br_t rfl ?_)
    unfold wpY_entryKind
    exact cq_yEntry_no h (br_f cx_10 ⟨rfl, cx_rel _ G⟩)
  · have pd : vp_in (nI d) 64 := vp_in_nI (by omega) (by omega)
    refine cq_xEntry_ok hd gC (br_f cx_10 ⟨pd, ?_⟩)
    unfold wpY_entryKind
    exact cq_yEntry_ok hd gC (br_t rfl ⟨pd, rfl, cx_rel _ G⟩)
theorem i_vc_entryAccount {k : Nat} {u : SX} {v : SY} (I : i_Rel k u v) (hk : k + 4 ≤ 2049) (v1 : Int32) : wpX_entryAccount (fun r => wpY_entryAccount (fun r' => r' = r ∧ i_Rel (k + 4) u v) v v1) u v1 := by
  obtain ⟨A, T, N, D, P, E, bl, mk, kd, pv, qo, ic, xn, xw, nw, py, pe, am, rl, rf, st, e1, e2, e3, e4, e5, rfl, rfl, G⟩ := I
  have gC := cq_E G
  unfold wpX_entryAccount
  rcases cq_ix v1 (n := E) (by omega) with h | ⟨d, hd, rfl⟩
  · refine cq_xEntry_no h (br_t rfl ?_)
    unfold wpY_entryAccount
    exact cq_yEntry_no h (br_f cx_10 ⟨rfl, cx_rel _ G⟩)
  · have pd : vp_in (nI d) 64 := vp_in_nI (by omega) (by omega)
    refine cq_xEntry_ok hd gC (br_f cx_10 ⟨pd, ?_⟩)
    unfold wpY_entryAccount
    exact cq_yEntry_ok hd gC (br_t rfl ⟨pd, rfl, cx_rel _ G⟩)
theorem i_vc_entryAmount {k : Nat} {u : SX} {v : SY} (I : i_Rel k u v) (hk : k + 4 ≤ 2049) (v1 : Int32) : wpX_entryAmount (fun r => wpY_entryAmount (fun r' => r' = r ∧ i_Rel (k + 4) u v) v v1) u v1 := by
  obtain ⟨A, T, N, D, P, E, bl, mk, kd, pv, qo, ic, xn, xw, nw, py, pe, am, rl, rf, st, e1, e2, e3, e4, e5, rfl, rfl, G⟩ := I
  have gC := cq_E G
  unfold wpX_entryAmount
  rcases cq_ix v1 (n := E) (by omega) with h | ⟨d, hd, rfl⟩
  · refine cq_xEntry_no h (br_t rfl ?_)
    unfold wpY_entryAmount
    exact cq_yEntry_no h (br_f cx_10 ⟨rfl, cx_rel _ G⟩)
  · have pd : vp_in (nI d) 64 := vp_in_nI (by omega) (by omega)
    refine cq_xEntry_ok hd gC (br_f cx_10 ⟨pd, ?_⟩)
    unfold wpY_entryAmount
    exact cq_yEntry_ok hd gC (br_t rfl ⟨pd, rfl, cx_rel _ G⟩)
theorem i_vc_entryDeal {k : Nat} {u : SX} {v : SY} (I : i_Rel k u v) (hk : k + 4 ≤ 2049) (v1 : Int32) : wpX_entryDeal (fun r => wpY_entryDeal (fun r' => r' = r ∧ i_Rel (k + 4) u v) v v1) u v1 := by
  obtain ⟨A, T, N, D, P, E, bl, mk, kd, pv, qo, ic, xn, xw, nw, py, pe, am, rl, rf, st, e1, e2, e3, e4, e5, rfl, rfl, G⟩ := I
  have gC := cq_E G
  unfold wpX_entryDeal
  rcases cq_ix v1 (n := E) (by omega) with h | ⟨d, hd, rfl⟩
  · refine cq_xEntry_no h (br_t rfl ?_)
    unfold wpY_entryDeal
    exact cq_yEntry_no h (br_f cx_10 ⟨rfl, cx_rel _ G⟩)
  · have pd : vp_in (nI d) 64 := vp_in_nI (by omega) (by omega)
    refine cq_xEntry_ok hd gC (br_f cx_10 ⟨pd, ?_⟩)
    unfold wpY_entryDeal
    exact cq_yEntry_ok hd gC (br_t rfl ⟨pd, rfl, cx_rel _ G⟩)
theorem i_vc_entryDay {k : Nat} {u : SX} {v : SY} (I : i_Rel k u v) (hk : k + 4 ≤ 2049) (v1 : Int32) : wpX_entryDay (fun r => wpY_entryDay (fun r' => r' = r ∧ i_Rel (k + 4) u v) v v1) u v1 := by
  obtain ⟨A, T, N, D, P, E, bl, mk, kd, pv, qo, ic, xn, xw, nw, py, pe, am, rl, rf, st, e1, e2, e3, e4, e5, rfl, rfl, G⟩ := I
  have gC := cq_E G
  unfold wpX_entryDay
  rcases cq_ix v1 (n := E) (by omega) with h | ⟨d, hd, rfl⟩
  · refine cq_xEntry_no h (br_t rfl ?_)
    unfold wpY_entryDay
    exact cq_yEntry_no h (br_f cx_10 ⟨rfl, cx_rel _ G⟩)
  · have pd : vp_in (nI d) 64 := vp_in_nI (by omega) (by omega)
    refine cq_xEntry_ok hd gC (br_f cx_10 ⟨pd, ?_⟩)
    unfold wpY_entryDay
    exact cq_yEntry_ok hd gC (br_t rfl ⟨pd, rfl, cx_rel _ G⟩)
theorem i_vc_truth {k : Nat} {u : SX} {v : SY} (I : i_Rel k u v) (hk : k + 4 ≤ 2049) (v1 : Int32) : wpX_truth (fun r => wpY_truth (fun r' v' => r' = r ∧ i_Rel (k + 4) u v') v v1) u v1 := by
  obtain ⟨A, T, N, D, P, E, bl, mk, kd, pv, qo, ic, xn, xw, nw, py, pe, am, rl, rf, st, e1, e2, e3, e4, e5, rfl, rfl, G⟩ := I
  have gN : N ≤ 24 := G.2.2.1
  have HN := G.2.2.2.2.2.2.1
  unfold wpX_truth
  rcases cq_ix v1 (n := N) (by omega) with h | ⟨j, hj, rfl⟩
  · refine cq_xNode_no h (br_t rfl ?_)
    unfold wpY_truth
    exact cq_yNode_no h (br_f cx_10 ⟨rfl, cx_rel _ G⟩)
  · have pj : vp_in (nI j) 24 := vp_in_nI (by omega) (by omega)
    obtain ⟨t, nw', hT, tX, tY⟩ := cw_all (A := A) (T := T) (D := D) (P := P) (E := E) (bl := bl) (xw := xw) (nw := nw) (py := py) (pe := pe) (am := am) (rl := rl) (rf := rf) (st := st) (e1 := e1) (e2 := e2) (e3 := e3) (e4 := e4) (e5 := e5) (nI T) gN HN
    rcases hT j hj with ⟨hb, hn⟩ | ⟨hb, hn⟩
    · have hn' : ¬ nw' (nI j).toNatClampNeg = 0 := by rw [cx_cl (by omega)]; exact hn
      refine cq_xNode_ok hj gN (br_f cx_10 (tX _ (br_t (cx_bt1 (by omega) hb) (br_f cx_10 ?_))))
      unfold wpY_truth
      exact cq_yNode_ok hj gN (br_t rfl (tY _ ⟨pj, br_f hn' ⟨rfl, cx_rel _ G⟩⟩))
    · have hn' : nw' (nI j).toNatClampNeg = 0 := by rw [cx_cl (by omega)]; exact hn
      refine cq_xNode_ok hj gN (br_f cx_10 (tX _ (br_f (cx_bt0 (by omega) hb) (br_t rfl ?_))))
      unfold wpY_truth
      exact cq_yNode_ok hj gN (br_t rfl (tY _ ⟨pj, br_t hn' ⟨rfl, cx_rel _ G⟩⟩))
theorem i_vc_score {k : Nat} {u : SX} {v : SY} (I : i_Rel k u v) (hk : k + 4 ≤ 2049) (v1 : Int32) : wpX_score (fun r => wpY_score (fun r' v' => r' = r ∧ i_Rel (k + 4) u v') v v1) u v1 := by
  obtain ⟨A, T, N, D, P, E, bl, mk, kd, pv, qo, ic, xn, xw, nw, py, pe, am, rl, rf, st, e1, e2, e3, e4, e5, rfl, rfl, G⟩ := I
  have gN : N ≤ 24 := G.2.2.1
  have HN := G.2.2.2.2.2.2.1
  unfold wpX_score wpX_isGate
  rcases cq_ix v1 (n := N) (by omega) with h | ⟨g, hg, rfl⟩
  · refine cq_xNode_no h (br_t rfl (br_t rfl ?_))
    unfold wpY_score
    exact cq_yNode_no h (br_f cx_10 ⟨rfl, cx_rel _ G⟩)
  · have pg : vp_in (nI g) 24 := vp_in_nI (by omega) (by omega)
    have ekd : kd (nI g).toNatClampNeg = kd g := cx_at kd (by omega)
    by_cases k3 : kd g = 3
    · have k3' : kd (nI g).toNatClampNeg = 3 := ekd.trans k3
      obtain ⟨t, nw', hT, tX, tY⟩ := cw_all (A := A) (T := T) (D := D) (P := P) (E := E) (bl := bl) (xw := xw) (nw := nw) (py := py) (pe := pe) (am := am) (rl := rl) (rf := rf) (st := st) (e1 := e1) (e2 := e2) (e3 := e3) (e4 := e4) (e5 := e5) (nI T) gN HN
      obtain ⟨r, sX, sY⟩ := cs_all (A := A) (T := T) (D := D) (P := P) (E := E) (bl := bl) (xw := xw) (nw := nw') (py := py) (pe := pe) (am := am) (rl := rl) (rf := rf) (st := st) (e1 := e1) (e2 := e2) (e3 := e3) (e4 := e4) (e5 := e5) t g hg gN HN (fun j hj => hT j (by omega))
      refine cq_xNode_ok hg gN (br_f cx_10 ⟨pg, br_t k3' (br_f cx_10 (tX _ (sX _ ?_)))⟩)
      unfold wpY_score
      exact cq_yNode_ok hg gN (br_t rfl ⟨pg, br_t k3' (tY _ (sY _ ⟨rfl, cx_rel _ G⟩))⟩)
    · have k3' : ¬ kd (nI g).toNatClampNeg = 3 := by rw [ekd]; exact k3
      refine cq_xNode_ok hg gN (br_f cx_10 ⟨pg, br_f k3' (br_t rfl ?_)⟩)
      unfold wpY_score
      exact cq_yNode_ok hg gN (br_t rfl ⟨pg, br_f k3' ⟨rfl, cx_rel _ G⟩⟩)
