/-- the days ahead -/
theorem cg_loop {A T N D P E : Nat} {bl mk kd pv qo ic xn xw py pe am rl rf st e1 e2 e3 e4 e5 : Nat → Int32} (m : Nat) (hm : m < N) (hN : N ≤ 24) (hT : T ≤ 2000) (HN : cx_N N mk kd pv qo ic xn) : ∀ (f c : Nat) (nw : Nat → Int32), c + f = 201 → ∃ (r : Int32) (nw' : Nat → Int32),
    (∀ post : Int32 → Prop, post r → wX_forecast_27 post (nI m) (nI A) (nI T) (nI N) (nI D) (nI P) (nI E) bl mk kd pv qo ic xn xw py pe am rl rf st e1 e2 e3 e4 e5 (f + 1) (nI c)) ∧
    (∀ post : Int32 → SY → Prop, post r (nI A, nI T, nI N, nI D, nI P, nI E, bl, mk, kd, pv, qo, ic, xn, xw, nw', py, pe, am, rl, rf, st, e1, e2, e3, e4, e5) → wY_forecast_26 post (nI m) (f + 1) (nI c) (nI A) (nI T) (nI N) (nI D) (nI P) (nI E) bl mk kd pv qo ic xn xw nw py pe am rl rf st e1 e2 e3 e4 e5) := by
  have pm : vp_in (nI m) 24 := vp_in_nI (by omega) (by omega)
  intro f
  induction f with
  | zero =>
    intro c nw hc
    have h : (200 : Int32) < nI c := nI_lt (a := 200) (by omega) (by omega)
    exact ⟨-3, nw, fun post hp => br_t h hp, fun post hp => br_t h hp⟩
  | succ f ih =>
    intro c nw hc
    have h : ¬ (200 : Int32) < nI c := nI_nlt (b := c) (a := 200) (by omega) (by decide)
    obtain ⟨t, nw', hT', tX, tY⟩ := cw_all (A := A) (T := T) (D := D) (P := P) (E := E) (bl := bl) (xw := xw) (nw := nw) (py := py) (pe := pe) (am := am) (rl := rl) (rf := rf) (st := st) (e1 := e1) (e2 := e2) (e3 := e3) (e4 := e4) (e5 := e5) (nI T + nI c) hN HN
    rcases hT' m hm with ⟨hb, hn⟩ | ⟨hb, hn⟩
    · have hn' : ¬ nw' (nI m).toNatClampNeg = 0 := by rw [cx_cl (by omega)]; exact hn
      exact ⟨nI T + nI c, nw', fun post hp => br_f h (nm_e (tX _ (br_t (cx_bt1 (by omega) hb) (br_f cx_10 hp)))), fun post hp => br_f h (tY _ ⟨pm, br_f hn' hp⟩)⟩
    · have hn' : nw' (nI m).toNatClampNeg = 0 := by rw [cx_cl (by omega)]; exact hn
      obtain ⟨r, nw2, hX, hY⟩ := ih (c + 1) nw' (by omega)
      exact ⟨r, nw2, fun post hp => br_f h (nm_e (tX _ (br_f (cx_bt0 (by omega) hb) (br_t rfl (nm_r (nI_1 c) (hX post hp)))))), fun post hp => br_f h (tY _ ⟨pm, br_t hn' (nm_r (nI_1 c) (hY post hp))⟩)⟩
theorem i_vc_forecast {k : Nat} {u : SX} {v : SY} (I : i_Rel k u v) (hk : k + 4 ≤ 2049) (v1 : Int32) : wpX_forecast (fun r => wpY_forecast (fun r' v' => r' = r ∧ i_Rel (k + 4) u v') v v1) u v1 := by
  obtain ⟨A, T, N, D, P, E, bl, mk, kd, pv, qo, ic, xn, xw, nw, py, pe, am, rl, rf, st, e1, e2, e3, e4, e5, rfl, rfl, G⟩ := I
  have gN : N ≤ 24 := G.2.2.1
  have gD : D ≤ 12 := G.2.2.2.1
  unfold wpX_forecast
  rcases cq_ix v1 (n := D) (by omega) with h | ⟨d, hd, rfl⟩
  · refine cq_xDeal_no h (br_t rfl ?_)
    unfold wpY_forecast
    exact cq_yDeal_no h (br_f cx_10 ⟨rfl, cx_rel _ G⟩)
  have pd : vp_in (nI d) 12 := vp_in_nI (by omega) (by omega)
  have erl : rl (nI d).toNatClampNeg = rl d := cx_at rl (by omega)
  rcases (G.2.2.2.2.2.2.2 d hd).2.2.1 with hr | ⟨m, hm, hr⟩
  · refine cq_xDeal_ok hd gD (br_f cx_10 ⟨pd, nm_r (erl.trans hr) (br_t rfl ?_)⟩)
    unfold wpY_forecast
    exact cq_yDeal_ok hd gD (br_t rfl ⟨pd, nm_r (erl.trans hr) (br_f (by decide) ⟨rfl, cx_rel _ G⟩)⟩)
  · obtain ⟨r, nw', hX, hY⟩ := cg_loop (A := A) (T := T) (D := D) (P := P) (E := E) (bl := bl) (xw := xw) (py := py) (pe := pe) (am := am) (rl := rl) (rf := rf) (st := st) (e1 := e1) (e2 := e2) (e3 := e3) (e4 := e4) (e5 := e5) m hm gN G.2.1 G.2.2.2.2.2.2.1 201 0 nw (by omega)
    refine cq_xDeal_ok hd gD (br_f cx_10 ⟨pd, nm_r (erl.trans hr) (br_f (cx_m1 (by omega)) ⟨201 + 1, hX _ ?_⟩)⟩)
    unfold wpY_forecast
    exact cq_yDeal_ok hd gD (br_t rfl ⟨pd, nm_r (erl.trans hr) (br_t (nI_pos' (by omega)) ⟨201 + 1, hY _ ⟨rfl, cx_rel _ G⟩⟩)⟩)
