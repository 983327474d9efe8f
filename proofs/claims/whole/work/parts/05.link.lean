theorem cl_G {A T N D P E : Nat} {mk kd pv qo ic xn py pe rl rf st : Nat → Int32} {g c m : Nat} (G : cx_G A T N D P E mk kd pv qo ic xn py pe rl rf st) (hg : g < N) (hc : c < 6) (hi : ic g = nI c) (hm : m < g) : cx_G A T N D P E mk kd pv qo (upd ic g (nI (c + 1))) (upd xn (6 * g + c) (nI m)) py pe rl rf st := by
  obtain ⟨gA, gT, gN, gD, gP, gE, ⟨m1, m2, m3, m4⟩, HD⟩ := G
  refine ⟨gA, gT, gN, gD, gP, gE, ⟨m1, m2, ?_, ?_⟩, HD⟩
  · intro j hj
    obtain ⟨c', hc', hi', hm'⟩ := m3 j hj
    by_cases e : j = g
    · subst e
      have ec : c' = c := (nI_eq (by omega) (by omega)).mp (hi'.symm.trans hi)
      subst ec
      refine ⟨c' + 1, by omega, pk_us, fun k hk => ?_⟩
      by_cases e2 : k = c'
      · subst e2; exact ⟨m, hm, pk_us⟩
      · rw [pk_un (by omega)]; exact hm' k (by omega)
    · rw [pk_un e]
      refine ⟨c', hc', hi', fun k hk => ?_⟩
      rw [pk_un (by omega)]; exact hm' k hk
  · intro j hj
    rw [pk_un (by omega)]; exact m4 j hj
theorem i_vc_link {k : Nat} {u : SX} {v : SY} (I : i_Rel k u v) (hk : k + 4 ≤ 2049) (v1 : Int32) (v2 : Int32) (v3 : Int32) : wpX_link (fun r u' => wpY_link (fun r' v' => r' = r ∧ i_Rel (k + 4) u' v') v v1 v2 v3) u v1 v2 v3 := by
  obtain ⟨A, T, N, D, P, E, bl, mk, kd, pv, qo, ic, xn, xw, nw, py, pe, am, rl, rf, st, e1, e2, e3, e4, e5, rfl, rfl, G⟩ := I
  have gN : N ≤ 24 := G.2.2.1
  have HN := G.2.2.2.2.2.2.1
  unfold wpX_link wpX_isGate
  rcases cq_ix v1 (n := N) (by omega) with h | ⟨g, hg, rfl⟩
  · refine cq_xNode_no h (br_t rfl (br_t rfl ?_))
    unfold wpY_link
    exact cq_yNode_no h (br_f cx_10 ⟨rfl, cx_rel _ G⟩)
  · have pg : vp_in (nI g) 24 := vp_in_nI (by omega) (by omega)
    have ekd : kd (nI g).toNatClampNeg = kd g := cx_at kd (by omega)
    by_cases k3 : kd g = 3
    rotate_left
    · have k3' : ¬ kd (nI g).toNatClampNeg = 3 := by rw [ekd]; exact k3
      refine cq_xNode_ok hg gN (br_f cx_10 ⟨pg, br_f k3' (br_t rfl ?_)⟩)
      unfold wpY_link
      exact cq_yNode_ok hg gN (br_t rfl ⟨pg, br_f k3' ⟨rfl, cx_rel _ G⟩⟩)
    have k3' : kd (nI g).toNatClampNeg = 3 := ekd.trans k3
    refine cq_xNode_ok hg gN (br_f cx_10 ⟨pg, br_t k3' (br_f cx_10 ?_)⟩)
    unfold wpY_link
    by_cases a1 : v2 < 0
    · exact br_t a1 (cq_yNode_ok hg gN (br_t rfl ⟨pg, br_t k3' (br_t a1 ⟨rfl, cx_rel _ G⟩)⟩))
    by_cases a2 : v2 < nI g
    rotate_left
    · exact br_f a1 (br_f a2 (cq_yNode_ok hg gN (br_t rfl ⟨pg, br_t k3' (br_f a1 (br_f a2 ⟨rfl, cx_rel _ G⟩))⟩)))
    by_cases a3 : v3 = 0
    · exact br_f a1 (br_t a2 (br_t a3 (cq_yNode_ok hg gN (br_t rfl ⟨pg, br_t k3' (br_f a1 (br_t a2 (br_t a3 ⟨rfl, cx_rel _ G⟩)))⟩))))
    by_cases a4 : v3 < (-5)
    · exact br_f a1 (br_t a2 (br_f a3 (br_t a4 (cq_yNode_ok hg gN (br_t rfl ⟨pg, br_t k3' (br_f a1 (br_t a2 (br_f a3 (br_t a4 ⟨rfl, cx_rel _ G⟩))))⟩)))))
    by_cases a5 : v3 ≤ 5
    rotate_left
    · exact br_f a1 (br_t a2 (br_f a3 (br_f a4 (br_f a5 (cq_yNode_ok hg gN (br_t rfl ⟨pg, br_t k3' (br_f a1 (br_t a2 (br_f a3 (br_f a4 (br_f a5 ⟨rfl, cx_rel _ G⟩)))))⟩))))))
    obtain ⟨m, hm, rfl⟩ := nI_of a1
    have hmg : m < g := (nI_ltI hm (by omega)).mp a2
    obtain ⟨c, hc, hi, _⟩ := HN.2.2.1 g hg
    have ei : ic (nI g).toNatClampNeg = nI c := (cx_at ic (by omega)).trans hi
    by_cases c6 : c < 6
    rotate_left
    · have a6 : ¬ ic (nI g).toNatClampNeg < 6 := by rw [ei]; exact nI_nlt (b := 6) (by omega) (by omega)
      have a7 : ¬ nI c < (6 : Int32) := nI_nlt (b := 6) (by omega) (by omega)
      exact br_f a1 (br_t a2 (br_f a3 (br_f a4 (br_t a5 ⟨pg, br_f a6 (cq_yNode_ok hg gN (br_t rfl ⟨pg, br_t k3' (br_f a1 (br_t a2 (br_f a3 (br_f a4 (br_t a5 ⟨pg, nm_r ei (br_f a7 ⟨rfl, cx_rel _ G⟩)⟩)))))⟩))⟩))))
    have a6 : ic (nI g).toNatClampNeg < 6 := by rw [ei]; exact nI_lt (b := 6) c6 (by decide)
    have a7 : nI c < (6 : Int32) := nI_lt (b := 6) c6 (by decide)
    have hp : (nI g * 6) + ic (nI g).toNatClampNeg = nI (6 * g + c) := by rw [ei, cx_i6']
    have pp : vp_in (nI (6 * g + c)) 144 := vp_in_nI (by omega) (by omega)
    have pp' : vp_in ((6 : Int32) * nI g + nI c) 144 := by rw [cx_i6]; exact pp
    have uc : upd ic (nI g).toNatClampNeg (ic (nI g).toNatClampNeg + 1) = upd ic g (nI (c + 1)) := by rw [cx_cl (by omega), hi, nI_1]
    have uc' : upd ic (nI g).toNatClampNeg (nI c + 1) = upd ic g (nI (c + 1)) := by rw [cx_cl (by omega), nI_1]
    have un' : upd xn ((6 : Int32) * nI g + nI c).toNatClampNeg (nI m) = upd xn (6 * g + c) (nI m) := by rw [cx_i6, cx_cl (by omega)]
    have uw' : upd xw ((6 : Int32) * nI g + nI c).toNatClampNeg v3 = upd xw (6 * g + c) v3 := by rw [cx_i6, cx_cl (by omega)]
    obtain ⟨r, E', bl', nw', st', e1', e2', e3', e4', e5', G', fX, fY⟩ := cf_settle (bl := bl) (xw := upd xw (6 * g + c) v3) (nw := nw) (am := am) (e1 := e1) (e2 := e2) (e3 := e3) (e4 := e4) (e5 := e5) (cl_G G hg c6 hi hmg)
    refine br_f a1 (br_t a2 (br_f a3 (br_f a4 (br_t a5 ⟨pg, br_t a6 ⟨pg, nm_r hp ⟨pp, nm_r (cx_ud xn _ (by omega)) ⟨pp, nm_r (cx_ud xw _ (by omega)) ⟨pg, pg, nm_r uc (fX _ ?_)⟩⟩⟩⟩⟩))))
    refine cq_yNode_ok hg gN (br_t rfl ⟨pg, br_t k3' (br_f a1 (br_t a2 (br_f a3 (br_f a4 (br_t a5 ⟨pg, nm_r ei (br_t a7 ⟨pp', nm_r un' ⟨pp', nm_r uw' ⟨pg, nm_r uc' (fY _ ?_)⟩⟩⟩)⟩)))))⟩)
    exact ⟨rfl, cx_rel _ G'⟩
theorem ck_G {A T N D P E : Nat} {mk kd pv qo ic xn py pe rl rf st : Nat → Int32} {s : Nat} {b : Int32} (G : cx_G A T N D P E mk kd pv qo ic xn py pe rl rf st) (hb : b = 0 ∨ b = 1) : cx_G A T N D P E (upd mk s b) kd pv qo ic xn py pe rl rf st := by
  obtain ⟨gA, gT, gN, gD, gP, gE, ⟨m1, m2, m3, m4⟩, HD⟩ := G
  refine ⟨gA, gT, gN, gD, gP, gE, ⟨fun j => ?_, m2, m3, m4⟩, HD⟩
  by_cases e : j = s
  · subst e; rw [pk_us]; exact hb
  · rw [pk_un e]; exact m1 j
theorem i_vc_mark {k : Nat} {u : SX} {v : SY} (I : i_Rel k u v) (hk : k + 4 ≤ 2049) (v1 : Int32) (v2 : Int32) : wpX_mark (fun r u' => wpY_mark (fun r' v' => r' = r ∧ i_Rel (k + 4) u' v') v v1 v2) u v1 v2 := by
  obtain ⟨A, T, N, D, P, E, bl, mk, kd, pv, qo, ic, xn, xw, nw, py, pe, am, rl, rf, st, e1, e2, e3, e4, e5, rfl, rfl, G⟩ := I
  unfold wpX_mark
  rcases cq_ix v1 (n := 8) (by decide) with h | ⟨s, hs, rfl⟩
  · exact cq_s_no h (br_t rfl (cq_sy_no h ⟨rfl, cx_rel _ G⟩))
  · have ps : vp_in (nI s) 8 := vp_in_nI hs (by omega)
    refine cq_s_ok hs (br_f cx_10 ?_)
    by_cases a : v2 = 0
    · have um : upd mk (nI s).toNatClampNeg (vp_nar .boolean 0) = upd mk s 0 := by rw [cx_cl (by omega), cx_nar0]
      obtain ⟨r, E', bl', nw', st', e1', e2', e3', e4', e5', G', fX, fY⟩ := cf_settle (bl := bl) (xw := xw) (nw := nw) (am := am) (e1 := e1) (e2 := e2) (e3 := e3) (e4 := e4) (e5 := e5) (ck_G (s := s) G (Or.inl rfl))
      refine br_t a ⟨ps, nm_r um (fX _ ?_)⟩
      refine cq_sy_ok hs (br_t a ⟨ps, nm_r um (fY _ ?_)⟩)
      exact ⟨rfl, cx_rel _ G'⟩
    · have um : upd mk (nI s).toNatClampNeg (vp_nar .boolean 1) = upd mk s 1 := by rw [cx_cl (by omega), cx_nar1]
      obtain ⟨r, E', bl', nw', st', e1', e2', e3', e4', e5', G', fX, fY⟩ := cf_settle (bl := bl) (xw := xw) (nw := nw) (am := am) (e1 := e1) (e2 := e2) (e3 := e3) (e4 := e4) (e5 := e5) (ck_G (s := s) G (Or.inr rfl))
      refine br_f a ⟨ps, nm_r um (fX _ ?_)⟩
      refine cq_sy_ok hs (br_f a ⟨ps, nm_r um (fY _ ?_)⟩)
      exact ⟨rfl, cx_rel _ G'⟩
