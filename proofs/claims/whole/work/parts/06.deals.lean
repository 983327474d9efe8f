theorem i_vc_deposit {k : Nat} {u : SX} {v : SY} (I : i_Rel k u v) (hk : k + 4 ≤ 2049) (v1 : Int32) (v2 : Int32) : wpX_deposit (fun r u' => wpY_deposit (fun r' v' => r' = r ∧ i_Rel (k + 4) u' v') v v1 v2) u v1 v2 := by
  obtain ⟨A, T, N, D, P, E, bl, mk, kd, pv, qo, ic, xn, xw, nw, py, pe, am, rl, rf, st, e1, e2, e3, e4, e5, rfl, rfl, G⟩ := I
  have J := G
  obtain ⟨⟨gA2, gA⟩, gT, gN, gD, gP, gE, HN, HD⟩ := J
  unfold wpX_deposit
  rcases cq_ix v1 (n := A) (by omega) with h | ⟨a, ha, rfl⟩
  · refine cq_xAccount_no h (br_t rfl ?_)
    unfold wpY_deposit
    exact cq_yAccount_no h (br_f cx_10 ⟨rfl, cx_rel _ G⟩)
  refine cq_xAccount_ok ha gA (br_f cx_10 ?_)
  unfold wpY_deposit
  have pa : vp_in (nI a) 6 := vp_in_nI (by omega) (by omega)
  by_cases am0 : v2 < 1 ∨ ¬ v2 ≤ 1000
  · exact cq_m_no am0 (br_t rfl (cq_yAccount_ok ha gA (br_t rfl (cq_my_no am0 ⟨rfl, cx_rel _ G⟩))))
  have m1 : ¬ v2 < 1 := fun z => am0 (Or.inl z)
  have m2 : v2 ≤ 1000 := Decidable.byContradiction (fun z => am0 (Or.inr z))
  refine cq_m_ok m1 m2 (br_f cx_10 ?_)
  by_cases hP : P < 40
  · have c1 : nI P < (40 : Int32) := nI_lt (b := 40) hP (by decide)
    have c2 : ¬ nI P = (40 : Int32) := fun z => by
      have := (nI_eq (a := P) (b := 40) (by omega) (by decide)).mp z
      omega
    have hr := cx_rs_le st D
    have ub : upd bl (nI a).toNatClampNeg (bl (nI a).toNatClampNeg + v2) = upd bl a (bl a + v2) := by rw [cx_cl (by omega)]
    have G2 : cx_G A T N D (P + 1) (E + 1) mk kd pv qo ic xn py pe rl rf st := ⟨⟨gA2, gA⟩, gT, gN, gD, by omega, by omega, HN, HD⟩
    obtain ⟨r, E', bl', nw', st', e1', e2', e3', e4', e5', G', fX, fY⟩ := cf_settle (bl := upd bl a (bl a + v2)) (xw := xw) (nw := nw) (am := am) (e1 := upd e1 E 0) (e2 := upd e2 E (nI a)) (e3 := upd e3 E v2) (e4 := upd e4 E (-1)) (e5 := upd e5 E (nI T)) G2
    refine br_t c1 (nm_r (nI_1 P) (ce_book (by omega) (by omega) (Or.inr ⟨by decide, rfl⟩) _ (fX _ ?_)))
    refine cq_yAccount_ok ha gA (br_t rfl (br_f m1 (br_t m2 (br_f c2 (nm_r (nI_1 P) ⟨pa, pa, nm_r ub (ce_enter (by omega) _ (fY _ ?_))⟩)))))
    exact ⟨rfl, cx_rel _ G'⟩
  · have c1 : ¬ nI P < (40 : Int32) := nI_nlt (b := 40) (by omega) (by omega)
    have c2 : nI P = (40 : Int32) := by
      have e : P = 40 := by omega
      subst e; rfl
    exact br_f c1 (cq_yAccount_ok ha gA (br_t rfl (br_f m1 (br_t m2 (br_t c2 ⟨rfl, cx_rel _ G⟩)))))
theorem cd_off {A T N D P E : Nat} {mk kd pv qo ic xn py pe rl rf st : Nat → Int32} {a b : Nat} (G : cx_G A T N D P E mk kd pv qo ic xn py pe rl rf st) (hD : D < 12) (ha : a < A) (hb : b < A) :
    cx_G A T N (D + 1) P E mk kd pv qo ic xn (upd py D (nI a)) (upd pe D (nI b)) (upd rl D (-1)) (upd rf D (-1)) (upd st D 0) := by
  obtain ⟨gA, gT, gN, gD, gP, gE, HN, HD⟩ := G
  refine ⟨gA, gT, gN, by omega, gP, ?_, HN, ?_⟩
  · show E = P + (cx_rs (upd st D 0) D + cx_rk (upd st D 0 D))
    rw [cx_rs_up st D 0 D (Nat.le_refl _), pk_us, show cx_rk 0 = 0 from by decide]
    exact gE
  · intro d hd
    by_cases e : d = D
    · subst e
      rw [pk_us, pk_us, pk_us, pk_us, pk_us]
      refine ⟨⟨a, ha, rfl⟩, ⟨b, hb, rfl⟩, Or.inl rfl, fun z => ?_⟩
      exact absurd z (by decide)
    · rw [pk_un e, pk_un e, pk_un e, pk_un e, pk_un e]
      exact HD d (by omega)
theorem i_vc_offer {k : Nat} {u : SX} {v : SY} (I : i_Rel k u v) (hk : k + 4 ≤ 2049) (v1 : Int32) (v2 : Int32) (v3 : Int32) : wpX_offer (fun r u' => wpY_offer (fun r' v' => r' = r ∧ i_Rel (k + 4) u' v') v v1 v2 v3) u v1 v2 v3 := by
  obtain ⟨A, T, N, D, P, E, bl, mk, kd, pv, qo, ic, xn, xw, nw, py, pe, am, rl, rf, st, e1, e2, e3, e4, e5, rfl, rfl, G⟩ := I
  have gA : A ≤ 6 := G.1.2
  have gD : D ≤ 12 := G.2.2.2.1
  unfold wpX_offer
  rcases cq_ix v1 (n := A) (by omega) with h | ⟨a, ha, rfl⟩
  · refine cq_xAccount_no h (br_t rfl ?_)
    unfold wpY_offer
    exact cq_yAccount_no h (br_f cx_10 ⟨rfl, cx_rel _ G⟩)
  refine cq_xAccount_ok ha gA (br_f cx_10 ?_)
  rcases cq_ix v2 (n := A) (by omega) with h | ⟨b, hb, rfl⟩
  · refine cq_xAccount_no h (br_t rfl ?_)
    unfold wpY_offer
    exact cq_yAccount_ok ha gA (br_t rfl (cq_yAccount_no h (br_f cx_10 ⟨rfl, cx_rel _ G⟩)))
  refine cq_xAccount_ok hb gA (br_f cx_10 ?_)
  unfold wpY_offer
  by_cases ab : nI a = nI b
  · exact br_t ab (cq_yAccount_ok ha gA (br_t rfl (cq_yAccount_ok hb gA (br_t rfl (br_t ab ⟨rfl, cx_rel _ G⟩)))))
  by_cases am0 : v3 < 1 ∨ ¬ v3 ≤ 1000
  · exact br_f ab (cq_m_no am0 (br_t rfl (cq_yAccount_ok ha gA (br_t rfl (cq_yAccount_ok hb gA (br_t rfl (br_f ab (cq_my_no am0 ⟨rfl, cx_rel _ G⟩))))))))
  have m1 : ¬ v3 < 1 := fun z => am0 (Or.inl z)
  have m2 : v3 ≤ 1000 := Decidable.byContradiction (fun z => am0 (Or.inr z))
  refine br_f ab (cq_m_ok m1 m2 (br_f cx_10 ?_))
  by_cases hD : D < 12
  · have c1 : nI D < (12 : Int32) := nI_lt (b := 12) hD (by decide)
    have pD : vp_in (nI D) 12 := vp_in_nI hD (by omega)
    refine br_t c1 ⟨pD, nm_r (cx_ud py _ (by omega)) ⟨pD, nm_r (cx_ud pe _ (by omega)) ⟨pD, nm_r (cx_ud am _ (by omega)) ⟨pD, nm_r (cx_ud rl _ (by omega)) ⟨pD, nm_r (cx_ud rf _ (by omega)) ⟨pD, nm_r (cx_ud st _ (by omega)) (nm_r (nI_1 D) ?_)⟩⟩⟩⟩⟩⟩
    refine cq_yAccount_ok ha gA (br_t rfl (cq_yAccount_ok hb gA (br_t rfl (br_f ab (br_f m1 (br_t m2 (br_t c1 ⟨pD, nm_r (cx_ud py _ (by omega)) ⟨pD, nm_r (cx_ud pe _ (by omega)) ⟨pD, nm_r (cx_ud am _ (by omega)) ⟨pD, nm_r (cx_ud rl _ (by omega)) ⟨pD, nm_r (cx_ud rf _ (by omega)) ⟨pD, nm_r (cx_ud st _ (by omega)) (nm_r (nI_1 D) ?_)⟩⟩⟩⟩⟩⟩)))))))
    exact ⟨rfl, cx_rel _ (cd_off G hD ha hb)⟩
  · have c1 : ¬ nI D < (12 : Int32) := nI_nlt (b := 12) (by omega) (by omega)
    exact br_f c1 (cq_yAccount_ok ha gA (br_t rfl (cq_yAccount_ok hb gA (br_t rfl (br_f ab (br_f m1 (br_t m2 (br_f c1 ⟨rfl, cx_rel _ G⟩))))))))
theorem cd_trm {A T N D P E : Nat} {mk kd pv qo ic xn py pe rl rf st : Nat → Int32} {d a b : Nat} (G : cx_G A T N D P E mk kd pv qo ic xn py pe rl rf st) (hd : d < D) (hs : st d = 0) (ha : a < N) (hb : b < N) :
    cx_G A T N D P E mk kd pv qo ic xn py pe (upd rl d (nI a)) (upd rf d (nI b)) (upd st d 1) := by
  obtain ⟨gA, gT, gN, gD, gP, gE, HN, HD⟩ := G
  refine ⟨gA, gT, gN, gD, gP, ?_, HN, ?_⟩
  · have h := cx_rs_in st d 1 D hd
    rw [hs, show cx_rk 0 = 0 from by decide, show cx_rk 1 = 0 from by decide] at h
    omega
  · intro i hi
    obtain ⟨h1, h2, h3, h4⟩ := HD i hi
    by_cases e : i = d
    · subst e
      rw [pk_us, pk_us, pk_us]
      exact ⟨h1, h2, Or.inr ⟨a, ha, rfl⟩, fun _ => ⟨⟨a, ha, rfl⟩, ⟨b, hb, rfl⟩⟩⟩
    · rw [pk_un e, pk_un e, pk_un e]
      exact ⟨h1, h2, h3, h4⟩
theorem i_vc_terms {k : Nat} {u : SX} {v : SY} (I : i_Rel k u v) (hk : k + 4 ≤ 2049) (v1 : Int32) (v2 : Int32) (v3 : Int32) : wpX_terms (fun r u' => wpY_terms (fun r' v' => r' = r ∧ i_Rel (k + 4) u' v') v v1 v2 v3) u v1 v2 v3 := by
  obtain ⟨A, T, N, D, P, E, bl, mk, kd, pv, qo, ic, xn, xw, nw, py, pe, am, rl, rf, st, e1, e2, e3, e4, e5, rfl, rfl, G⟩ := I
  have gN : N ≤ 24 := G.2.2.1
  have gD : D ≤ 12 := G.2.2.2.1
  unfold wpX_terms
  rcases cq_ix v1 (n := D) (by omega) with h | ⟨d, hd, rfl⟩
  · refine cq_xDeal_no h (br_t rfl ?_)
    unfold wpY_terms
    exact cq_yDeal_no h (br_f cx_10 ⟨rfl, cx_rel _ G⟩)
  have pd : vp_in (nI d) 12 := vp_in_nI (by omega) (by omega)
  have est : st (nI d).toNatClampNeg = st d := cx_at st (by omega)
  by_cases hs : st d = 0
  rotate_left
  · have hs' : ¬ st (nI d).toNatClampNeg = 0 := by rw [est]; exact hs
    refine cq_xDeal_ok hd gD (br_f cx_10 ⟨pd, br_f hs' ?_⟩)
    unfold wpY_terms
    exact cq_yDeal_ok hd gD (br_t rfl ⟨pd, br_f hs' ⟨rfl, cx_rel _ G⟩⟩)
  have hs' : st (nI d).toNatClampNeg = 0 := est.trans hs
  rcases cq_ix v2 (n := N) (by omega) with h | ⟨a, ha, rfl⟩
  · refine cq_xDeal_ok hd gD (br_f cx_10 ⟨pd, br_t hs' (cq_xNode_no h (br_t rfl ?_))⟩)
    unfold wpY_terms
    exact cq_yDeal_ok hd gD (br_t rfl ⟨pd, br_t hs' (cq_yNode_no h (br_f cx_10 ⟨rfl, cx_rel _ G⟩))⟩)
  rcases cq_ix v3 (n := N) (by omega) with h | ⟨b, hb, rfl⟩
  · refine cq_xDeal_ok hd gD (br_f cx_10 ⟨pd, br_t hs' (cq_xNode_ok ha gN (br_f cx_10 (cq_xNode_no h (br_t rfl ?_))))⟩)
    unfold wpY_terms
    exact cq_yDeal_ok hd gD (br_t rfl ⟨pd, br_t hs' (cq_yNode_ok ha gN (br_t rfl (cq_yNode_no h (br_f cx_10 ⟨rfl, cx_rel _ G⟩))))⟩)
  obtain ⟨r, E', bl', nw', st', e1', e2', e3', e4', e5', G', fX, fY⟩ := cf_settle (bl := bl) (xw := xw) (nw := nw) (am := am) (e1 := e1) (e2 := e2) (e3 := e3) (e4 := e4) (e5 := e5) (cd_trm G hd hs ha hb)
  refine cq_xDeal_ok hd gD (br_f cx_10 ⟨pd, br_t hs' (cq_xNode_ok ha gN (br_f cx_10 (cq_xNode_ok hb gN (br_f cx_10 ⟨pd, nm_r (cx_ud rl _ (by omega)) ⟨pd, nm_r (cx_ud rf _ (by omega)) ⟨pd, nm_r (cx_ud st _ (by omega)) (fX _ ?_)⟩⟩⟩))))⟩)
  unfold wpY_terms
  refine cq_yDeal_ok hd gD (br_t rfl ⟨pd, br_t hs' (cq_yNode_ok ha gN (br_t rfl (cq_yNode_ok hb gN (br_t rfl ⟨pd, nm_r (cx_ud rl _ (by omega)) ⟨pd, nm_r (cx_ud rf _ (by omega)) ⟨pd, nm_r (cx_ud st _ (by omega)) (fY _ ?_)⟩⟩⟩))))⟩)
  exact ⟨rfl, cx_rel _ G'⟩
theorem cd_can {A T N D P E : Nat} {mk kd pv qo ic xn py pe rl rf st : Nat → Int32} {d : Nat} (G : cx_G A T N D P E mk kd pv qo ic xn py pe rl rf st) (hd : d < D) (hs : st d = 0 ∨ st d = 1) :
    cx_G A T N D P E mk kd pv qo ic xn py pe rl rf (upd st d 5) := by
  obtain ⟨gA, gT, gN, gD, gP, gE, HN, HD⟩ := G
  refine ⟨gA, gT, gN, gD, gP, ?_, HN, ?_⟩
  · have h := cx_rs_in st d 5 D hd
    have h0 : cx_rk (st d) = 0 := by
      rcases hs with hs | hs
      · rw [hs]; decide
      · rw [hs]; decide
    rw [h0, show cx_rk 5 = 0 from by decide] at h
    omega
  · intro i hi
    obtain ⟨h1, h2, h3, h4⟩ := HD i hi
    by_cases e : i = d
    · subst e
      rw [pk_us]
      exact ⟨h1, h2, h3, fun z => absurd z (by decide)⟩
    · rw [pk_un e]
      exact ⟨h1, h2, h3, h4⟩
theorem i_vc_cancel {k : Nat} {u : SX} {v : SY} (I : i_Rel k u v) (hk : k + 4 ≤ 2049) (v1 : Int32) : wpX_cancel (fun r u' => wpY_cancel (fun r' v' => r' = r ∧ i_Rel (k + 4) u' v') v v1) u v1 := by
  obtain ⟨A, T, N, D, P, E, bl, mk, kd, pv, qo, ic, xn, xw, nw, py, pe, am, rl, rf, st, e1, e2, e3, e4, e5, rfl, rfl, G⟩ := I
  have gD : D ≤ 12 := G.2.2.2.1
  unfold wpX_cancel
  rcases cq_ix v1 (n := D) (by omega) with h | ⟨d, hd, rfl⟩
  · refine cq_xDeal_no h (br_t rfl ?_)
    unfold wpY_cancel
    exact cq_yDeal_no h (br_f cx_10 ⟨rfl, cx_rel _ G⟩)
  have pd : vp_in (nI d) 12 := vp_in_nI (by omega) (by omega)
  have est : st (nI d).toNatClampNeg = st d := cx_at st (by omega)
  by_cases s0 : st d = 0
  · refine cq_xDeal_ok hd gD (br_f cx_10 ⟨pd, nm_r est (br_t s0 ⟨pd, nm_r (cx_ud st _ (by omega)) ?_⟩)⟩)
    unfold wpY_cancel
    exact cq_yDeal_ok hd gD (br_t rfl ⟨pd, nm_r est (br_t s0 ⟨pd, nm_r (cx_ud st _ (by omega)) ⟨rfl, cx_rel _ (cd_can G hd (Or.inl s0))⟩⟩)⟩)
  by_cases s1 : st d = 1
  · refine cq_xDeal_ok hd gD (br_f cx_10 ⟨pd, nm_r est (br_f s0 (br_t s1 ⟨pd, nm_r (cx_ud st _ (by omega)) ?_⟩))⟩)
    unfold wpY_cancel
    exact cq_yDeal_ok hd gD (br_t rfl ⟨pd, nm_r est (br_f s0 (br_t s1 ⟨pd, nm_r (cx_ud st _ (by omega)) ⟨rfl, cx_rel _ (cd_can G hd (Or.inr s1))⟩⟩))⟩)
  · refine cq_xDeal_ok hd gD (br_f cx_10 ⟨pd, nm_r est (br_f s0 (br_f s1 ?_))⟩)
    unfold wpY_cancel
    exact cq_yDeal_ok hd gD (br_t rfl ⟨pd, nm_r est (br_f s0 (br_f s1 ⟨rfl, cx_rel _ G⟩))⟩)
/-- day after day -/
theorem ca_loop {A N D P n : Nat} {mk kd pv qo ic xn xw py pe am rl rf : Nat → Int32} (hn : n ≤ 60) : ∀ (f i T E : Nat) (s : Int32) (bl nw st e1 e2 e3 e4 e5 : Nat → Int32), i + f = n → T + f ≤ 2000 → cx_G A T N D P E mk kd pv qo ic xn py pe rl rf st →
    ∃ (r : Int32) (T' E' : Nat) (bl' nw' st' e1' e2' e3' e4' e5' : Nat → Int32), cx_G A T' N D P E' mk kd pv qo ic xn py pe rl rf st' ∧
      (∀ post : Int32 → SX → Prop, post r (nI A, nI T', nI N, nI D, nI P, nI E', bl', mk, kd, pv, qo, ic, xn, xw, py, pe, am, rl, rf, st', e1', e2', e3', e4', e5') → wX_advance_32 post (nI n) (f + 1) s (nI i) (nI A) (nI T) (nI N) (nI D) (nI P) (nI E) bl mk kd pv qo ic xn xw py pe am rl rf st e1 e2 e3 e4 e5) ∧
      (∀ post : Int32 → SY → Prop, post r (nI A, nI T', nI N, nI D, nI P, nI E', bl', mk, kd, pv, qo, ic, xn, xw, nw', py, pe, am, rl, rf, st', e1', e2', e3', e4', e5') → wY_advance_32 post (nI n) (f + 1) s (nI i) (nI A) (nI T) (nI N) (nI D) (nI P) (nI E) bl mk kd pv qo ic xn xw nw py pe am rl rf st e1 e2 e3 e4 e5) := by
  intro f
  induction f with
  | zero =>
    intro i T E s bl nw st e1 e2 e3 e4 e5 hi hT G
    have h : nI n ≤ nI i := nI_le (by omega) (by omega)
    exact ⟨s, T, E, bl, nw, st, e1, e2, e3, e4, e5, G, fun post hp => br_t h hp, fun post hp => br_t h hp⟩
  | succ f ih =>
    intro i T E s bl nw st e1 e2 e3 e4 e5 hi hT G
    have h : ¬ nI n ≤ nI i := nI_ge (by omega) (by omega)
    have G1 : cx_G A (T + 1) N D P E mk kd pv qo ic xn py pe rl rf st := ⟨G.1, by omega, G.2.2⟩
    obtain ⟨r, E', bl', nw', st', e1', e2', e3', e4', e5', G2, fX, fY⟩ := cf_settle (bl := bl) (xw := xw) (nw := nw) (am := am) (e1 := e1) (e2 := e2) (e3 := e3) (e4 := e4) (e5 := e5) G1
    obtain ⟨r2, T3, E3, bl3, nw3, st3, e13, e23, e33, e43, e53, G3, hX, hY⟩ := ih (i + 1) (T + 1) E' (s + r) bl' nw' st' e1' e2' e3' e4' e5' (by omega) (by omega) G2
    exact ⟨r2, T3, E3, bl3, nw3, st3, e13, e23, e33, e43, e53, G3, fun post hp => br_f h (nm_r (nI_1 T) (fX _ (nm_e (nm_r (nI_1 i) (hX post hp))))), fun post hp => br_f h (nm_r (nI_1 T) (fY _ (nm_e (nm_r (nI_1 i) (hY post hp)))))⟩
theorem i_vc_advance {k : Nat} {u : SX} {v : SY} (I : i_Rel k u v) (hk : k + 4 ≤ 2049) (v1 : Int32) : wpX_advance (fun r u' => wpY_advance (fun r' v' => r' = r ∧ i_Rel (k + 4) u' v') v v1) u v1 := by
  obtain ⟨A, T, N, D, P, E, bl, mk, kd, pv, qo, ic, xn, xw, nw, py, pe, am, rl, rf, st, e1, e2, e3, e4, e5, rfl, rfl, G⟩ := I
  have gT : T ≤ 2000 := G.2.1
  by_cases a1 : v1 < 1
  · exact br_t a1 (br_t a1 ⟨rfl, cx_rel _ G⟩)
  by_cases a2 : v1 ≤ 60
  rotate_left
  · exact br_f a1 (br_f a2 (br_f a1 (br_f a2 ⟨rfl, cx_rel _ G⟩)))
  have hz : ¬ v1 < 0 := fun z => a1 (Int32.lt_trans z (by decide))
  obtain ⟨n, hn, rfl⟩ := nI_of hz
  have n60 : n ≤ 60 := (nI_leI (a := n) (b := 60) hn (by decide)).mp a2
  by_cases h : T + n ≤ 2000
  · have a3 : nI T + nI n ≤ (2000 : Int32) := by rw [nI_add]; exact nI_le (b := 2000) h (by decide)
    obtain ⟨r2, T3, E3, bl3, nw3, st3, e13, e23, e33, e43, e53, G3, hX, hY⟩ := ca_loop (xw := xw) (am := am) n60 n 0 T E 0 bl nw st e1 e2 e3 e4 e5 (by omega) h G
    exact br_f a1 (br_t a2 (br_t a3 ⟨n + 1, hX _ (br_f a1 (br_t a2 (br_t a3 ⟨n + 1, hY _ ⟨rfl, cx_rel _ G3⟩⟩)))⟩))
  · have a3 : ¬ nI T + nI n ≤ (2000 : Int32) := by rw [nI_add]; exact nI_ge (b := T + n) (a := 2000) (by omega) (by omega)
    exact br_f a1 (br_t a2 (br_f a3 (br_f a1 (br_t a2 (br_f a3 ⟨rfl, cx_rel _ G⟩)))))
