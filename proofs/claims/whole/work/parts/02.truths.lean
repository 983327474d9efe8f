/-- the class's scoreFrom and the reference's scoreOf, place by place -/
theorem cs_loop {A T N D P E : Nat} {bl mk kd pv qo ic xn xw nw py pe am rl rf st e1 e2 e3 e4 e5 : Nat → Int32} (t : Int32) (g c : Nat) (hg : g < 24) (hc : c ≤ 6) (hi : ic g = nI c) (hm : ∀ k, k < c → ∃ m, m < g ∧ xn (6 * g + k) = nI m) (hT : cx_T g t nw) :
    ∀ (d k : Nat) (s : Int32), k + d = c → ∃ r : Int32,
      (∀ post : Int32 → Prop, post r → wX_scoreFrom_23 post t (nI (6 * g + c)) (nI A) (nI T) (nI N) (nI D) (nI P) (nI E) bl mk kd pv qo ic xn xw py pe am rl rf st e1 e2 e3 e4 e5 (d + 1) s (nI (6 * g + k))) ∧
      (∀ post : Int32 → Prop, post r → wY_scoreOf_4 post (nI g) (nI A) (nI T) (nI N) (nI D) (nI P) (nI E) bl mk kd pv qo ic xn xw nw py pe am rl rf st e1 e2 e3 e4 e5 (d + 1) s (nI k)) := by
  have hgi : vp_in (nI g) 24 := vp_in_nI hg (by omega)
  have hc' : ic (nI g).toNatClampNeg = nI c := by rw [cx_cl (by omega)]; exact hi
  intro d
  induction d with
  | zero =>
    intro k s hk
    have h1 : nI (6 * g + c) ≤ nI (6 * g + k) := nI_le (by omega) (by omega)
    have h2 : ic (nI g).toNatClampNeg ≤ nI k := by rw [hc']; exact nI_le (by omega) (by omega)
    exact ⟨s, fun post hp => br_t h1 hp, fun post hp => ⟨hgi, br_t h2 hp⟩⟩
  | succ d ih =>
    intro k s hk
    obtain ⟨m, hmg, hxm⟩ := hm k (by omega)
    have h1 : ¬ nI (6 * g + c) ≤ nI (6 * g + k) := nI_ge (by omega) (by omega)
    have h2 : ¬ ic (nI g).toNatClampNeg ≤ nI k := by rw [hc']; exact nI_ge (by omega) (by omega)
    have h3 : ¬ (6 : Int32) ≤ nI k := nI_ge (b := 6) (by omega) (by decide)
    have p1 : vp_in (nI (6 * g + k)) 144 := vp_in_nI (by omega) (by omega)
    have p2 : vp_in ((6 : Int32) * nI g + nI k) 144 := by rw [cx_i6]; exact p1
    have x1 : xn (nI (6 * g + k)).toNatClampNeg = nI m := by rw [cx_cl (by omega)]; exact hxm
    have x2 : xn ((6 : Int32) * nI g + nI k).toNatClampNeg = nI m := by rw [cx_i6]; exact x1
    have w1 : s + xw (nI (6 * g + k)).toNatClampNeg = s + xw (6 * g + k) := by rw [cx_cl (by omega)]
    have w2 : s + xw ((6 : Int32) * nI g + nI k).toNatClampNeg = s + xw (6 * g + k) := by rw [cx_i6, cx_cl (by omega)]
    have pm : vp_in (nI m) 24 := vp_in_nI (by omega) (by omega)
    have n1 : nI (6 * g + k) + 1 = nI (6 * g + (k + 1)) := nI_1 _
    rcases hT m hmg with ⟨hb, hn⟩ | ⟨hb, hn⟩
    · have hb' : ((t >>> (xn (nI (6 * g + k)).toNatClampNeg &&& 31)) &&& 1) = 1 := by rw [x1]; exact cx_bt1 (by omega) hb
      have hn' : ¬ nw (nI m).toNatClampNeg = 0 := by rw [cx_cl (by omega)]; exact hn
      obtain ⟨r, hX, hY⟩ := ih (k + 1) (s + xw (6 * g + k)) (by omega)
      refine ⟨r, fun post hp => br_f h1 ⟨p1, ?_⟩, fun post hp => ⟨hgi, br_f h2 (br_f h3 ⟨p2, nm_r x2 ⟨pm, br_f hn' ⟨p2, nm_r w2 (nm_r (nI_1 k) (hY post hp))⟩⟩⟩)⟩⟩
      exact br_t hb' (br_f cx_10 ⟨p1, nm_r w1 (nm_r n1 (hX post hp))⟩)
    · have hb' : ¬ ((t >>> (xn (nI (6 * g + k)).toNatClampNeg &&& 31)) &&& 1) = 1 := by rw [x1]; exact cx_bt0 (by omega) hb
      have hn' : nw (nI m).toNatClampNeg = 0 := by rw [cx_cl (by omega)]; exact hn
      obtain ⟨r, hX, hY⟩ := ih (k + 1) s (by omega)
      refine ⟨r, fun post hp => br_f h1 ⟨p1, ?_⟩, fun post hp => ⟨hgi, br_f h2 (br_f h3 ⟨p2, nm_r x2 ⟨pm, br_t hn' (nm_r (nI_1 k) (hY post hp))⟩⟩)⟩⟩
      exact br_f hb' (br_t rfl (nm_r n1 (hX post hp)))
/-- one score for both -/
theorem cs_all {A T N D P E : Nat} {bl mk kd pv qo ic xn xw nw py pe am rl rf st e1 e2 e3 e4 e5 : Nat → Int32} (t : Int32) (g : Nat) (hg : g < N) (hN : N ≤ 24) (HN : cx_N N mk kd pv qo ic xn) (hT : cx_T g t nw) :
    ∃ r : Int32, (∀ post : Int32 → Prop, post r → wpX_scoreFrom post (nI A, nI T, nI N, nI D, nI P, nI E, bl, mk, kd, pv, qo, ic, xn, xw, py, pe, am, rl, rf, st, e1, e2, e3, e4, e5) (nI g) t) ∧ (∀ post : Int32 → Prop, post r → wpY_scoreOf post (nI A, nI T, nI N, nI D, nI P, nI E, bl, mk, kd, pv, qo, ic, xn, xw, nw, py, pe, am, rl, rf, st, e1, e2, e3, e4, e5) (nI g)) := by
  obtain ⟨c, hc, hi, hm⟩ := HN.2.2.1 g hg
  obtain ⟨r, hX, hY⟩ := cs_loop (A := A) (T := T) (N := N) (D := D) (P := P) (E := E) (bl := bl) (mk := mk) (kd := kd) (pv := pv) (qo := qo) (ic := ic) (xn := xn) (xw := xw) (nw := nw) (py := py) (pe := pe) (am := am) (rl := rl) (rf := rf) (st := st) (e1 := e1) (e2 := e2) (e3 := e3) (e4 := e4) (e5 := e5) t g c (by omega) hc hi hm hT c 0 0 (by omega)
  have e1 : nI (6 * g) + ic (nI g).toNatClampNeg = nI (6 * g + c) := by rw [cx_cl (by omega), hi, nI_add]
  refine ⟨r, fun post hp => ?_, fun post hp => ⟨c + 1, hY post hp⟩⟩
  exact nm_r (cx_p6 g) ⟨vp_in_nI (by omega) (by omega), nm_r e1 ⟨c + 1, hX post hp⟩⟩
/-- one node: one truth for both -/
theorem cw_step {A T N D P E : Nat} {bl mk kd pv qo ic xn xw nw py pe am rl rf st e1 e2 e3 e4 e5 : Nat → Int32} (x1 t : Int32) (j : Nat) (hj : j < N) (hN : N ≤ 24) (HN : cx_N N mk kd pv qo ic xn) (hT : cx_T j t nw) :
    ∃ b : Int32, (b = 0 ∨ b = 1) ∧ (∀ post : Int32 → Prop, post b → wpX_isTrue post (nI A, nI T, nI N, nI D, nI P, nI E, bl, mk, kd, pv, qo, ic, xn, xw, py, pe, am, rl, rf, st, e1, e2, e3, e4, e5) (nI j) x1 t) ∧
      (∀ (post : SY → Prop) (n : Nat), wY_workOut_2 post x1 (nI A) (nI T) (nI N) (nI D) (nI P) (nI E) n (nI (j + 1)) bl mk kd pv qo ic xn xw (upd nw j b) py pe am rl rf st e1 e2 e3 e4 e5 → wY_workOut_2 post x1 (nI A) (nI T) (nI N) (nI D) (nI P) (nI E) (n + 1) (nI j) bl mk kd pv qo ic xn xw nw py pe am rl rf st e1 e2 e3 e4 e5) := by
  have pj : vp_in (nI j) 24 := vp_in_nI (by omega) (by omega)
  have c1 : ¬ nI N ≤ nI j := nI_ge hj (by omega)
  have c2 : ¬ (24 : Int32) ≤ nI j := nI_ge (b := 24) (by omega) (by decide)
  have ekd : kd (nI j).toNatClampNeg = kd j := by rw [cx_cl (by omega)]
  have epv : pv (nI j).toNatClampNeg = pv j := by rw [cx_cl (by omega)]
  have eqo : qo (nI j).toNatClampNeg = qo j := by rw [cx_cl (by omega)]
  have ud : ∀ b : Int32, (b = 0 ∨ b = 1) → upd nw (nI j).toNatClampNeg (vp_nar .boolean b) = upd nw j b := by
    intro b hb; rw [cx_cl (by omega), cx_narb hb]
  have z0 : (0 : Int32) = 0 ∨ (0 : Int32) = 1 := Or.inl rfl
  have z1 : (1 : Int32) = 0 ∨ (1 : Int32) = 1 := Or.inr rfl
  rcases HN.2.1 j hj with ⟨hk, s, hs, hp⟩ | hk | ⟨hk, p, hp2, hp20, hp⟩ | hk
  · have em : mk (nI s).toNatClampNeg = mk s := by rw [cx_cl (by omega)]
    have e7 : (pv (nI j).toNatClampNeg &&& 7) = nI s := by
      rw [epv, hp]
      exact (by decide +kernel : ∀ s, s < 8 → nI s &&& 7 = nI s) s hs
    have ps : vp_in (nI s) 8 := vp_in_nI hs (by omega)
    have pb := HN.1 s
    have k0 : kd (nI j).toNatClampNeg = 0 := ekd.trans hk
    refine ⟨mk s, pb, fun post hq => ?_, fun post n hq => br_f c1 (br_f c2 ⟨pj, br_t k0 ⟨pj, ?_⟩⟩)⟩
    · refine ⟨pj, nm_r (epv.trans hp) ⟨pj, nm_r k0 ?_⟩⟩
      refine br_f (by decide) (br_f (by decide) (br_t rfl ⟨ps, ?_⟩))
      rw [em]
      exact ⟨cx_narw pb, hq⟩
    · rw [e7, em]
      exact ⟨ps, pj, nm_r (ud _ pb) (nm_r (nI_1 j) hq)⟩
  · have k1 : kd (nI j).toNatClampNeg = 1 := ekd.trans hk
    have k0 : ¬ kd (nI j).toNatClampNeg = 0 := by rw [k1]; exact cx_10
    by_cases h : x1 < pv j
    · have h' : x1 < pv (nI j).toNatClampNeg := by rw [epv]; exact h
      refine ⟨0, z0, fun post hq => ⟨pj, nm_r epv ⟨pj, nm_r k1 ?_⟩⟩, fun post n hq => br_f c1 (br_f c2 ⟨pj, br_f k0 ⟨pj, br_t k1 ⟨pj, br_t h' ⟨pj, nm_r (ud 0 z0) (nm_r (nI_1 j) hq)⟩⟩⟩⟩)⟩
      exact br_f (by decide) (br_f (by decide) (br_f (by decide) (br_t rfl (br_t h hq))))
    · have h' : ¬ x1 < pv (nI j).toNatClampNeg := by rw [epv]; exact h
      refine ⟨1, z1, fun post hq => ⟨pj, nm_r epv ⟨pj, nm_r k1 ?_⟩⟩, fun post n hq => br_f c1 (br_f c2 ⟨pj, br_f k0 ⟨pj, br_t k1 ⟨pj, br_f h' ⟨pj, nm_r (ud 1 z1) (nm_r (nI_1 j) hq)⟩⟩⟩⟩)⟩
      exact br_f (by decide) (br_f (by decide) (br_f (by decide) (br_t rfl (br_f h hq))))
  · have k2 : kd (nI j).toNatClampNeg = 2 := ekd.trans hk
    have k0 : ¬ kd (nI j).toNatClampNeg = 0 := by rw [k2]; decide
    have k1 : ¬ kd (nI j).toNatClampNeg = 1 := by rw [k2]; decide
    have epp : pv (nI j).toNatClampNeg = nI p := epv.trans hp
    have hge : (2 : Int32) ≤ pv (nI j).toNatClampNeg := by rw [epp]; exact nI_le (a := 2) hp2 (by omega)
    have hne : ¬ nI p = 0 := nI_ne0 (by omega) (by omega)
    have hne' : ¬ pv (nI j).toNatClampNeg = 0 := by rw [epp]; exact hne
    by_cases h : qo j ≤ x1 - x1 / nI p * nI p
    · have h1 : qo (nI j).toNatClampNeg ≤ x1 - x1 / nI p * nI p := by rw [eqo]; exact h
      have h2 : qo (nI j).toNatClampNeg ≤ x1 - x1 / pv (nI j).toNatClampNeg * pv (nI j).toNatClampNeg := by rw [epp]; exact h1
      refine ⟨0, z0, fun post hq => ⟨pj, nm_r epp ⟨pj, nm_r k2 ?_⟩⟩, fun post n hq => br_f c1 (br_f c2 ⟨pj, br_f k0 ⟨pj, br_f k1 ⟨pj, br_t k2 ⟨pj, br_t hge ⟨pj, ⟨hne', ⟨pj, br_t h2 ⟨pj, nm_r (ud 0 z0) (nm_r (nI_1 j) hq)⟩⟩⟩⟩⟩⟩⟩⟩)⟩
      exact br_f (by decide) (br_f (by decide) (br_f (by decide) (br_f (by decide) (br_t rfl ⟨hne, pj, br_t h1 hq⟩))))
    · have h1 : ¬ qo (nI j).toNatClampNeg ≤ x1 - x1 / nI p * nI p := by rw [eqo]; exact h
      have h2 : ¬ qo (nI j).toNatClampNeg ≤ x1 - x1 / pv (nI j).toNatClampNeg * pv (nI j).toNatClampNeg := by rw [epp]; exact h1
      refine ⟨1, z1, fun post hq => ⟨pj, nm_r epp ⟨pj, nm_r k2 ?_⟩⟩, fun post n hq => br_f c1 (br_f c2 ⟨pj, br_f k0 ⟨pj, br_f k1 ⟨pj, br_t k2 ⟨pj, br_t hge ⟨pj, ⟨hne', ⟨pj, br_f h2 ⟨pj, nm_r (ud 1 z1) (nm_r (nI_1 j) hq)⟩⟩⟩⟩⟩⟩⟩⟩)⟩
      exact br_f (by decide) (br_f (by decide) (br_f (by decide) (br_f (by decide) (br_t rfl ⟨hne, pj, br_f h1 hq⟩))))
  · have k3 : kd (nI j).toNatClampNeg = 3 := ekd.trans hk
    have k0 : ¬ kd (nI j).toNatClampNeg = 0 := by rw [k3]; decide
    have k1 : ¬ kd (nI j).toNatClampNeg = 1 := by rw [k3]; decide
    have k2 : ¬ kd (nI j).toNatClampNeg = 2 := by rw [k3]; decide
    obtain ⟨r, hX, hY⟩ := cs_all (A := A) (T := T) (D := D) (P := P) (E := E) (bl := bl) (xw := xw) (py := py) (pe := pe) (am := am) (rl := rl) (rf := rf) (st := st) (e1 := e1) (e2 := e2) (e3 := e3) (e4 := e4) (e5 := e5) t j hj hN HN hT
    by_cases h : r < pv j
    · have h' : r < pv (nI j).toNatClampNeg := by rw [epv]; exact h
      refine ⟨0, z0, fun post hq => ⟨pj, nm_r epv ⟨pj, nm_r k3 ?_⟩⟩, fun post n hq => br_f c1 (br_f c2 ⟨pj, br_f k0 ⟨pj, br_f k1 ⟨pj, br_f k2 (hY _ ⟨pj, br_t h' ⟨pj, nm_r (ud 0 z0) (nm_r (nI_1 j) hq)⟩⟩)⟩⟩⟩)⟩
      exact br_f (by decide) (br_t (by decide) (hX _ (br_t h hq)))
    · have h' : ¬ r < pv (nI j).toNatClampNeg := by rw [epv]; exact h
      refine ⟨1, z1, fun post hq => ⟨pj, nm_r epv ⟨pj, nm_r k3 ?_⟩⟩, fun post n hq => br_f c1 (br_f c2 ⟨pj, br_f k0 ⟨pj, br_f k1 ⟨pj, br_f k2 (hY _ ⟨pj, br_f h' ⟨pj, nm_r (ud 1 z1) (nm_r (nI_1 j) hq)⟩⟩)⟩⟩⟩)⟩
      exact br_f (by decide) (br_t (by decide) (hX _ (br_f h hq)))
/-- the class's set and the reference's array, worked out node by node -/
theorem cw_loop {A T N D P E : Nat} {bl mk kd pv qo ic xn xw py pe am rl rf st e1 e2 e3 e4 e5 : Nat → Int32} (x1 : Int32) (hN : N ≤ 24) (HN : cx_N N mk kd pv qo ic xn) :
    ∀ (d j : Nat) (t : Int32) (nw : Nat → Int32), j + d = N → cx_T j t nw → (∀ i, j ≤ i → bt t i = false) → ∃ (t' : Int32) (nw' : Nat → Int32), cx_T N t' nw' ∧
      (∀ post : Int32 → Prop, post t' → wX_truthsOn_4 post x1 (nI A) (nI T) (nI N) (nI D) (nI P) (nI E) bl mk kd pv qo ic xn xw py pe am rl rf st e1 e2 e3 e4 e5 (d + 1) t (nI j)) ∧
      (∀ post : SY → Prop, post (nI A, nI T, nI N, nI D, nI P, nI E, bl, mk, kd, pv, qo, ic, xn, xw, nw', py, pe, am, rl, rf, st, e1, e2, e3, e4, e5) → wY_workOut_2 post x1 (nI A) (nI T) (nI N) (nI D) (nI P) (nI E) (d + 1) (nI j) bl mk kd pv qo ic xn xw nw py pe am rl rf st e1 e2 e3 e4 e5) := by
  intro d
  induction d with
  | zero =>
    intro j t nw hj hT hz
    have e : j = N := by omega
    subst e
    have h : nI j ≤ nI j := nI_le (Nat.le_refl _) (by omega)
    exact ⟨t, nw, hT, fun post hp => br_t h hp, fun post hp => br_t h hp⟩
  | succ d ih =>
    intro j t nw hj hT hz
    have c1 : ¬ nI N ≤ nI j := nI_ge (by omega) (by omega)
    obtain ⟨b, hb, hX, hY⟩ := cw_step (A := A) (T := T) (D := D) (P := P) (E := E) (bl := bl) (xw := xw) (py := py) (pe := pe) (am := am) (rl := rl) (rf := rf) (st := st) (e1 := e1) (e2 := e2) (e3 := e3) (e4 := e4) (e5 := e5) x1 t j (by omega) hN HN hT
    rcases hb with rfl | rfl
    · obtain ⟨t', nw', hT', hX', hY'⟩ := ih (j + 1) t (upd nw j 0) (by omega) (cx_Ts0 hT hz) (fun i hi => hz i (by omega))
      exact ⟨t', nw', hT', fun post hp => br_f c1 (hX _ (br_t rfl (nm_r (nI_1 j) (hX' post hp)))), fun post hp => hY post _ (hY' post hp)⟩
    · obtain ⟨t', nw', hT', hX', hY'⟩ := ih (j + 1) (t ||| ((1 : Int32) <<< (nI j &&& 31))) (upd nw j 1) (by omega) (cx_Ts1 (by omega) hT) (cx_Tz1 (by omega) hz)
      exact ⟨t', nw', hT', fun post hp => br_f c1 (hX _ (br_f cx_10 (nm_e (nm_r (nI_1 j) (hX' post hp))))), fun post hp => hY post _ (hY' post hp)⟩
theorem cw_all {A T N D P E : Nat} {bl mk kd pv qo ic xn xw nw py pe am rl rf st e1 e2 e3 e4 e5 : Nat → Int32} (x1 : Int32) (hN : N ≤ 24) (HN : cx_N N mk kd pv qo ic xn) :
    ∃ (t : Int32) (nw' : Nat → Int32), cx_T N t nw' ∧
      (∀ post : Int32 → Prop, post t → wpX_truthsOn post (nI A, nI T, nI N, nI D, nI P, nI E, bl, mk, kd, pv, qo, ic, xn, xw, py, pe, am, rl, rf, st, e1, e2, e3, e4, e5) x1) ∧
      (∀ post : SY → Prop, post (nI A, nI T, nI N, nI D, nI P, nI E, bl, mk, kd, pv, qo, ic, xn, xw, nw', py, pe, am, rl, rf, st, e1, e2, e3, e4, e5) → wpY_workOut post (nI A, nI T, nI N, nI D, nI P, nI E, bl, mk, kd, pv, qo, ic, xn, xw, nw, py, pe, am, rl, rf, st, e1, e2, e3, e4, e5) x1) := by
  obtain ⟨t', nw', hT', hX', hY'⟩ := cw_loop (A := A) (T := T) (D := D) (P := P) (E := E) (bl := bl) (xw := xw) (py := py) (pe := pe) (am := am) (rl := rl) (rf := rf) (st := st) (e1 := e1) (e2 := e2) (e3 := e3) (e4 := e4) (e5 := e5) x1 hN HN N 0 0 nw (by omega) (cx_T0 nw) (fun i _ => b_0 i)
  exact ⟨t', nw', hT', fun post hp => ⟨N + 1, hX' post hp⟩, fun post hp => ⟨N + 1, hY' post hp⟩⟩
