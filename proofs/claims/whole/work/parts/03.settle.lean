/-- the class books an entry -/
theorem ce_book {A T N D P E : Nat} {bl mk kd pv qo ic xn xw py pe am rl rf st e1 e2 e3 e4 e5 : Nat → Int32} (hE : E < 64) {k dl amt v : Int32} {a : Nat} (ha : a < 6) (hv : (k = 1 ∧ v = bl a + -amt) ∨ (¬ k = 1 ∧ v = bl a + amt)) (post : SX → Prop)
    (h : post (nI A, nI T, nI N, nI D, nI P, nI (E + 1), upd bl a v, mk, kd, pv, qo, ic, xn, xw, py, pe, am, rl, rf, st, upd e1 E k, upd e2 E (nI a), upd e3 E amt, upd e4 E dl, upd e5 E (nI T))) :
    wpX_book post (nI A, nI T, nI N, nI D, nI P, nI E, bl, mk, kd, pv, qo, ic, xn, xw, py, pe, am, rl, rf, st, e1, e2, e3, e4, e5) k (nI a) amt dl := by
  have pE : vp_in (nI E) 64 := vp_in_nI hE (by omega)
  have pa : vp_in (nI a) 6 := vp_in_nI ha (by omega)
  have cE : (nI E).toNatClampNeg = E := cx_cl (by omega)
  have ca : (nI a).toNatClampNeg = a := cx_cl (by omega)
  refine ⟨pE, nm_r (cx_ud e1 k (by omega)) ⟨pE, nm_r (cx_ud e2 _ (by omega)) ⟨pE, nm_r (cx_ud e3 _ (by omega)) ⟨pE, nm_r (cx_ud e4 _ (by omega)) ⟨pE, nm_r (cx_ud e5 _ (by omega)) (nm_r (nI_1 E) ⟨pa, ?_⟩)⟩⟩⟩⟩⟩
  have h2 : upd e2 E (nI a) (nI E).toNatClampNeg = nI a := by rw [cE, pk_us]
  have h1 : upd e1 E k (nI E).toNatClampNeg = k := by rw [cE, pk_us]
  have h3 : upd e3 E amt (nI E).toNatClampNeg = amt := by rw [cE, pk_us]
  rcases hv with ⟨hk, hv⟩ | ⟨hk, hv⟩
  · have hk' : upd e1 E k (nI E).toNatClampNeg = 1 := h1.trans hk
    have hb : upd bl (nI a).toNatClampNeg (bl (nI a).toNatClampNeg + -(upd e3 E amt (nI E).toNatClampNeg)) = upd bl a v := by rw [ca, h3, hv]
    exact ⟨pE, br_t h2 ⟨pE, br_t hk' ⟨pE, pa, nm_r hb h⟩⟩⟩
  · have hk' : ¬ upd e1 E k (nI E).toNatClampNeg = 1 := by rw [h1]; exact hk
    have hb : upd bl (nI a).toNatClampNeg (bl (nI a).toNatClampNeg + (upd e3 E amt (nI E).toNatClampNeg)) = upd bl a v := by rw [ca, h3, hv]
    exact ⟨pE, br_t h2 ⟨pE, br_f hk' ⟨pE, pa, nm_r hb h⟩⟩⟩
/-- the reference enters it -/
theorem ce_enter {A T N D P E : Nat} {bl mk kd pv qo ic xn xw nw py pe am rl rf st e1 e2 e3 e4 e5 : Nat → Int32} (hE : E < 64) {k ac dl amt : Int32} (post : SY → Prop)
    (h : post (nI A, nI T, nI N, nI D, nI P, nI (E + 1), bl, mk, kd, pv, qo, ic, xn, xw, nw, py, pe, am, rl, rf, st, upd e1 E k, upd e2 E ac, upd e3 E amt, upd e4 E dl, upd e5 E (nI T))) :
    wpY_enter post (nI A, nI T, nI N, nI D, nI P, nI E, bl, mk, kd, pv, qo, ic, xn, xw, nw, py, pe, am, rl, rf, st, e1, e2, e3, e4, e5) k ac amt dl := by
  have pE : vp_in (nI E) 64 := vp_in_nI hE (by omega)
  have c : nI E < (64 : Int32) := nI_lt (b := 64) hE (by decide)
  exact br_t c ⟨pE, nm_r (cx_ud e1 _ (by omega)) ⟨pE, nm_r (cx_ud e2 _ (by omega)) ⟨pE, nm_r (cx_ud e3 _ (by omega)) ⟨pE, nm_r (cx_ud e4 _ (by omega)) ⟨pE, nm_r (cx_ud e5 _ (by omega)) (nm_r (nI_1 E) h)⟩⟩⟩⟩⟩
/-- deal d moves: both sides make the same move -/
def cm_mv (t : Int32) (A T N D P E : Nat) (bl mk kd pv qo ic xn xw nw py pe am rl rf st e1 e2 e3 e4 e5 : Nat → Int32) (d : Nat) : Prop :=
  ∃ (mv : Int32) (bl' st' e1' e2' e3' e4' e5' : Nat → Int32), cx_D A N D py pe rl rf st' ∧ E + 1 = P + cx_rs st' D ∧ ¬ mv = -1 ∧
    (∀ post : Int32 → Prop, post mv → wpX_nextMove post (nI A, nI T, nI N, nI D, nI P, nI E, bl, mk, kd, pv, qo, ic, xn, xw, py, pe, am, rl, rf, st, e1, e2, e3, e4, e5) (nI d) t) ∧
    (∀ post : SX → Prop, post (nI A, nI T, nI N, nI D, nI P, nI (E + 1), bl', mk, kd, pv, qo, ic, xn, xw, py, pe, am, rl, rf, st', e1', e2', e3', e4', e5') → wpX_makeMove post (nI A, nI T, nI N, nI D, nI P, nI E, bl, mk, kd, pv, qo, ic, xn, xw, py, pe, am, rl, rf, st, e1, e2, e3, e4, e5) (nI d) mv) ∧
    (∀ post : Int32 → Prop, post 1 → wpY_canMove post (nI A, nI T, nI N, nI D, nI P, nI E, bl, mk, kd, pv, qo, ic, xn, xw, nw, py, pe, am, rl, rf, st, e1, e2, e3, e4, e5) (nI d)) ∧
    (∀ post : SY → Prop, post (nI A, nI T, nI N, nI D, nI P, nI (E + 1), bl', mk, kd, pv, qo, ic, xn, xw, nw, py, pe, am, rl, rf, st', e1', e2', e3', e4', e5') → wpY_makeMove post (nI A, nI T, nI N, nI D, nI P, nI E, bl, mk, kd, pv, qo, ic, xn, xw, nw, py, pe, am, rl, rf, st, e1, e2, e3, e4, e5) (nI d))
theorem cm_D {A N D d : Nat} {py pe rl rf st : Nat → Int32} {x : Int32} (H : cx_D A N D py pe rl rf st) (hs : st d = 1 ∨ st d = 2) : cx_D A N D py pe rl rf (upd st d x) := by
  intro i hi
  obtain ⟨h1, h2, h3, h4⟩ := H i hi
  refine ⟨h1, h2, h3, ?_⟩
  by_cases e : i = d
  · subst e; intro _; exact h4 hs
  · rw [pk_un e]; exact h4
theorem cm_one {A T N D P E : Nat} {bl mk kd pv qo ic xn xw nw py pe am rl rf st e1 e2 e3 e4 e5 : Nat → Int32} (t : Int32) (d : Nat) (hd : d < D) (G : cx_G A T N D P E mk kd pv qo ic xn py pe rl rf st) (hT : cx_T N t nw) :
    ((∀ post : Int32 → Prop, post (-1) → wpX_nextMove post (nI A, nI T, nI N, nI D, nI P, nI E, bl, mk, kd, pv, qo, ic, xn, xw, py, pe, am, rl, rf, st, e1, e2, e3, e4, e5) (nI d) t) ∧ (∀ post : Int32 → Prop, post 0 → wpY_canMove post (nI A, nI T, nI N, nI D, nI P, nI E, bl, mk, kd, pv, qo, ic, xn, xw, nw, py, pe, am, rl, rf, st, e1, e2, e3, e4, e5) (nI d))) ∨
    cm_mv t A T N D P E bl mk kd pv qo ic xn xw nw py pe am rl rf st e1 e2 e3 e4 e5 d := by
  obtain ⟨⟨hA2, hA⟩, hTT, hN, hD, hP, hE, HN, HD⟩ := G
  obtain ⟨⟨a, ha, hpy⟩, ⟨b, hb, hpe⟩, hrl, hnd⟩ := HD d hd
  have pd : vp_in (nI d) 12 := vp_in_nI (by omega) (by omega)
  have est : st (nI d).toNatClampNeg = st d := cx_at st (by omega)
  have epy : py (nI d).toNatClampNeg = nI a := (cx_at py (by omega)).trans hpy
  have epe : pe (nI d).toNatClampNeg = nI b := (cx_at pe (by omega)).trans hpe
  have eam : am (nI d).toNatClampNeg = am d := cx_at am (by omega)
  have ca : (nI a).toNatClampNeg = a := cx_cl (by omega)
  have cb : (nI b).toNatClampNeg = b := cx_cl (by omega)
  have pa : vp_in (nI a) 6 := vp_in_nI (by omega) (by omega)
  have pb : vp_in (nI b) 6 := vp_in_nI (by omega) (by omega)
  have pa' : vp_in (py (nI d).toNatClampNeg) 6 := by rw [epy]; exact pa
  have pb' : vp_in (pe (nI d).toNatClampNeg) 6 := by rw [epe]; exact pb
  have n12 : ¬ (1 : Int32) = 2 := by decide
  by_cases s1 : st d = 1
  · have s1' : st (nI d).toNatClampNeg = 1 := est.trans s1
    have ebl : bl (py (nI d).toNatClampNeg).toNatClampNeg = bl a := by rw [epy, ca]
    by_cases hlt : bl a < am d
    · have hlt' : bl (py (nI d).toNatClampNeg).toNatClampNeg < am (nI d).toNatClampNeg := by rw [ebl, eam]; exact hlt
      exact Or.inl ⟨fun post hp => ⟨pd, br_t s1' ⟨pd, pa', pd, br_t hlt' hp⟩⟩, fun post hp => ⟨pd, br_t s1' ⟨pd, pa', pd, br_t hlt' hp⟩⟩⟩
    · have hlt' : ¬ bl (py (nI d).toNatClampNeg).toNatClampNeg < am (nI d).toNatClampNeg := by rw [ebl, eam]; exact hlt
      have r1 : cx_rk (st d) = 0 := by rw [s1]; decide
      have r2 : cx_rk 2 = 1 := by decide
      have hin := cx_rs_in st d 2 D hd
      have hl := cx_rs_lt st d D hd (by omega)
      have uy : upd bl (py (nI d).toNatClampNeg).toNatClampNeg (bl (py (nI d).toNatClampNeg).toNatClampNeg - am (nI d).toNatClampNeg) = upd bl a (bl a + -(am d)) := by rw [epy, ca, eam, Int32.sub_eq_add_neg]
      refine Or.inr ⟨1, upd bl a (bl a + -(am d)), upd st d 2, upd e1 E 1, upd e2 E (nI a), upd e3 E (am d), upd e4 E (nI d), upd e5 E (nI T), cm_D HD (Or.inl s1), by omega, by decide, fun post hp => ⟨pd, br_t s1' ⟨pd, pa', pd, br_f hlt' hp⟩⟩, fun post hp => ?_, fun post hp => ⟨pd, br_t s1' ⟨pd, pa', pd, br_f hlt' hp⟩⟩, fun post hp => ?_⟩
      · refine br_t rfl ⟨pd, nm_r (cx_ud st 2 (by omega)) ?_⟩
        refine br_f n12 ⟨pd, ⟨pd, ?_⟩⟩
        rw [epy, eam]
        exact ce_book (by omega) (by omega) (Or.inl ⟨rfl, rfl⟩) _ hp
      · refine ⟨pd, br_t s1' ⟨pd, pa', pd, pa', nm_r uy ⟨pd, nm_r (cx_ud st 2 (by omega)) ⟨pd, pd, ?_⟩⟩⟩⟩
        rw [epy, eam]
        exact ce_enter (by omega) _ hp
  · have s1' : ¬ st (nI d).toNatClampNeg = 1 := by rw [est]; exact s1
    by_cases s2 : st d = 2
    · have s2' : st (nI d).toNatClampNeg = 2 := est.trans s2
      obtain ⟨⟨n, hn, hrn⟩, ⟨f, hf, hrf⟩⟩ := hnd (Or.inr s2)
      have ern : rl (nI d).toNatClampNeg = nI n := (cx_at rl (by omega)).trans hrn
      have erf : rf (nI d).toNatClampNeg = nI f := (cx_at rf (by omega)).trans hrf
      have pn : vp_in (rl (nI d).toNatClampNeg) 24 := by rw [ern]; exact vp_in_nI (by omega) (by omega)
      have pf : vp_in (rf (nI d).toNatClampNeg) 24 := by rw [erf]; exact vp_in_nI (by omega) (by omega)
      have nwn : nw (rl (nI d).toNatClampNeg).toNatClampNeg = nw n := by rw [ern, cx_cl (by omega)]
      have nwf : nw (rf (nI d).toNatClampNeg).toNatClampNeg = nw f := by rw [erf, cx_cl (by omega)]
      have r1 : cx_rk (st d) = 1 := by rw [s2]; decide
      have r3 : cx_rk 3 = 2 := by decide
      have r4 : cx_rk 4 = 2 := by decide
      have hl := cx_rs_lt st d D hd (by omega)
      rcases hT n hn with ⟨hbt, hnw⟩ | ⟨hbt, hnw⟩
      · have hi : ((t >>> (rl (nI d).toNatClampNeg &&& 31)) &&& 1) = 1 := by rw [ern]; exact cx_bt1 (by omega) hbt
        have hq : ¬ nw (rl (nI d).toNatClampNeg).toNatClampNeg = 0 := by rw [nwn]; exact hnw
        have hin := cx_rs_in st d 3 D hd
        have uy : upd bl (pe (nI d).toNatClampNeg).toNatClampNeg (bl (pe (nI d).toNatClampNeg).toNatClampNeg + am (nI d).toNatClampNeg) = upd bl b (bl b + am d) := by rw [epe, cb, eam]
        refine Or.inr ⟨2, upd bl b (bl b + am d), upd st d 3, upd e1 E 2, upd e2 E (nI b), upd e3 E (am d), upd e4 E (nI d), upd e5 E (nI T), cm_D HD (Or.inr s2), by omega, by decide, fun post hp => ?_, fun post hp => ?_, fun post hp => ?_, fun post hp => ?_⟩
        · exact ⟨pd, br_f s1' ⟨pd, br_t s2' ⟨pd, br_t hi (br_f cx_10 hp)⟩⟩⟩
        · refine br_f (by decide) (br_t rfl ⟨pd, nm_r (cx_ud st 3 (by omega)) ?_⟩)
          refine br_t rfl ⟨pd, ⟨pd, ?_⟩⟩
          rw [epe, eam]
          exact ce_book (by omega) (by omega) (Or.inr ⟨by decide, rfl⟩) _ hp
        · exact ⟨pd, br_f s1' ⟨pd, br_t s2' ⟨pd, pn, br_f hq hp⟩⟩⟩
        · refine ⟨pd, br_f s1' ⟨pd, pn, br_f hq ⟨pd, pb', pd, pb', nm_r uy ⟨pd, nm_r (cx_ud st 3 (by omega)) ⟨pd, pd, ?_⟩⟩⟩⟩⟩
          rw [epe, eam]
          exact ce_enter (by omega) _ hp
      · have hi : ¬ ((t >>> (rl (nI d).toNatClampNeg &&& 31)) &&& 1) = 1 := by rw [ern]; exact cx_bt0 (by omega) hbt
        have hq : nw (rl (nI d).toNatClampNeg).toNatClampNeg = 0 := by rw [nwn]; exact hnw
        rcases hT f hf with ⟨fbt, fnw⟩ | ⟨fbt, fnw⟩
        · have fi : ((t >>> (rf (nI d).toNatClampNeg &&& 31)) &&& 1) = 1 := by rw [erf]; exact cx_bt1 (by omega) fbt
          have fq : ¬ nw (rf (nI d).toNatClampNeg).toNatClampNeg = 0 := by rw [nwf]; exact fnw
          have hin := cx_rs_in st d 4 D hd
          have uy : upd bl (py (nI d).toNatClampNeg).toNatClampNeg (bl (py (nI d).toNatClampNeg).toNatClampNeg + am (nI d).toNatClampNeg) = upd bl a (bl a + am d) := by rw [epy, ca, eam]
          refine Or.inr ⟨3, upd bl a (bl a + am d), upd st d 4, upd e1 E 3, upd e2 E (nI a), upd e3 E (am d), upd e4 E (nI d), upd e5 E (nI T), cm_D HD (Or.inr s2), by omega, by decide, fun post hp => ?_, fun post hp => ?_, fun post hp => ?_, fun post hp => ?_⟩
          · exact ⟨pd, br_f s1' ⟨pd, br_t s2' ⟨pd, br_f hi (br_t rfl ⟨pd, br_t fi (br_f cx_10 hp)⟩)⟩⟩⟩
          · refine br_f (by decide) (br_f (by decide) ⟨pd, nm_r (cx_ud st 4 (by omega)) ?_⟩)
            refine br_f (by decide) ⟨pd, ⟨pd, ?_⟩⟩
            rw [epy, eam]
            exact ce_book (by omega) (by omega) (Or.inr ⟨by decide, rfl⟩) _ hp
          · exact ⟨pd, br_f s1' ⟨pd, br_t s2' ⟨pd, pn, br_t hq ⟨pd, pf, br_f fq hp⟩⟩⟩⟩
          · refine ⟨pd, br_f s1' ⟨pd, pn, br_t hq ⟨pd, pa', pd, pa', nm_r uy ⟨pd, nm_r (cx_ud st 4 (by omega)) ⟨pd, pd, ?_⟩⟩⟩⟩⟩
            rw [epy, eam]
            exact ce_enter (by omega) _ hp
        · have fi : ¬ ((t >>> (rf (nI d).toNatClampNeg &&& 31)) &&& 1) = 1 := by rw [erf]; exact cx_bt0 (by omega) fbt
          have fq : nw (rf (nI d).toNatClampNeg).toNatClampNeg = 0 := by rw [nwf]; exact fnw
          refine Or.inl ⟨fun post hp => ?_, fun post hp => ?_⟩
          · exact ⟨pd, br_f s1' ⟨pd, br_t s2' ⟨pd, br_f hi (br_t rfl ⟨pd, br_f fi (br_t rfl hp)⟩)⟩⟩⟩
          · exact ⟨pd, br_f s1' ⟨pd, br_t s2' ⟨pd, pn, br_t hq ⟨pd, pf, br_t fq hp⟩⟩⟩⟩
    · have s2' : ¬ st (nI d).toNatClampNeg = 2 := by rw [est]; exact s2
      exact Or.inl ⟨fun post hp => ⟨pd, br_f s1' ⟨pd, br_f s2' hp⟩⟩, fun post hp => ⟨pd, br_f s1' ⟨pd, br_f s2' hp⟩⟩⟩
/-- the first deal that can move -/
theorem cm_loop {A T N D P E : Nat} {bl mk kd pv qo ic xn xw nw py pe am rl rf st e1 e2 e3 e4 e5 : Nat → Int32} (t : Int32) (G : cx_G A T N D P E mk kd pv qo ic xn py pe rl rf st) (hT : cx_T N t nw) : ∀ e d : Nat, d + e = D →
    ((∀ post : Int32 → Prop, post (-1) → wX_firstThatCanMove_2 post t (nI A) (nI T) (nI N) (nI D) (nI P) (nI E) bl mk kd pv qo ic xn xw py pe am rl rf st e1 e2 e3 e4 e5 (e + 1) (nI d)) ∧ (∀ post : Int32 → Prop, post (-1) → wY_nextMover_2 post (nI A) (nI T) (nI N) (nI D) (nI P) (nI E) bl mk kd pv qo ic xn xw nw py pe am rl rf st e1 e2 e3 e4 e5 (e + 1) (nI d))) ∨
    ∃ d', d' < D ∧ cm_mv t A T N D P E bl mk kd pv qo ic xn xw nw py pe am rl rf st e1 e2 e3 e4 e5 d' ∧
      (∀ post : Int32 → Prop, post (nI d') → wX_firstThatCanMove_2 post t (nI A) (nI T) (nI N) (nI D) (nI P) (nI E) bl mk kd pv qo ic xn xw py pe am rl rf st e1 e2 e3 e4 e5 (e + 1) (nI d)) ∧ (∀ post : Int32 → Prop, post (nI d') → wY_nextMover_2 post (nI A) (nI T) (nI N) (nI D) (nI P) (nI E) bl mk kd pv qo ic xn xw nw py pe am rl rf st e1 e2 e3 e4 e5 (e + 1) (nI d)) := by
  have hD : D ≤ 12 := G.2.2.2.1
  intro e
  induction e with
  | zero =>
    intro d hd
    have h : nI D ≤ nI d := nI_le (by omega) (by omega)
    exact Or.inl ⟨fun post hp => br_t h hp, fun post hp => br_t h hp⟩
  | succ e ih =>
    intro d hd
    have h : ¬ nI D ≤ nI d := nI_ge (by omega) (by omega)
    have h2 : ¬ (12 : Int32) ≤ nI d := nI_ge (b := 12) (by omega) (by decide)
    rcases cm_one (bl := bl) (xw := xw) (am := am) (e1 := e1) (e2 := e2) (e3 := e3) (e4 := e4) (e5 := e5) t d (by omega) G hT with ⟨hX, hY⟩ | M
    · rcases ih (d + 1) (by omega) with ⟨iX, iY⟩ | ⟨d', hd', M, iX, iY⟩
      · exact Or.inl ⟨fun post hp => br_f h (hX _ (br_t rfl (nm_r (nI_1 d) (iX post hp)))), fun post hp => br_f h (br_f h2 (hY _ (br_t rfl (nm_r (nI_1 d) (iY post hp)))))⟩
      · exact Or.inr ⟨d', hd', M, fun post hp => br_f h (hX _ (br_t rfl (nm_r (nI_1 d) (iX post hp)))), fun post hp => br_f h (br_f h2 (hY _ (br_t rfl (nm_r (nI_1 d) (iY post hp)))))⟩
    · have M' := M
      obtain ⟨mv, _, _, _, _, _, _, _, _, _, hm, hX, _, hY, _⟩ := M'
      exact Or.inr ⟨d, by omega, M, fun post hp => br_f h (hX _ (br_f hm hp)), fun post hp => br_f h (br_f h2 (hY _ (br_f cx_10 hp)))⟩
/-- nobody moves: the reference idles to its end -/
theorem cf_idle {A T N D P E : Nat} {bl mk kd pv qo ic xn xw nw py pe am rl rf st e1 e2 e3 e4 e5 : Nat → Int32} (x : Int32) (hY : ∀ post : Int32 → Prop, post (-1) → wpY_nextMover post (nI A, nI T, nI N, nI D, nI P, nI E, bl, mk, kd, pv, qo, ic, xn, xw, nw, py, pe, am, rl, rf, st, e1, e2, e3, e4, e5)) (post : Int32 → SY → Prop) (hp : post x (nI A, nI T, nI N, nI D, nI P, nI E, bl, mk, kd, pv, qo, ic, xn, xw, nw, py, pe, am, rl, rf, st, e1, e2, e3, e4, e5)) :
    ∀ f k : Nat, k + f = 24 → wY_settle_12 post (f + 1) x (nI k) (nI A) (nI T) (nI N) (nI D) (nI P) (nI E) bl mk kd pv qo ic xn xw nw py pe am rl rf st e1 e2 e3 e4 e5 := by
  intro f
  induction f with
  | zero =>
    intro k hk
    have h : (24 : Int32) ≤ nI k := nI_le (a := 24) (by omega) (by omega)
    exact br_t h hp
  | succ f ih =>
    intro k hk
    have h : ¬ (24 : Int32) ≤ nI k := nI_ge (b := 24) (by omega) (by decide)
    exact br_f h (hY _ (br_t (by decide) (nm_r (nI_1 k) (ih (k + 1) (by omega)))))
/-- the moves of one settling -/
theorem cf_loop {A T N D P : Nat} {mk kd pv qo ic xn xw nw py pe am rl rf : Nat → Int32} (t : Int32) (hT : cx_T N t nw) : ∀ (f m E : Nat) (bl st e1 e2 e3 e4 e5 : Nat → Int32), m + f = 24 → cx_G A T N D P E mk kd pv qo ic xn py pe rl rf st →
    ∃ (r : Int32) (E' : Nat) (bl' st' e1' e2' e3' e4' e5' : Nat → Int32), cx_G A T N D P E' mk kd pv qo ic xn py pe rl rf st' ∧
      (∀ post : Int32 → SX → Prop, post r (nI A, nI T, nI N, nI D, nI P, nI E', bl', mk, kd, pv, qo, ic, xn, xw, py, pe, am, rl, rf, st', e1', e2', e3', e4', e5') → wX_settle_11 post t (f + 1) (nI m) (nI A) (nI T) (nI N) (nI D) (nI P) (nI E) bl mk kd pv qo ic xn xw py pe am rl rf st e1 e2 e3 e4 e5) ∧
      (∀ post : Int32 → SY → Prop, post r (nI A, nI T, nI N, nI D, nI P, nI E', bl', mk, kd, pv, qo, ic, xn, xw, nw, py, pe, am, rl, rf, st', e1', e2', e3', e4', e5') → wY_settle_12 post (f + 1) (nI m) (nI m) (nI A) (nI T) (nI N) (nI D) (nI P) (nI E) bl mk kd pv qo ic xn xw nw py pe am rl rf st e1 e2 e3 e4 e5) := by
  intro f
  induction f with
  | zero =>
    intro m E bl st e1 e2 e3 e4 e5 hm G
    have h : (24 : Int32) ≤ nI m := nI_le (a := 24) (by omega) (by omega)
    exact ⟨nI m, E, bl, st, e1, e2, e3, e4, e5, G, fun post hp => br_t h hp, fun post hp => br_t h hp⟩
  | succ f ih =>
    intro m E bl st e1 e2 e3 e4 e5 hm G
    have h : ¬ (24 : Int32) ≤ nI m := nI_ge (b := 24) (by omega) (by decide)
    have J := G
    obtain ⟨gA, gT, gN, gD, gP, gE, HN, HD⟩ := J
    rcases cm_loop (bl := bl) (xw := xw) (am := am) (e1 := e1) (e2 := e2) (e3 := e3) (e4 := e4) (e5 := e5) t G hT D 0 (by omega) with ⟨iX, iY⟩ | ⟨d, hd, M, iX, iY⟩
    · exact ⟨nI m, E, bl, st, e1, e2, e3, e4, e5, G, fun post hp => br_f h ⟨D + 1, iX _ (br_t rfl hp)⟩,
        fun post hp => cf_idle (nI m) (fun _ hq => ⟨D + 1, iY _ hq⟩) post hp (f + 1) m (by omega)⟩
    · obtain ⟨mv, bl', st', e1', e2', e3', e4', e5', HD', hE', hmv, hX1, hX2, hY1, hY2⟩ := M
      have hr : ¬ nI d = -1 := cx_m1 (by omega)
      have hr0 : ¬ nI d < 0 := nI_pos (by omega)
      obtain ⟨r, E2, bl2, st2, e12, e22, e32, e42, e52, G2, fX, fY⟩ := ih (m + 1) (E + 1) bl' st' e1' e2' e3' e4' e5' (by omega) ⟨gA, gT, gN, gD, gP, hE', HN, HD'⟩
      refine ⟨r, E2, bl2, st2, e12, e22, e32, e42, e52, G2, fun post hp => br_f h ⟨D + 1, iX _ (br_f hr (hX1 _ (hX2 _ (nm_r (nI_1 m) (fX post hp)))))⟩, fun post hp => br_f h ⟨D + 1, iY _ (br_f hr0 (hY2 _ (nm_r (nI_1 m) (nm_r (nI_1 m) (fY post hp)))))⟩⟩
/-- one settling: one number of moves, related states -/
theorem cf_settle {A T N D P E : Nat} {bl mk kd pv qo ic xn xw nw py pe am rl rf st e1 e2 e3 e4 e5 : Nat → Int32} (G : cx_G A T N D P E mk kd pv qo ic xn py pe rl rf st) :
    ∃ (r : Int32) (E' : Nat) (bl' nw' st' e1' e2' e3' e4' e5' : Nat → Int32), cx_G A T N D P E' mk kd pv qo ic xn py pe rl rf st' ∧
      (∀ post : Int32 → SX → Prop, post r (nI A, nI T, nI N, nI D, nI P, nI E', bl', mk, kd, pv, qo, ic, xn, xw, py, pe, am, rl, rf, st', e1', e2', e3', e4', e5') → wpX_settle post (nI A, nI T, nI N, nI D, nI P, nI E, bl, mk, kd, pv, qo, ic, xn, xw, py, pe, am, rl, rf, st, e1, e2, e3, e4, e5)) ∧
      (∀ post : Int32 → SY → Prop, post r (nI A, nI T, nI N, nI D, nI P, nI E', bl', mk, kd, pv, qo, ic, xn, xw, nw', py, pe, am, rl, rf, st', e1', e2', e3', e4', e5') → wpY_settle post (nI A, nI T, nI N, nI D, nI P, nI E, bl, mk, kd, pv, qo, ic, xn, xw, nw, py, pe, am, rl, rf, st, e1, e2, e3, e4, e5)) := by
  obtain ⟨t, nw', hT, tX, tY⟩ := cw_all (A := A) (T := T) (D := D) (P := P) (E := E) (bl := bl) (xw := xw) (nw := nw) (py := py) (pe := pe) (am := am) (rl := rl) (rf := rf) (st := st) (e1 := e1) (e2 := e2) (e3 := e3) (e4 := e4) (e5 := e5) (nI T) G.2.2.1 G.2.2.2.2.2.2.1
  obtain ⟨r, E', bl', st', e1', e2', e3', e4', e5', G', fX, fY⟩ := cf_loop (xw := xw) (am := am) t hT 24 0 E bl st e1 e2 e3 e4 e5 (by omega) G
  exact ⟨r, E', bl', nw', st', e1', e2', e3', e4', e5', G', fun post hp => tX _ ⟨24 + 1, fX post hp⟩, fun post hp => tY _ ⟨24 + 1, fY post hp⟩⟩
