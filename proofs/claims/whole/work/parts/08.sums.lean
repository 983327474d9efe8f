/-- the sum of the held deals -/
theorem ch_loop {A T N D P E : Nat} {bl mk kd pv qo ic xn xw nw py pe am rl rf st e1 e2 e3 e4 e5 : Nat → Int32} (hD : D ≤ 12) : ∀ (f d : Nat) (s : Int32), d + f = D → ∃ r : Int32,
    (∀ post : Int32 → Prop, post r → wX_held_4 post (nI A) (nI T) (nI N) (nI D) (nI P) (nI E) bl mk kd pv qo ic xn xw py pe am rl rf st e1 e2 e3 e4 e5 (f + 1) s (nI d)) ∧ (∀ post : Int32 → Prop, post r → wY_held_4 post (nI A) (nI T) (nI N) (nI D) (nI P) (nI E) bl mk kd pv qo ic xn xw nw py pe am rl rf st e1 e2 e3 e4 e5 (f + 1) s (nI d)) := by
  intro f
  induction f with
  | zero =>
    intro d s hd
    have h : nI D ≤ nI d := nI_le (by omega) (by omega)
    exact ⟨s, fun post hp => br_t h hp, fun post hp => br_t h hp⟩
  | succ f ih =>
    intro d s hd
    have h : ¬ nI D ≤ nI d := nI_ge (by omega) (by omega)
    have h2 : ¬ (12 : Int32) ≤ nI d := nI_ge (b := 12) (by omega) (by decide)
    have pd : vp_in (nI d) 12 := vp_in_nI (by omega) (by omega)
    by_cases c : st (nI d).toNatClampNeg = 2
    · obtain ⟨r, hX, hY⟩ := ih (d + 1) (s + am (nI d).toNatClampNeg) (by omega)
      exact ⟨r, fun post hp => br_f h ⟨pd, br_t c ⟨pd, nm_e (nm_r (nI_1 d) (hX post hp))⟩⟩, fun post hp => br_f h (br_f h2 ⟨pd, br_t c ⟨pd, nm_e (nm_r (nI_1 d) (hY post hp))⟩⟩)⟩
    · obtain ⟨r, hX, hY⟩ := ih (d + 1) s (by omega)
      exact ⟨r, fun post hp => br_f h ⟨pd, br_f c (nm_r (nI_1 d) (hX post hp))⟩, fun post hp => br_f h (br_f h2 ⟨pd, br_f c (nm_r (nI_1 d) (hY post hp))⟩)⟩
theorem i_vc_held {k : Nat} {u : SX} {v : SY} (I : i_Rel k u v) (hk : k + 4 ≤ 2049) : wpX_held (fun r => wpY_held (fun r' => r' = r ∧ i_Rel (k + 4) u v) v) u := by
  obtain ⟨A, T, N, D, P, E, bl, mk, kd, pv, qo, ic, xn, xw, nw, py, pe, am, rl, rf, st, e1, e2, e3, e4, e5, rfl, rfl, G⟩ := I
  obtain ⟨r, hX, hY⟩ := ch_loop (A := A) (T := T) (D := D) (P := P) (E := E) (bl := bl) (xw := xw) (nw := nw) (py := py) (pe := pe) (am := am) (rl := rl) (rf := rf) (st := st) (e1 := e1) (e2 := e2) (e3 := e3) (e4 := e4) (e5 := e5) (mk := mk) (kd := kd) (pv := pv) (qo := qo) (ic := ic) (xn := xn) (N := N) G.2.2.2.1 D 0 0 (by omega)
  exact ⟨D + 1, hX _ ⟨D + 1, hY _ ⟨rfl, cx_rel _ G⟩⟩⟩
/-- what entry i changes for an account -/
def cv_ch (e1 e2 e3 : Nat → Int32) (ac : Int32) (i : Nat) : Int32 := if e2 i = ac then (if e1 i = 1 then -(e3 i) else e3 i) else 0
def cv_sum (e1 e2 e3 : Nat → Int32) (ac : Int32) : Nat → Int32
  | 0 => 0
  | n + 1 => cv_sum e1 e2 e3 ac n + cv_ch e1 e2 e3 ac n
theorem cv_pure {e1 e2 e3 : Nat → Int32} {ac : Int32} {i : Nat} (hi : i < 64) {post : Int32 → Prop} (h : post (cv_ch e1 e2 e3 ac i)) :
    vp_in (nI i) 64 ∧ (((e2 (nI i).toNatClampNeg) = ac → (vp_in (nI i) 64 ∧ (((e1 (nI i).toNatClampNeg) = 1 → (vp_in (nI i) 64 ∧ (post (-(e3 (nI i).toNatClampNeg))))) ∧ (¬ (e1 (nI i).toNatClampNeg) = 1 → (vp_in (nI i) 64 ∧ (post (e3 (nI i).toNatClampNeg))))))) ∧ (¬ (e2 (nI i).toNatClampNeg) = ac → (post 0))) := by
  have p : vp_in (nI i) 64 := vp_in_nI hi (by omega)
  rw [cx_cl (by omega)]
  unfold cv_ch at h
  by_cases a : e2 i = ac
  · rw [if_pos a] at h
    by_cases b : e1 i = 1
    · rw [if_pos b] at h
      exact ⟨p, br_t a ⟨p, br_t b ⟨p, h⟩⟩⟩
    · rw [if_neg b] at h
      exact ⟨p, br_t a ⟨p, br_f b ⟨p, h⟩⟩⟩
  · rw [if_neg a] at h
    exact ⟨p, br_f a h⟩
theorem cv_x {A T N D P E : Nat} {bl mk kd pv qo ic xn xw py pe am rl rf st e1 e2 e3 e4 e5 : Nat → Int32} {ac : Int32} {i : Nat} (hi : i < 64) {post : Int32 → Prop} (h : post (cv_ch e1 e2 e3 ac i)) : wpX_changeBy post (nI A, nI T, nI N, nI D, nI P, nI E, bl, mk, kd, pv, qo, ic, xn, xw, py, pe, am, rl, rf, st, e1, e2, e3, e4, e5) (nI i) ac := cv_pure hi h
theorem cv_y {A T N D P E : Nat} {bl mk kd pv qo ic xn xw nw py pe am rl rf st e1 e2 e3 e4 e5 : Nat → Int32} {ac : Int32} {i : Nat} (hi : i < 64) {post : Int32 → Prop} (h : post (cv_ch e1 e2 e3 ac i)) : wpY_effect post (nI A, nI T, nI N, nI D, nI P, nI E, bl, mk, kd, pv, qo, ic, xn, xw, nw, py, pe, am, rl, rf, st, e1, e2, e3, e4, e5) ac (nI i) := cv_pure hi h
theorem cb_loop {A T N D P E : Nat} {bl mk kd pv qo ic xn xw nw py pe am rl rf st e1 e2 e3 e4 e5 : Nat → Int32} (hE : E ≤ 64) (ac dy : Int32) : ∀ (f i : Nat) (s : Int32), i + f = E → ∃ r : Int32,
    (∀ post : Int32 → Prop, post r → wX_balanceOn_15 post ac dy (nI A) (nI T) (nI N) (nI D) (nI P) (nI E) bl mk kd pv qo ic xn xw py pe am rl rf st e1 e2 e3 e4 e5 (f + 1) s (nI i)) ∧ (∀ post : Int32 → Prop, post r → wY_balanceOn_15 post ac dy (nI A) (nI T) (nI N) (nI D) (nI P) (nI E) bl mk kd pv qo ic xn xw nw py pe am rl rf st e1 e2 e3 e4 e5 (f + 1) s (nI i)) := by
  intro f
  induction f with
  | zero =>
    intro d s hd
    have h : nI E ≤ nI d := nI_le (by omega) (by omega)
    exact ⟨s, fun post hp => br_t h hp, fun post hp => br_t h hp⟩
  | succ f ih =>
    intro d s hd
    have h : ¬ nI E ≤ nI d := nI_ge (by omega) (by omega)
    have h2 : ¬ (64 : Int32) ≤ nI d := nI_ge (b := 64) (by omega) (by decide)
    have pd : vp_in (nI d) 64 := vp_in_nI (by omega) (by omega)
    by_cases c : dy < e5 (nI d).toNatClampNeg
    · obtain ⟨r, hX, hY⟩ := ih (d + 1) s (by omega)
      exact ⟨r, fun post hp => br_f h ⟨pd, br_t c (nm_r (nI_1 d) (hX post hp))⟩, fun post hp => br_f h (br_f h2 ⟨pd, br_t c (nm_r (nI_1 d) (hY post hp))⟩)⟩
    · obtain ⟨r, hX, hY⟩ := ih (d + 1) (s + cv_ch e1 e2 e3 ac d) (by omega)
      exact ⟨r, fun post hp => br_f h ⟨pd, br_f c (cv_x (by omega) (nm_e (nm_r (nI_1 d) (hX post hp))))⟩, fun post hp => br_f h (br_f h2 ⟨pd, br_f c (cv_y (by omega) (nm_e (nm_r (nI_1 d) (hY post hp))))⟩)⟩
theorem i_vc_balanceOn {k : Nat} {u : SX} {v : SY} (I : i_Rel k u v) (hk : k + 4 ≤ 2049) (v1 : Int32) (v2 : Int32) : wpX_balanceOn (fun r => wpY_balanceOn (fun r' => r' = r ∧ i_Rel (k + 4) u v) v v1 v2) u v1 v2 := by
  obtain ⟨A, T, N, D, P, E, bl, mk, kd, pv, qo, ic, xn, xw, nw, py, pe, am, rl, rf, st, e1, e2, e3, e4, e5, rfl, rfl, G⟩ := I
  have gA : A ≤ 6 := G.1.2
  unfold wpX_balanceOn
  rcases cq_ix v1 (n := A) (by omega) with h | ⟨a, ha, rfl⟩
  · refine cq_xAccount_no h (br_t rfl ?_)
    unfold wpY_balanceOn
    exact cq_yAccount_no h (br_f cx_10 ⟨rfl, cx_rel _ G⟩)
  · obtain ⟨r, hX, hY⟩ := cb_loop (A := A) (T := T) (D := D) (P := P) (E := E) (bl := bl) (xw := xw) (nw := nw) (py := py) (pe := pe) (am := am) (rl := rl) (rf := rf) (st := st) (e1 := e1) (e2 := e2) (e3 := e3) (e4 := e4) (e5 := e5) (mk := mk) (kd := kd) (pv := pv) (qo := qo) (ic := ic) (xn := xn) (N := N) (cq_E G) (nI a) v2 E 0 0 (by omega)
    refine cq_xAccount_ok ha gA (br_f cx_10 ⟨E + 1, hX _ ?_⟩)
    unfold wpY_balanceOn
    exact cq_yAccount_ok ha gA (br_t rfl ⟨E + 1, hY _ ⟨rfl, cx_rel _ G⟩⟩)
/-- the reference sums anew -/
theorem cb_aft {A T N D P E : Nat} {bl mk kd pv qo ic xn xw nw py pe am rl rf st e1 e2 e3 e4 e5 : Nat → Int32} (ac : Int32) (k : Nat) (hk : k ≤ 64) {post : Int32 → Prop} (h : post (cv_sum e1 e2 e3 ac k)) : ∀ (f i : Nat), i + f = k → wY_balanceAfter_5 post ac (nI k) (nI A) (nI T) (nI N) (nI D) (nI P) (nI E) bl mk kd pv qo ic xn xw nw py pe am rl rf st e1 e2 e3 e4 e5 (f + 1) (cv_sum e1 e2 e3 ac i) (nI i) := by
  intro f
  induction f with
  | zero =>
    intro i hi
    have e : i = k := by omega
    subst e
    exact br_t (nI_le (Nat.le_refl _) (by omega)) h
  | succ f ih =>
    intro i hi
    have h1 : ¬ nI k ≤ nI i := nI_ge (by omega) (by omega)
    have h2 : ¬ (64 : Int32) ≤ nI i := nI_ge (b := 64) (by omega) (by decide)
    exact br_f h1 (br_f h2 (cv_y (by omega) (nm_e (nm_r (nI_1 i) (ih (i + 1) (by omega))))))
theorem cb_af {A T N D P E : Nat} {bl mk kd pv qo ic xn xw nw py pe am rl rf st e1 e2 e3 e4 e5 : Nat → Int32} (ac : Int32) (k : Nat) (hk : k ≤ 64) {post : Int32 → Prop} (h : post (cv_sum e1 e2 e3 ac k)) : wpY_balanceAfter post (nI A, nI T, nI N, nI D, nI P, nI E, bl, mk, kd, pv, qo, ic, xn, xw, nw, py, pe, am, rl, rf, st, e1, e2, e3, e4, e5) ac (nI k) :=
  ⟨k + 1, cb_aft ac k hk h k 0 (by omega)⟩
/-- the class's running sum at k beside the reference's sum at k + 1 -/
theorem cl_two {A T N D P E : Nat} {bl mk kd pv qo ic xn xw nw py pe am rl rf st e1 e2 e3 e4 e5 : Nat → Int32} (ac : Int32) (j : Nat) (hj : j ≤ 64) : ∀ (f k : Nat) (s : Int32), k + f = j → ∃ r : Int32,
    (∀ post : Int32 → Prop, post r → wX_lowest_67 post ac (nI j) (nI A) (nI T) (nI N) (nI D) (nI P) (nI E) bl mk kd pv qo ic xn xw py pe am rl rf st e1 e2 e3 e4 e5 (f + 1) (cv_sum e1 e2 e3 ac k) s (nI k)) ∧ (∀ post : Int32 → Prop, post r → wY_lowest_41 post ac (nI j) (nI A) (nI T) (nI N) (nI D) (nI P) (nI E) bl mk kd pv qo ic xn xw nw py pe am rl rf st e1 e2 e3 e4 e5 (f + 1) s (nI (k + 1))) := by
  intro f
  induction f with
  | zero =>
    intro k s hk
    exact ⟨s, fun post hp => br_t (nI_le (by omega) (by omega)) hp, fun post hp => br_t (nI_lt (by omega) (by omega)) hp⟩
  | succ f ih =>
    intro k s hk
    have h1 : ¬ nI j ≤ nI k := nI_ge (by omega) (by omega)
    have h2 : ¬ nI j < nI (k + 1) := nI_nlt (by omega) (by omega)
    have h3 : ¬ (64 : Int32) < nI (k + 1) := nI_nlt (a := 64) (by omega) (by omega)
    by_cases c : s ≤ cv_sum e1 e2 e3 ac (k + 1)
    · obtain ⟨r, hX, hY⟩ := ih (k + 1) s (by omega)
      exact ⟨r, fun post hp => br_f h1 (cv_x (by omega) (nm_r rfl (br_t c (nm_r (nI_1 k) (hX post hp))))), fun post hp => br_f h2 (br_f h3 (cb_af ac (k + 1) (by omega) (br_t c (nm_r (nI_1 (k + 1)) (hY post hp)))))⟩
    · obtain ⟨r, hX, hY⟩ := ih (k + 1) (cv_sum e1 e2 e3 ac (k + 1)) (by omega)
      exact ⟨r, fun post hp => br_f h1 (cv_x (by omega) (nm_r rfl (br_f c (nm_r (nI_1 k) (hX post hp))))), fun post hp => br_f h2 (br_f h3 (cb_af ac (k + 1) (by omega) (br_f c (nm_r (nI_1 (k + 1)) (hY post hp)))))⟩
theorem cl_one {A T N D P E : Nat} {bl mk kd pv qo ic xn xw py pe am rl rf st e1 e2 e3 e4 e5 : Nat → Int32} (ac : Int32) (i j : Nat) (hi : i ≤ 64) {post : Int32 → Prop} (n : Nat) (h : wX_lowest_67 post ac (nI j) (nI A) (nI T) (nI N) (nI D) (nI P) (nI E) bl mk kd pv qo ic xn xw py pe am rl rf st e1 e2 e3 e4 e5 n (cv_sum e1 e2 e3 ac i) (cv_sum e1 e2 e3 ac i) (nI i)) : ∀ (f k : Nat), k + f = i → wX_lowest_36 post ac (nI i) (nI j) (nI A) (nI T) (nI N) (nI D) (nI P) (nI E) bl mk kd pv qo ic xn xw py pe am rl rf st e1 e2 e3 e4 e5 (f + 1) (cv_sum e1 e2 e3 ac k) (nI k) := by
  intro f
  induction f with
  | zero =>
    intro k hk
    have e : k = i := by omega
    subst e
    exact br_t (nI_le (Nat.le_refl _) (by omega)) ⟨n, h⟩
  | succ f ih =>
    intro k hk
    have h1 : ¬ nI i ≤ nI k := nI_ge (by omega) (by omega)
    exact br_f h1 (cv_x (by omega) (nm_r rfl (nm_r (nI_1 k) (ih (k + 1) (by omega)))))
theorem i_vc_lowest {k : Nat} {u : SX} {v : SY} (I : i_Rel k u v) (hk : k + 4 ≤ 2049) (v1 : Int32) (v2 : Int32) (v3 : Int32) : wpX_lowest (fun r => wpY_lowest (fun r' => r' = r ∧ i_Rel (k + 4) u v) v v1 v2 v3) u v1 v2 v3 := by
  obtain ⟨A, T, N, D, P, E, bl, mk, kd, pv, qo, ic, xn, xw, nw, py, pe, am, rl, rf, st, e1, e2, e3, e4, e5, rfl, rfl, G⟩ := I
  have gA : A ≤ 6 := G.1.2
  have gE := cq_E G
  unfold wpX_lowest
  rcases cq_ix v1 (n := A) (by omega) with h | ⟨a, ha, rfl⟩
  · refine cq_xAccount_no h (br_t rfl ?_)
    unfold wpY_lowest
    exact cq_yAccount_no h (br_f cx_10 ⟨rfl, cx_rel _ G⟩)
  refine cq_xAccount_ok ha gA (br_f cx_10 ?_)
  unfold wpY_lowest
  by_cases a1 : v2 < 0
  · exact br_t a1 (cq_yAccount_ok ha gA (br_t rfl (br_t a1 ⟨rfl, cx_rel _ G⟩)))
  by_cases a2 : v3 < v2
  · exact br_f a1 (br_t a2 (cq_yAccount_ok ha gA (br_t rfl (br_f a1 (br_t a2 ⟨rfl, cx_rel _ G⟩)))))
  by_cases a3 : v3 ≤ nI E
  rotate_left
  · exact br_f a1 (br_f a2 (br_f a3 (cq_yAccount_ok ha gA (br_t rfl (br_f a1 (br_f a2 (br_f a3 ⟨rfl, cx_rel _ G⟩)))))))
  obtain ⟨i, hi, rfl⟩ := nI_of a1
  have b1 : ¬ v3 < 0 := fun z => a2 (Int32.lt_of_lt_of_le z (nI_pos' hi))
  obtain ⟨j, hj, rfl⟩ := nI_of b1
  have hij : i ≤ j := Nat.le_of_not_lt (fun z => a2 (nI_lt z hi))
  have hjE : j ≤ E := (nI_leI hj (by omega)).mp a3
  obtain ⟨r, hX, hY⟩ := cl_two (A := A) (T := T) (D := D) (P := P) (E := E) (bl := bl) (xw := xw) (nw := nw) (py := py) (pe := pe) (am := am) (rl := rl) (rf := rf) (st := st) (e1 := e1) (e2 := e2) (e3 := e3) (e4 := e4) (e5 := e5) (mk := mk) (kd := kd) (pv := pv) (qo := qo) (ic := ic) (xn := xn) (N := N) (nI a) j (by omega) (j - i) i (cv_sum e1 e2 e3 (nI a) i) (by omega)
  refine br_f a1 (br_f a2 (br_t a3 ⟨i + 1, cl_one (nI a) i j (by omega) (j - i + 1) (hX _ ?_) i 0 (by omega)⟩))
  refine cq_yAccount_ok ha gA (br_t rfl (br_f a1 (br_f a2 (br_t a3 (cb_af (nI a) i (by omega) ?_)))))
  refine ⟨j - i + 1 + 1, br_f (nI_nlt hij (by omega)) (br_f (nI_nlt (a := 64) (by omega) (by decide)) (cb_af (nI a) i (by omega) ?_))⟩
  exact br_t (Int32.le_refl _) (nm_r (nI_1 i) (hY _ ⟨rfl, cx_rel _ G⟩))
