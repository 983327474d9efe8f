section
theorem pk_us {f : Nat → Int32} {k : Nat} {x : Int32} : upd f k x k = x := if_pos rfl
theorem pk_un {f : Nat → Int32} {k j : Nat} {x : Int32} (h : j ≠ k) : upd f k x j = f j := if_neg h
theorem pk_sub {a b : Nat} (h : b ≤ a) : nI a - nI b = nI (a - b) := by
  obtain ⟨c, rfl⟩ : ∃ c, a = c + b := ⟨a - b, by omega⟩
  rw [← nI_add, Int32.add_sub_cancel, Nat.add_sub_cancel]
theorem pk_mul (a b : Nat) : nI a * nI b = nI (a * b) := (Int32.ofNat_mul a b).symm
theorem pk_ix (x : Int32) {n : Nat} (hn : n < 2 ^ 31) : x < 0 ∨ nI n ≤ x ∨ ∃ j : Nat, j < n ∧ x = nI j := by
  by_cases h : x < 0
  · exact Or.inl h
  · obtain ⟨j, hj, rfl⟩ := nI_of h
    by_cases h2 : j < n
    · exact Or.inr (Or.inr ⟨j, h2, rfl⟩)
    · exact Or.inr (Or.inl (nI_le (by omega) hj))
theorem pk_le {x y : Int32} {A B : Prop} (a b : Nat) (f : a ≤ b → A) (g : b < a → B) (hx : x = nI a := by rfl) (hy : y = nI b := by rfl) (ha : a < 2 ^ 31 := by omega) (hb : b < 2 ^ 31 := by omega) : (x ≤ y → A) ∧ (¬ x ≤ y → B) := by
  subst hx hy
  rw [nI_leI ha hb]
  exact ⟨f, fun z => g (by omega)⟩
theorem pk_lt {x y : Int32} {A B : Prop} (a b : Nat) (f : a < b → A) (g : b ≤ a → B) (hx : x = nI a := by rfl) (hy : y = nI b := by rfl) (ha : a < 2 ^ 31 := by omega) (hb : b < 2 ^ 31 := by omega) : (x < y → A) ∧ (¬ x < y → B) := by
  subst hx hy
  rw [nI_ltI ha hb]
  exact ⟨f, fun z => g (by omega)⟩
theorem pk_eq {x y : Int32} {A B : Prop} (a b : Nat) (f : a = b → A) (g : a ≠ b → B) (hx : x = nI a := by rfl) (hy : y = nI b := by rfl) (ha : a < 2 ^ 31 := by omega) (hb : b < 2 ^ 31 := by omega) : (x = y → A) ∧ (¬ x = y → B) := by
  subst hx hy
  rw [nI_eq ha hb]
  exact ⟨f, g⟩
theorem pk_in {x : Int32} (n N : Nat) (h : n < N) (hx : x = nI n := by rfl) (hN : N < 2 ^ 31 := by omega) : vp_in x N := by
  subst hx
  exact vp_in_nI h hN
theorem pk_cl {x : Int32} (n : Nat) (hx : x = nI n := by rfl) (h : n < 2 ^ 31 := by omega) : x.toNatClampNeg = n := by
  subst hx
  exact nI_clamp h
def bt (x : Int32) (i : Nat) : Bool := x.toBitVec.getLsbD i
theorem b_or (x y : Int32) (i : Nat) : bt (x ||| y) i = (bt x i || bt y i) := by unfold bt; rw [Int32.toBitVec_or, BitVec.getLsbD_or]
theorem b_and (x y : Int32) (i : Nat) : bt (x &&& y) i = (bt x i && bt y i) := by unfold bt; rw [Int32.toBitVec_and, BitVec.getLsbD_and]
theorem b_big {x : Int32} {i : Nat} (h : 32 ≤ i) : bt x i = false := BitVec.getLsbD_of_ge _ _ h
theorem b_0 (i : Nat) : bt 0 i = false := BitVec.getLsbD_zero
theorem s_l : ∀ n, n < 32 → ((nI n &&& 31).toBitVec.smod 32).toNat = n := by decide +kernel
theorem b_shl (n : Nat) (hn : n < 32) (x : Int32) {i : Nat} (hi : i < 32) : bt (x <<< (nI n &&& 31)) i = (decide (n ≤ i) && bt x (i - n)) := by
  unfold bt
  rw [Int32.toBitVec_shiftLeft]
  show (x.toBitVec <<< ((nI n &&& 31).toBitVec.smod 32).toNat).getLsbD i = _
  rw [s_l n hn, BitVec.getLsbD_shiftLeft]
  rcases Nat.lt_or_ge i n with h | h
  · simp [h, Nat.not_le.mpr h]
  · simp [hi, h, Nat.not_lt.mpr h]
theorem b_sshr (n : Nat) (hn : n < 32) (x : Int32) {i : Nat} (hi : i < 32) : bt (x >>> (nI n &&& 31)) i = if n + i < 32 then bt x (n + i) else bt x 31 := by
  unfold bt
  rw [Int32.toBitVec_shiftRight]
  show (x.toBitVec.sshiftRight ((nI n &&& 31).toBitVec.smod 32).toNat).getLsbD i = _
  rw [s_l n hn, BitVec.getLsbD_sshiftRight, BitVec.msb_eq_getLsbD_last]
  simp [hi]
theorem b_ext {x y : Int32} (h : ∀ i, i < 32 → bt x i = bt y i) : x = y := Int32.toBitVec_inj.mp (BitVec.eq_of_getLsbD_eq (fun i hi => h i hi))
theorem cx_one : ∀ i, i < 32 → bt 1 i = decide (i = 0) := by decide +kernel
theorem cx_bt1 {t : Int32} {j : Nat} (hj : j < 24) (h : bt t j = true) : ((t >>> (nI j &&& 31)) &&& 1) = 1 := by
  apply b_ext
  intro i hi
  rw [b_and, cx_one i hi, b_sshr j (by omega) t hi]
  by_cases z : i = 0
  · subst z
    rw [if_pos (by omega), Nat.add_zero, h]; rfl
  · rw [decide_eq_false z, Bool.and_false]
theorem cx_bt0 {t : Int32} {j : Nat} (hj : j < 24) (h : bt t j = false) : ¬ ((t >>> (nI j &&& 31)) &&& 1) = 1 := by
  intro e
  have e2 : bt ((t >>> (nI j &&& 31)) &&& 1) 0 = bt 1 0 := by rw [e]
  rw [b_and, cx_one 0 (by omega), b_sshr j (by omega) t (by omega), if_pos (by omega), Nat.add_zero, h] at e2
  exact absurd e2 (by decide)
theorem cx_or {t : Int32} {j : Nat} (hj : j < 24) (i : Nat) : bt (t ||| ((1 : Int32) <<< (nI j &&& 31))) i = (bt t i || decide (i = j)) := by
  rw [b_or]
  rcases Nat.lt_or_ge i 32 with h | h
  · rw [b_shl j (by omega) 1 h, cx_one (i - j) (by omega)]
    by_cases z : i = j
    · subst z; simp
    · rw [decide_eq_false z]
      by_cases y : j ≤ i
      · rw [decide_eq_true y, decide_eq_false (by omega : ¬ i - j = 0)]; rfl
      · rw [decide_eq_false y]; rfl
  · rw [b_big h, b_big h, decide_eq_false (by omega : ¬ i = j)]
theorem cx_nar0 : vp_nar .boolean 0 = 0 := rfl
theorem cx_nar1 : vp_nar .boolean 1 = 1 := rfl
theorem cx_narb {x : Int32} (h : x = 0 ∨ x = 1) : vp_nar .boolean x = x := by
  rcases h with rfl | rfl
  · rfl
  · rfl
theorem cx_narw {x : Int32} (h : x = 0 ∨ x = 1) : narrow .boolean (.int x) = .int x := by
  rcases h with rfl | rfl
  · rfl
  · rfl
theorem cx_10 : ¬ (1 : Int32) = 0 := by decide
theorem cx_u0 {f : Nat → Int32} {n : Nat} (h : f n = 0) : upd f n 0 = f := by
  funext j
  by_cases e : j = n
  · subst e; rw [pk_us, h]
  · rw [pk_un e]
theorem cx_i6 (g k : Nat) : (6 : Int32) * nI g + nI k = nI (6 * g + k) := by
  rw [show (6 : Int32) = nI 6 from rfl, pk_mul, nI_add]
theorem cx_i6' (g k : Nat) : nI g * (6 : Int32) + nI k = nI (6 * g + k) := by
  rw [show (6 : Int32) = nI 6 from rfl, pk_mul, nI_add, Nat.mul_comm]
theorem cx_p6 (g : Nat) : nI g * (6 : Int32) = nI (6 * g) := by
  rw [show (6 : Int32) = nI 6 from rfl, pk_mul, Nat.mul_comm]
theorem cx_m1 {n : Nat} (h : n < 2 ^ 31) : ¬ nI n = -1 := by
  intro e
  have h2 := nI_pos h
  rw [e] at h2
  exact h2 (by decide)
theorem cx_cl {n : Nat} (h : n < 1000) : (nI n).toNatClampNeg = n := nI_clamp (by omega)
theorem cx_at (f : Nat → Int32) {n : Nat} (h : n < 1000) : f (nI n).toNatClampNeg = f n := by rw [cx_cl h]
theorem cx_ud (f : Nat → Int32) {n : Nat} (x : Int32) (h : n < 1000) : upd f (nI n).toNatClampNeg x = upd f n x := by rw [cx_cl h]
/-- how many entries a deal's state has cost -/
def cx_rk (x : Int32) : Nat := if x = 2 then 1 else if x = 3 then 2 else if x = 4 then 2 else 0
def cx_rs (st : Nat → Int32) : Nat → Nat
  | 0 => 0
  | n + 1 => cx_rs st n + cx_rk (st n)
theorem cx_rk2 (x : Int32) : cx_rk x ≤ 2 := by
  unfold cx_rk
  by_cases a : x = 2
  · rw [if_pos a]; omega
  · rw [if_neg a]
    by_cases b : x = 3
    · rw [if_pos b]; omega
    · rw [if_neg b]
      by_cases c : x = 4
      · rw [if_pos c]; omega
      · rw [if_neg c]; omega
theorem cx_rs_le (st : Nat → Int32) : ∀ n, cx_rs st n ≤ 2 * n
  | 0 => Nat.le_refl _
  | n + 1 => by
    have h1 := cx_rs_le st n
    have h2 := cx_rk2 (st n)
    show cx_rs st n + cx_rk (st n) ≤ _
    omega
theorem cx_rs_up (st : Nat → Int32) (d : Nat) (x : Int32) : ∀ n, n ≤ d → cx_rs (upd st d x) n = cx_rs st n
  | 0 => fun _ => rfl
  | n + 1 => fun h => by
    show cx_rs (upd st d x) n + cx_rk (upd st d x n) = cx_rs st n + cx_rk (st n)
    rw [cx_rs_up st d x n (by omega), pk_un (by omega)]
theorem cx_rs_in (st : Nat → Int32) (d : Nat) (x : Int32) : ∀ n, d < n → cx_rs (upd st d x) n + cx_rk (st d) = cx_rs st n + cx_rk x
  | 0 => fun h => by omega
  | n + 1 => fun h => by
    show cx_rs (upd st d x) n + cx_rk (upd st d x n) + cx_rk (st d) = cx_rs st n + cx_rk (st n) + cx_rk x
    by_cases e : d = n
    · subst e
      rw [cx_rs_up st d x d (Nat.le_refl _), pk_us]; omega
    · rw [pk_un (by omega)]
      have := cx_rs_in st d x n (by omega)
      omega
theorem cx_rs_lt (st : Nat → Int32) (d n : Nat) (h : d < n) (hr : cx_rk (st d) < 2) : cx_rs st n < 2 * n := by
  have h1 := cx_rs_in st d 3 n h
  have h2 := cx_rs_le (upd st d 3) n
  have h3 : cx_rk 3 = 2 := by decide
  omega
/-- the nodes are well made -/
def cx_N (N : Nat) (mk kd pv qo ic xn : Nat → Int32) : Prop :=
  (∀ j, mk j = 0 ∨ mk j = 1) ∧
  (∀ j, j < N → ((kd j = 0 ∧ ∃ s, s < 8 ∧ pv j = nI s) ∨ kd j = 1 ∨ (kd j = 2 ∧ ∃ p, 2 ≤ p ∧ p ≤ 20 ∧ pv j = nI p) ∨ kd j = 3)) ∧
  (∀ j, j < N → ∃ c, c ≤ 6 ∧ ic j = nI c ∧ ∀ k, k < c → ∃ m, m < j ∧ xn (6 * j + k) = nI m) ∧
  (∀ j, N ≤ j → qo j = 0 ∧ ic j = 0)
/-- the deals are well made -/
def cx_D (A N D : Nat) (py pe rl rf st : Nat → Int32) : Prop :=
  ∀ d, d < D → (∃ a, a < A ∧ py d = nI a) ∧ (∃ a, a < A ∧ pe d = nI a) ∧ (rl d = -1 ∨ ∃ n, n < N ∧ rl d = nI n) ∧
    ((st d = 1 ∨ st d = 2) → (∃ n, n < N ∧ rl d = nI n) ∧ (∃ n, n < N ∧ rf d = nI n))
def cx_G (A T N D P E : Nat) (mk kd pv qo ic xn py pe rl rf st : Nat → Int32) : Prop :=
  (2 ≤ A ∧ A ≤ 6) ∧ T ≤ 2000 ∧ N ≤ 24 ∧ D ≤ 12 ∧ P ≤ 40 ∧ E = P + cx_rs st D ∧ cx_N N mk kd pv qo ic xn ∧ cx_D A N D py pe rl rf st
/-- the class and the reference keep the same numbers in the same arrays; the reference's own array of truths is free -/
def i_Rel (_ : Nat) (u : SX) (v : SY) : Prop := ∃ (A T N D P E : Nat) (bl mk kd pv qo ic xn xw nw py pe am rl rf st e1 e2 e3 e4 e5 : Nat → Int32),
  u = (nI A, nI T, nI N, nI D, nI P, nI E, bl, mk, kd, pv, qo, ic, xn, xw, py, pe, am, rl, rf, st, e1, e2, e3, e4, e5) ∧ v = (nI A, nI T, nI N, nI D, nI P, nI E, bl, mk, kd, pv, qo, ic, xn, xw, nw, py, pe, am, rl, rf, st, e1, e2, e3, e4, e5) ∧ cx_G A T N D P E mk kd pv qo ic xn py pe rl rf st
theorem i_up {k : Nat} {u : SX} {v : SY} (h : i_Rel k u v) : i_Rel (k + 4) u v := h
theorem cx_rel {A T N D P E : Nat} {bl mk kd pv qo ic xn xw nw py pe am rl rf st e1 e2 e3 e4 e5 : Nat → Int32} (k : Nat) (G : cx_G A T N D P E mk kd pv qo ic xn py pe rl rf st) : i_Rel k (nI A, nI T, nI N, nI D, nI P, nI E, bl, mk, kd, pv, qo, ic, xn, xw, py, pe, am, rl, rf, st, e1, e2, e3, e4, e5) (nI A, nI T, nI N, nI D, nI P, nI E, bl, mk, kd, pv, qo, ic, xn, xw, nw, py, pe, am, rl, rf, st, e1, e2, e3, e4, e5) :=
  ⟨A, T, N, D, P, E, bl, mk, kd, pv, qo, ic, xn, xw, nw, py, pe, am, rl, rf, st, e1, e2, e3, e4, e5, rfl, rfl, G⟩
/-- the set t of nodes says what nw says, up to n -/
def cx_T (n : Nat) (t : Int32) (nw : Nat → Int32) : Prop := ∀ j, j < n → (bt t j = true ∧ ¬ nw j = 0) ∨ (bt t j = false ∧ nw j = 0)
theorem cx_T0 (nw : Nat → Int32) : cx_T 0 0 nw := fun j h => absurd h (Nat.not_lt_zero j)
theorem cx_Ts0 {n : Nat} {t : Int32} {nw : Nat → Int32} (h : cx_T n t nw) (hz : ∀ i, n ≤ i → bt t i = false) : cx_T (n + 1) t (upd nw n 0) := by
  intro j hj
  by_cases e : j = n
  · subst e; exact Or.inr ⟨hz j (Nat.le_refl _), pk_us⟩
  · rw [pk_un e]; exact h j (by omega)
theorem cx_Ts1 {n : Nat} {t : Int32} {nw : Nat → Int32} (hn : n < 24) (h : cx_T n t nw) : cx_T (n + 1) (t ||| ((1 : Int32) <<< (nI n &&& 31))) (upd nw n 1) := by
  intro j hj
  rw [cx_or hn]
  by_cases e : j = n
  · subst e
    refine Or.inl ⟨?_, ?_⟩
    · simp
    · rw [pk_us]; exact cx_10
  · rw [pk_un e, decide_eq_false e, Bool.or_false]; exact h j (by omega)
theorem cx_Tz1 {n : Nat} {t : Int32} (hn : n < 24) (hz : ∀ i, n ≤ i → bt t i = false) : ∀ i, n + 1 ≤ i → bt (t ||| ((1 : Int32) <<< (nI n &&& 31))) i = false := by
  intro i hi
  rw [cx_or hn, hz i (by omega), decide_eq_false (by omega : ¬ i = n)]; rfl
end
section
/-- the class's scoreFrom and the reference's scoreOf, place by place -/
theorem cs_loop {A T N D P E : Nat} {bl mk kd pv qo ic xn xw nw py pe am rl rf st e1 e2 e3 e4 e5 : Nat → Int32} (t : Int32) (g c : Nat) (hg : g < 24) (hc : c ≤ 6) (hi : ic g = nI c) (hm : ∀ k, k < c → ∃ m, m < g ∧ xn (6 * g + k) = nI m) (hT : cx_T g t nw) :
    ∀ (d k : Nat) (s : Int32), k + d = c → ∃ r : Int32,
      (∀ post : Int32 → Prop, post r → wX_scoreFrom_23 post t (nI (6 * g + c)) (nI A) (nI T) (nI N) (nI D) (nI P) (nI E) bl mk kd pv qo ic xn xw py pe am rl rf st e1 e2 e3 e4 e5 (d + 1) s (nI (6 * g + k))) ∧
      (∀ post : Int32 → Prop, post r → wY_scoreOf_4 post (nI g) (nI A) (nI T) (nI N) (nI D) (nI P) (nI E) bl mk kd pv qo ic xn xw nw py pe am rl rf st e1 e2 e3 e4 e5 (d + 1) s (nI k)) := by
  have hgi : vp_in (nI g) 24 := vp_in_nI hg (by omega)
  have hc' : ic (nI g).toNatClampNeg = nI c := by rw [cx_cl (by omega)]; exact hi
  intro d
  induction d with
  | zero =>
    intro k s hk
    have h1 : nI (6 * g + c) ≤ nI (6 * g + k) := nI_le (by omega) (by omega)
    have h2 : ic (nI g).toNatClampNeg ≤ nI k := by rw [hc']; exact nI_le (by omega) (by omega)
    exact ⟨s, fun post hp => br_t h1 hp, fun post hp => ⟨hgi, br_t h2 hp⟩⟩
  | succ d ih =>
    intro k s hk
    obtain ⟨m, hmg, hxm⟩ := hm k (by omega)
    have h1 : ¬ nI (6 * g + c) ≤ nI (6 * g + k) := nI_ge (by omega) (by omega)
    have h2 : ¬ ic (nI g).toNatClampNeg ≤ nI k := by rw [hc']; exact nI_ge (by omega) (by omega)
    have h3 : ¬ (6 : Int32) ≤ nI k := nI_ge (b := 6) (by omega) (by decide)
    have p1 : vp_in (nI (6 * g + k)) 144 := vp_in_nI (by omega) (by omega)
    have p2 : vp_in ((6 : Int32) * nI g + nI k) 144 := by rw [cx_i6]; exact p1
    have x1 : xn (nI (6 * g + k)).toNatClampNeg = nI m := by rw [cx_cl (by omega)]; exact hxm
    have x2 : xn ((6 : Int32) * nI g + nI k).toNatClampNeg = nI m := by rw [cx_i6]; exact x1
    have w1 : s + xw (nI (6 * g + k)).toNatClampNeg = s + xw (6 * g + k) := by rw [cx_cl (by omega)]
    have w2 : s + xw ((6 : Int32) * nI g + nI k).toNatClampNeg = s + xw (6 * g + k) := by rw [cx_i6, cx_cl (by omega)]
    have pm : vp_in (nI m) 24 := vp_in_nI (by omega) (by omega)
    have n1 : nI (6 * g + k) + 1 = nI (6 * g + (k + 1)) := nI_1 _
    rcases hT m hmg with ⟨hb, hn⟩ | ⟨hb, hn⟩
    · have hb' : ((t >>> (xn (nI (6 * g + k)).toNatClampNeg &&& 31)) &&& 1) = 1 := by rw [x1]; exact cx_bt1 (by omega) hb
      have hn' : ¬ nw (nI m).toNatClampNeg = 0 := by rw [cx_cl (by omega)]; exact hn
      obtain ⟨r, hX, hY⟩ := ih (k + 1) (s + xw (6 * g + k)) (by omega)
      refine ⟨r, fun post hp => br_f h1 ⟨p1, ?_⟩, fun post hp => ⟨hgi, br_f h2 (br_f h3 ⟨p2, nm_r x2 ⟨pm, br_f hn' ⟨p2, nm_r w2 (nm_r (nI_1 k) (hY post hp))⟩⟩⟩)⟩⟩
      exact br_t hb' (br_f cx_10 ⟨p1, nm_r w1 (nm_r n1 (hX post hp))⟩)
    · have hb' : ¬ ((t >>> (xn (nI (6 * g + k)).toNatClampNeg &&& 31)) &&& 1) = 1 := by rw [x1]; exact cx_bt0 (by omega) hb
      have hn' : nw (nI m).toNatClampNeg = 0 := by rw [cx_cl (by omega)]; exact hn
      obtain ⟨r, hX, hY⟩ := ih (k + 1) s (by omega)
      refine ⟨r, fun post hp => br_f h1 ⟨p1, ?_⟩, fun post hp => ⟨hgi, br_f h2 (br_f h3 ⟨p2, nm_r x2 ⟨pm, br_t hn' (nm_r (nI_1 k) (hY post hp))⟩⟩)⟩⟩
      exact br_f hb' (br_t rfl (nm_r n1 (hX post hp)))
/-- one score for both -/
theorem cs_all {A T N D P E : Nat} {bl mk kd pv qo ic xn xw nw py pe am rl rf st e1 e2 e3 e4 e5 : Nat → Int32} (t : Int32) (g : Nat) (hg : g < N) (hN : N ≤ 24) (HN : cx_N N mk kd pv qo ic xn) (hT : cx_T g t nw) :
    ∃ r : Int32, (∀ post : Int32 → Prop, post r → wpX_scoreFrom post (nI A, nI T, nI N, nI D, nI P, nI E, bl, mk, kd, pv, qo, ic, xn, xw, py, pe, am, rl, rf, st, e1, e2, e3, e4, e5) (nI g) t) ∧ (∀ post : Int32 → Prop, post r → wpY_scoreOf post (nI A, nI T, nI N, nI D, nI P, nI E, bl, mk, kd, pv, qo, ic, xn, xw, nw, py, pe, am, rl, rf, st, e1, e2, e3, e4, e5) (nI g)) := by
  obtain ⟨c, hc, hi, hm⟩ := HN.2.2.1 g hg
  obtain ⟨r, hX, hY⟩ := cs_loop (A := A) (T := T) (N := N) (D := D) (P := P) (E := E) (bl := bl) (mk := mk) (kd := kd) (pv := pv) (qo := qo) (ic := ic) (xn := xn) (xw := xw) (nw := nw) (py := py) (pe := pe) (am := am) (rl := rl) (rf := rf) (st := st) (e1 := e1) (e2 := e2) (e3 := e3) (e4 := e4) (e5 := e5) t g c (by omega) hc hi hm hT c 0 0 (by omega)
  have e1 : nI (6 * g) + ic (nI g).toNatClampNeg = nI (6 * g + c) := by rw [cx_cl (by omega), hi, nI_add]
  refine ⟨r, fun post hp => ?_, fun post hp => ⟨c + 1, hY post hp⟩⟩
  exact nm_r (cx_p6 g) ⟨vp_in_nI (by omega) (by omega), nm_r e1 ⟨c + 1, hX post hp⟩⟩
/-- one node: one truth for both -/
theorem cw_step {A T N D P E : Nat} {bl mk kd pv qo ic xn xw nw py pe am rl rf st e1 e2 e3 e4 e5 : Nat → Int32} (x1 t : Int32) (j : Nat) (hj : j < N) (hN : N ≤ 24) (HN : cx_N N mk kd pv qo ic xn) (hT : cx_T j t nw) :
    ∃ b : Int32, (b = 0 ∨ b = 1) ∧ (∀ post : Int32 → Prop, post b → wpX_isTrue post (nI A, nI T, nI N, nI D, nI P, nI E, bl, mk, kd, pv, qo, ic, xn, xw, py, pe, am, rl, rf, st, e1, e2, e3, e4, e5) (nI j) x1 t) ∧
      (∀ (post : SY → Prop) (n : Nat), wY_workOut_2 post x1 (nI A) (nI T) (nI N) (nI D) (nI P) (nI E) n (nI (j + 1)) bl mk kd pv qo ic xn xw (upd nw j b) py pe am rl rf st e1 e2 e3 e4 e5 → wY_workOut_2 post x1 (nI A) (nI T) (nI N) (nI D) (nI P) (nI E) (n + 1) (nI j) bl mk kd pv qo ic xn xw nw py pe am rl rf st e1 e2 e3 e4 e5) := by
  have pj : vp_in (nI j) 24 := vp_in_nI (by omega) (by omega)
  have c1 : ¬ nI N ≤ nI j := nI_ge hj (by omega)
  have c2 : ¬ (24 : Int32) ≤ nI j := nI_ge (b := 24) (by omega) (by decide)
  have ekd : kd (nI j).toNatClampNeg = kd j := by rw [cx_cl (by omega)]
  have epv : pv (nI j).toNatClampNeg = pv j := by rw [cx_cl (by omega)]
  have eqo : qo (nI j).toNatClampNeg = qo j := by rw [cx_cl (by omega)]
  have ud : ∀ b : Int32, (b = 0 ∨ b = 1) → upd nw (nI j).toNatClampNeg (vp_nar .boolean b) = upd nw j b := by
    intro b hb; rw [cx_cl (by omega), cx_narb hb]
  have z0 : (0 : Int32) = 0 ∨ (0 : Int32) = 1 := Or.inl rfl
  have z1 : (1 : Int32) = 0 ∨ (1 : Int32) = 1 := Or.inr rfl
  rcases HN.2.1 j hj with ⟨hk, s, hs, hp⟩ | hk | ⟨hk, p, hp2, hp20, hp⟩ | hk
  · have em : mk (nI s).toNatClampNeg = mk s := by rw [cx_cl (by omega)]
    have e7 : (pv (nI j).toNatClampNeg &&& 7) = nI s := by
      rw [epv, hp]
      exact (by decide +kernel : ∀ s, s < 8 → nI s &&& 7 = nI s) s hs
    have ps : vp_in (nI s) 8 := vp_in_nI hs (by omega)
    have pb := HN.1 s
    have k0 : kd (nI j).toNatClampNeg = 0 := ekd.trans hk
    refine ⟨mk s, pb, fun post hq => ?_, fun post n hq => br_f c1 (br_f c2 ⟨pj, br_t k0 ⟨pj, ?_⟩⟩)⟩
    · refine ⟨pj, nm_r (epv.trans hp) ⟨pj, nm_r k0 ?_⟩⟩
      refine br_f (by decide) (br_f (by decide) (br_t rfl ⟨ps, ?_⟩))
      rw [em]
      exact ⟨cx_narw pb, hq⟩
    · rw [e7, em]
      exact ⟨ps, pj, nm_r (ud _ pb) (nm_r (nI_1 j) hq)⟩
  · have k1 : kd (nI j).toNatClampNeg = 1 := ekd.trans hk
    have k0 : ¬ kd (nI j).toNatClampNeg = 0 := by rw [k1]; exact cx_10
    by_cases h : x1 < pv j
    · have h' : x1 < pv (nI j).toNatClampNeg := by rw [epv]; exact h
      refine ⟨0, z0, fun post hq => ⟨pj, nm_r epv ⟨pj, nm_r k1 ?_⟩⟩, fun post n hq => br_f c1 (br_f c2 ⟨pj, br_f k0 ⟨pj, br_t k1 ⟨pj, br_t h' ⟨pj, nm_r (ud 0 z0) (nm_r (nI_1 j) hq)⟩⟩⟩⟩)⟩
      exact br_f (by decide) (br_f (by decide) (br_f (by decide) (br_t rfl (br_t h hq))))
    · have h' : ¬ x1 < pv (nI j).toNatClampNeg := by rw [epv]; exact h
      refine ⟨1, z1, fun post hq => ⟨pj, nm_r epv ⟨pj, nm_r k1 ?_⟩⟩, fun post n hq => br_f c1 (br_f c2 ⟨pj, br_f k0 ⟨pj, br_t k1 ⟨pj, br_f h' ⟨pj, nm_r (ud 1 z1) (nm_r (nI_1 j) hq)⟩⟩⟩⟩)⟩
      exact br_f (by decide) (br_f (by decide) (br_f (by decide) (br_t rfl (br_f h hq))))
  · have k2 : kd (nI j).toNatClampNeg = 2 := ekd.trans hk
    have k0 : ¬ kd (nI j).toNatClampNeg = 0 := by rw [k2]; decide
    have k1 : ¬ kd (nI j).toNatClampNeg = 1 := by rw [k2]; decide
    have epp : pv (nI j).toNatClampNeg = nI p := epv.trans hp
    have hge : (2 : Int32) ≤ pv (nI j).toNatClampNeg := by rw [epp]; exact nI_le (a := 2) hp2 (by omega)
    have hne : ¬ nI p = 0 := nI_ne0 (by omega) (by omega)
    have hne' : ¬ pv (nI j).toNatClampNeg = 0 := by rw [epp]; exact hne
    by_cases h : qo j ≤ x1 - x1 / nI p * nI p
    · have h1 : qo (nI j).toNatClampNeg ≤ x1 - x1 / nI p * nI p := by rw [eqo]; exact h
      have h2 : qo (nI j).toNatClampNeg ≤ x1 - x1 / pv (nI j).toNatClampNeg * pv (nI j).toNatClampNeg := by rw [epp]; exact h1
      refine ⟨0, z0, fun post hq => ⟨pj, nm_r epp ⟨pj, nm_r k2 ?_⟩⟩, fun post n hq => br_f c1 (br_f c2 ⟨pj, br_f k0 ⟨pj, br_f k1 ⟨pj, br_t k2 ⟨pj, br_t hge ⟨pj, ⟨hne', ⟨pj, br_t h2 ⟨pj, nm_r (ud 0 z0) (nm_r (nI_1 j) hq)⟩⟩⟩⟩⟩⟩⟩⟩)⟩
      exact br_f (by decide) (br_f (by decide) (br_f (by decide) (br_f (by decide) (br_t rfl ⟨hne, pj, br_t h1 hq⟩))))
    · have h1 : ¬ qo (nI j).toNatClampNeg ≤ x1 - x1 / nI p * nI p := by rw [eqo]; exact h
      have h2 : ¬ qo (nI j).toNatClampNeg ≤ x1 - x1 / pv (nI j).toNatClampNeg * pv (nI j).toNatClampNeg := by rw [epp]; exact h1
      refine ⟨1, z1, fun post hq => ⟨pj, nm_r epp ⟨pj, nm_r k2 ?_⟩⟩, fun post n hq => br_f c1 (br_f c2 ⟨pj, br_f k0 ⟨pj, br_f k1 ⟨pj, br_t k2 ⟨pj, br_t hge ⟨pj, ⟨hne', ⟨pj, br_f h2 ⟨pj, nm_r (ud 1 z1) (nm_r (nI_1 j) hq)⟩⟩⟩⟩⟩⟩⟩⟩)⟩
      exact br_f (by decide) (br_f (by decide) (br_f (by decide) (br_f (by decide) (br_t rfl ⟨hne, pj, br_f h1 hq⟩))))
  · have k3 : kd (nI j).toNatClampNeg = 3 := ekd.trans hk
    have k0 : ¬ kd (nI j).toNatClampNeg = 0 := by rw [k3]; decide
    have k1 : ¬ kd (nI j).toNatClampNeg = 1 := by rw [k3]; decide
    have k2 : ¬ kd (nI j).toNatClampNeg = 2 := by rw [k3]; decide
    obtain ⟨r, hX, hY⟩ := cs_all (A := A) (T := T) (D := D) (P := P) (E := E) (bl := bl) (xw := xw) (py := py) (pe := pe) (am := am) (rl := rl) (rf := rf) (st := st) (e1 := e1) (e2 := e2) (e3 := e3) (e4 := e4) (e5 := e5) t j hj hN HN hT
    by_cases h : r < pv j
    · have h' : r < pv (nI j).toNatClampNeg := by rw [epv]; exact h
      refine ⟨0, z0, fun post hq => ⟨pj, nm_r epv ⟨pj, nm_r k3 ?_⟩⟩, fun post n hq => br_f c1 (br_f c2 ⟨pj, br_f k0 ⟨pj, br_f k1 ⟨pj, br_f k2 (hY _ ⟨pj, br_t h' ⟨pj, nm_r (ud 0 z0) (nm_r (nI_1 j) hq)⟩⟩)⟩⟩⟩)⟩
      exact br_f (by decide) (br_t (by decide) (hX _ (br_t h hq)))
    · have h' : ¬ r < pv (nI j).toNatClampNeg := by rw [epv]; exact h
      refine ⟨1, z1, fun post hq => ⟨pj, nm_r epv ⟨pj, nm_r k3 ?_⟩⟩, fun post n hq => br_f c1 (br_f c2 ⟨pj, br_f k0 ⟨pj, br_f k1 ⟨pj, br_f k2 (hY _ ⟨pj, br_f h' ⟨pj, nm_r (ud 1 z1) (nm_r (nI_1 j) hq)⟩⟩)⟩⟩⟩)⟩
      exact br_f (by decide) (br_t (by decide) (hX _ (br_f h hq)))
/-- the class's set and the reference's array, worked out node by node -/
theorem cw_loop {A T N D P E : Nat} {bl mk kd pv qo ic xn xw py pe am rl rf st e1 e2 e3 e4 e5 : Nat → Int32} (x1 : Int32) (hN : N ≤ 24) (HN : cx_N N mk kd pv qo ic xn) :
    ∀ (d j : Nat) (t : Int32) (nw : Nat → Int32), j + d = N → cx_T j t nw → (∀ i, j ≤ i → bt t i = false) → ∃ (t' : Int32) (nw' : Nat → Int32), cx_T N t' nw' ∧
      (∀ post : Int32 → Prop, post t' → wX_truthsOn_4 post x1 (nI A) (nI T) (nI N) (nI D) (nI P) (nI E) bl mk kd pv qo ic xn xw py pe am rl rf st e1 e2 e3 e4 e5 (d + 1) t (nI j)) ∧
      (∀ post : SY → Prop, post (nI A, nI T, nI N, nI D, nI P, nI E, bl, mk, kd, pv, qo, ic, xn, xw, nw', py, pe, am, rl, rf, st, e1, e2, e3, e4, e5) → wY_workOut_2 post x1 (nI A) (nI T) (nI N) (nI D) (nI P) (nI E) (d + 1) (nI j) bl mk kd pv qo ic xn xw nw py pe am rl rf st e1 e2 e3 e4 e5) := by
  intro d
  induction d with
  | zero =>
    intro j t nw hj hT hz
    have e : j = N := by omega
    subst e
    have h : nI j ≤ nI j := nI_le (Nat.le_refl _) (by omega)
    exact ⟨t, nw, hT, fun post hp => br_t h hp, fun post hp => br_t h hp⟩
  | succ d ih =>
    intro j t nw hj hT hz
    have c1 : ¬ nI N ≤ nI j := nI_ge (by omega) (by omega)
    obtain ⟨b, hb, hX, hY⟩ := cw_step (A := A) (T := T) (D := D) (P := P) (E := E) (bl := bl) (xw := xw) (py := py) (pe := pe) (am := am) (rl := rl) (rf := rf) (st := st) (e1 := e1) (e2 := e2) (e3 := e3) (e4 := e4) (e5 := e5) x1 t j (by omega) hN HN hT
    rcases hb with rfl | rfl
    · obtain ⟨t', nw', hT', hX', hY'⟩ := ih (j + 1) t (upd nw j 0) (by omega) (cx_Ts0 hT hz) (fun i hi => hz i (by omega))
      exact ⟨t', nw', hT', fun post hp => br_f c1 (hX _ (br_t rfl (nm_r (nI_1 j) (hX' post hp)))), fun post hp => hY post _ (hY' post hp)⟩
    · obtain ⟨t', nw', hT', hX', hY'⟩ := ih (j + 1) (t ||| ((1 : Int32) <<< (nI j &&& 31))) (upd nw j 1) (by omega) (cx_Ts1 (by omega) hT) (cx_Tz1 (by omega) hz)
      exact ⟨t', nw', hT', fun post hp => br_f c1 (hX _ (br_f cx_10 (nm_e (nm_r (nI_1 j) (hX' post hp))))), fun post hp => hY post _ (hY' post hp)⟩
theorem cw_all {A T N D P E : Nat} {bl mk kd pv qo ic xn xw nw py pe am rl rf st e1 e2 e3 e4 e5 : Nat → Int32} (x1 : Int32) (hN : N ≤ 24) (HN : cx_N N mk kd pv qo ic xn) :
    ∃ (t : Int32) (nw' : Nat → Int32), cx_T N t nw' ∧
      (∀ post : Int32 → Prop, post t → wpX_truthsOn post (nI A, nI T, nI N, nI D, nI P, nI E, bl, mk, kd, pv, qo, ic, xn, xw, py, pe, am, rl, rf, st, e1, e2, e3, e4, e5) x1) ∧
      (∀ post : SY → Prop, post (nI A, nI T, nI N, nI D, nI P, nI E, bl, mk, kd, pv, qo, ic, xn, xw, nw', py, pe, am, rl, rf, st, e1, e2, e3, e4, e5) → wpY_workOut post (nI A, nI T, nI N, nI D, nI P, nI E, bl, mk, kd, pv, qo, ic, xn, xw, nw, py, pe, am, rl, rf, st, e1, e2, e3, e4, e5) x1) := by
  obtain ⟨t', nw', hT', hX', hY'⟩ := cw_loop (A := A) (T := T) (D := D) (P := P) (E := E) (bl := bl) (xw := xw) (py := py) (pe := pe) (am := am) (rl := rl) (rf := rf) (st := st) (e1 := e1) (e2 := e2) (e3 := e3) (e4 := e4) (e5 := e5) x1 hN HN N 0 0 nw (by omega) (cx_T0 nw) (fun i _ => b_0 i)
  exact ⟨t', nw', hT', fun post hp => ⟨N + 1, hX' post hp⟩, fun post hp => ⟨N + 1, hY' post hp⟩⟩
end
section
/-- the class books an entry -/
theorem ce_book {A T N D P E : Nat} {bl mk kd pv qo ic xn xw py pe am rl rf st e1 e2 e3 e4 e5 : Nat → Int32} (hE : E < 64) {k dl amt v : Int32} {a : Nat} (ha : a < 6) (hv : (k = 1 ∧ v = bl a + -amt) ∨ (¬ k = 1 ∧ v = bl a + amt)) (post : SX → Prop)
    (h : post (nI A, nI T, nI N, nI D, nI P, nI (E + 1), upd bl a v, mk, kd, pv, qo, ic, xn, xw, py, pe, am, rl, rf, st, upd e1 E k, upd e2 E (nI a), upd e3 E amt, upd e4 E dl, upd e5 E (nI T))) :
    wpX_book post (nI A, nI T, nI N, nI D, nI P, nI E, bl, mk, kd, pv, qo, ic, xn, xw, py, pe, am, rl, rf, st, e1, e2, e3, e4, e5) k (nI a) amt dl := by
  have pE : vp_in (nI E) 64 := vp_in_nI hE (by omega)
  have pa : vp_in (nI a) 6 := vp_in_nI ha (by omega)
  have cE : (nI E).toNatClampNeg = E := cx_cl (by omega)
  have ca : (nI a).toNatClampNeg = a := cx_cl (by omega)
  refine ⟨pE, nm_r (cx_ud e1 k (by omega)) ⟨pE, nm_r (cx_ud e2 _ (by omega)) ⟨pE, nm_r (cx_ud e3 _ (by omega)) ⟨pE, nm_r (cx_ud e4 _ (by omega)) ⟨pE, nm_r (cx_ud e5 _ (by omega)) (nm_r (nI_1 E) ⟨pa, ?_⟩)⟩⟩⟩⟩⟩
  have h2 : upd e2 E (nI a) (nI E).toNatClampNeg = nI a := by rw [cE, pk_us]
  have h1 : upd e1 E k (nI E).toNatClampNeg = k := by rw [cE, pk_us]
  have h3 : upd e3 E amt (nI E).toNatClampNeg = amt := by rw [cE, pk_us]
  rcases hv with ⟨hk, hv⟩ | ⟨hk, hv⟩
  · have hk' : upd e1 E k (nI E).toNatClampNeg = 1 := h1.trans hk
    have hb : upd bl (nI a).toNatClampNeg (bl (nI a).toNatClampNeg + -(upd e3 E amt (nI E).toNatClampNeg)) = upd bl a v := by rw [ca, h3, hv]
    exact ⟨pE, br_t h2 ⟨pE, br_t hk' ⟨pE, pa, nm_r hb h⟩⟩⟩
  · have hk' : ¬ upd e1 E k (nI E).toNatClampNeg = 1 := by rw [h1]; exact hk
    have hb : upd bl (nI a).toNatClampNeg (bl (nI a).toNatClampNeg + (upd e3 E amt (nI E).toNatClampNeg)) = upd bl a v := by rw [ca, h3, hv]
    exact ⟨pE, br_t h2 ⟨pE, br_f hk' ⟨pE, pa, nm_r hb h⟩⟩⟩
/-- the reference enters it -/
theorem ce_enter {A T N D P E : Nat} {bl mk kd pv qo ic xn xw nw py pe am rl rf st e1 e2 e3 e4 e5 : Nat → Int32} (hE : E < 64) {k ac dl amt : Int32} (post : SY → Prop)
    (h : post (nI A, nI T, nI N, nI D, nI P, nI (E + 1), bl, mk, kd, pv, qo, ic, xn, xw, nw, py, pe, am, rl, rf, st, upd e1 E k, upd e2 E ac, upd e3 E amt, upd e4 E dl, upd e5 E (nI T))) :
    wpY_enter post (nI A, nI T, nI N, nI D, nI P, nI E, bl, mk, kd, pv, qo, ic, xn, xw, nw, py, pe, am, rl, rf, st, e1, e2, e3, e4, e5) k ac amt dl := by
  have pE : vp_in (nI E) 64 := vp_in_nI hE (by omega)
  have c : nI E < (64 : Int32) := nI_lt (b := 64) hE (by decide)
  exact br_t c ⟨pE, nm_r (cx_ud e1 _ (by omega)) ⟨pE, nm_r (cx_ud e2 _ (by omega)) ⟨pE, nm_r (cx_ud e3 _ (by omega)) ⟨pE, nm_r (cx_ud e4 _ (by omega)) ⟨pE, nm_r (cx_ud e5 _ (by omega)) (nm_r (nI_1 E) h)⟩⟩⟩⟩⟩
/-- deal d moves: both sides make the same move -/
def cm_mv (t : Int32) (A T N D P E : Nat) (bl mk kd pv qo ic xn xw nw py pe am rl rf st e1 e2 e3 e4 e5 : Nat → Int32) (d : Nat) : Prop :=
  ∃ (mv : Int32) (bl' st' e1' e2' e3' e4' e5' : Nat → Int32), cx_D A N D py pe rl rf st' ∧ E + 1 = P + cx_rs st' D ∧ ¬ mv = -1 ∧
    (∀ post : Int32 → Prop, post mv → wpX_nextMove post (nI A, nI T, nI N, nI D, nI P, nI E, bl, mk, kd, pv, qo, ic, xn, xw, py, pe, am, rl, rf, st, e1, e2, e3, e4, e5) (nI d) t) ∧
    (∀ post : SX → Prop, post (nI A, nI T, nI N, nI D, nI P, nI (E + 1), bl', mk, kd, pv, qo, ic, xn, xw, py, pe, am, rl, rf, st', e1', e2', e3', e4', e5') → wpX_makeMove post (nI A, nI T, nI N, nI D, nI P, nI E, bl, mk, kd, pv, qo, ic, xn, xw, py, pe, am, rl, rf, st, e1, e2, e3, e4, e5) (nI d) mv) ∧
    (∀ post : Int32 → Prop, post 1 → wpY_canMove post (nI A, nI T, nI N, nI D, nI P, nI E, bl, mk, kd, pv, qo, ic, xn, xw, nw, py, pe, am, rl, rf, st, e1, e2, e3, e4, e5) (nI d)) ∧
    (∀ post : SY → Prop, post (nI A, nI T, nI N, nI D, nI P, nI (E + 1), bl', mk, kd, pv, qo, ic, xn, xw, nw, py, pe, am, rl, rf, st', e1', e2', e3', e4', e5') → wpY_makeMove post (nI A, nI T, nI N, nI D, nI P, nI E, bl, mk, kd, pv, qo, ic, xn, xw, nw, py, pe, am, rl, rf, st, e1, e2, e3, e4, e5) (nI d))
theorem cm_D {A N D d : Nat} {py pe rl rf st : Nat → Int32} {x : Int32} (H : cx_D A N D py pe rl rf st) (hs : st d = 1 ∨ st d = 2) : cx_D A N D py pe rl rf (upd st d x) := by
  intro i hi
  obtain ⟨h1, h2, h3, h4⟩ := H i hi
  refine ⟨h1, h2, h3, ?_⟩
  by_cases e : i = d
  · subst e; intro _; exact h4 hs
  · rw [pk_un e]; exact h4
theorem cm_one {A T N D P E : Nat} {bl mk kd pv qo ic xn xw nw py pe am rl rf st e1 e2 e3 e4 e5 : Nat → Int32} (t : Int32) (d : Nat) (hd : d < D) (G : cx_G A T N D P E mk kd pv qo ic xn py pe rl rf st) (hT : cx_T N t nw) :
    ((∀ post : Int32 → Prop, post (-1) → wpX_nextMove post (nI A, nI T, nI N, nI D, nI P, nI E, bl, mk, kd, pv, qo, ic, xn, xw, py, pe, am, rl, rf, st, e1, e2, e3, e4, e5) (nI d) t) ∧ (∀ post : Int32 → Prop, post 0 → wpY_canMove post (nI A, nI T, nI N, nI D, nI P, nI E, bl, mk, kd, pv, qo, ic, xn, xw, nw, py, pe, am, rl, rf, st, e1, e2, e3, e4, e5) (nI d))) ∨
    cm_mv t A T N D P E bl mk kd pv qo ic xn xw nw py pe am rl rf st e1 e2 e3 e4 e5 d := by
  obtain ⟨⟨hA2, hA⟩, hTT, hN, hD, hP, hE, HN, HD⟩ := G
  obtain ⟨⟨a, ha, hpy⟩, ⟨b, hb, hpe⟩, hrl, hnd⟩ := HD d hd
  have pd : vp_in (nI d) 12 := vp_in_nI (by omega) (by omega)
  have est : st (nI d).toNatClampNeg = st d := cx_at st (by omega)
  have epy : py (nI d).toNatClampNeg = nI a := (cx_at py (by omega)).trans hpy
  have epe : pe (nI d).toNatClampNeg = nI b := (cx_at pe (by omega)).trans hpe
  have eam : am (nI d).toNatClampNeg = am d := cx_at am (by omega)
  have ca : (nI a).toNatClampNeg = a := cx_cl (by omega)
  have cb : (nI b).toNatClampNeg = b := cx_cl (by omega)
  have pa : vp_in (nI a) 6 := vp_in_nI (by omega) (by omega)
  have pb : vp_in (nI b) 6 := vp_in_nI (by omega) (by omega)
  have pa' : vp_in (py (nI d).toNatClampNeg) 6 := by rw [epy]; exact pa
  have pb' : vp_in (pe (nI d).toNatClampNeg) 6 := by rw [epe]; exact pb
  have n12 : ¬ (1 : Int32) = 2 := by decide
  by_cases s1 : st d = 1
  · have s1' : st (nI d).toNatClampNeg = 1 := est.trans s1
    have ebl : bl (py (nI d).toNatClampNeg).toNatClampNeg = bl a := by rw [epy, ca]
    by_cases hlt : bl a < am d
    · have hlt' : bl (py (nI d).toNatClampNeg).toNatClampNeg < am (nI d).toNatClampNeg := by rw [ebl, eam]; exact hlt
      exact Or.inl ⟨fun post hp => ⟨pd, br_t s1' ⟨pd, pa', pd, br_t hlt' hp⟩⟩, fun post hp => ⟨pd, br_t s1' ⟨pd, pa', pd, br_t hlt' hp⟩⟩⟩
    · have hlt' : ¬ bl (py (nI d).toNatClampNeg).toNatClampNeg < am (nI d).toNatClampNeg := by rw [ebl, eam]; exact hlt
      have r1 : cx_rk (st d) = 0 := by rw [s1]; decide
      have r2 : cx_rk 2 = 1 := by decide
      have hin := cx_rs_in st d 2 D hd
      have hl := cx_rs_lt st d D hd (by omega)
      have uy : upd bl (py (nI d).toNatClampNeg).toNatClampNeg (bl (py (nI d).toNatClampNeg).toNatClampNeg - am (nI d).toNatClampNeg) = upd bl a (bl a + -(am d)) := by rw [epy, ca, eam, Int32.sub_eq_add_neg]
      refine Or.inr ⟨1, upd bl a (bl a + -(am d)), upd st d 2, upd e1 E 1, upd e2 E (nI a), upd e3 E (am d), upd e4 E (nI d), upd e5 E (nI T), cm_D HD (Or.inl s1), by omega, by decide, fun post hp => ⟨pd, br_t s1' ⟨pd, pa', pd, br_f hlt' hp⟩⟩, fun post hp => ?_, fun post hp => ⟨pd, br_t s1' ⟨pd, pa', pd, br_f hlt' hp⟩⟩, fun post hp => ?_⟩
      · refine br_t rfl ⟨pd, nm_r (cx_ud st 2 (by omega)) ?_⟩
        refine br_f n12 ⟨pd, ⟨pd, ?_⟩⟩
        rw [epy, eam]
        exact ce_book (by omega) (by omega) (Or.inl ⟨rfl, rfl⟩) _ hp
      · refine ⟨pd, br_t s1' ⟨pd, pa', pd, pa', nm_r uy ⟨pd, nm_r (cx_ud st 2 (by omega)) ⟨pd, pd, ?_⟩⟩⟩⟩
        rw [epy, eam]
        exact ce_enter (by omega) _ hp
  · have s1' : ¬ st (nI d).toNatClampNeg = 1 := by rw [est]; exact s1
    by_cases s2 : st d = 2
    · have s2' : st (nI d).toNatClampNeg = 2 := est.trans s2
      obtain ⟨⟨n, hn, hrn⟩, ⟨f, hf, hrf⟩⟩ := hnd (Or.inr s2)
      have ern : rl (nI d).toNatClampNeg = nI n := (cx_at rl (by omega)).trans hrn
      have erf : rf (nI d).toNatClampNeg = nI f := (cx_at rf (by omega)).trans hrf
      have pn : vp_in (rl (nI d).toNatClampNeg) 24 := by rw [ern]; exact vp_in_nI (by omega) (by omega)
      have pf : vp_in (rf (nI d).toNatClampNeg) 24 := by rw [erf]; exact vp_in_nI (by omega) (by omega)
      have nwn : nw (rl (nI d).toNatClampNeg).toNatClampNeg = nw n := by rw [ern, cx_cl (by omega)]
      have nwf : nw (rf (nI d).toNatClampNeg).toNatClampNeg = nw f := by rw [erf, cx_cl (by omega)]
      have r1 : cx_rk (st d) = 1 := by rw [s2]; decide
      have r3 : cx_rk 3 = 2 := by decide
      have r4 : cx_rk 4 = 2 := by decide
      have hl := cx_rs_lt st d D hd (by omega)
      rcases hT n hn with ⟨hbt, hnw⟩ | ⟨hbt, hnw⟩
      · have hi : ((t >>> (rl (nI d).toNatClampNeg &&& 31)) &&& 1) = 1 := by rw [ern]; exact cx_bt1 (by omega) hbt
        have hq : ¬ nw (rl (nI d).toNatClampNeg).toNatClampNeg = 0 := by rw [nwn]; exact hnw
        have hin := cx_rs_in st d 3 D hd
        have uy : upd bl (pe (nI d).toNatClampNeg).toNatClampNeg (bl (pe (nI d).toNatClampNeg).toNatClampNeg + am (nI d).toNatClampNeg) = upd bl b (bl b + am d) := by rw [epe, cb, eam]
        refine Or.inr ⟨2, upd bl b (bl b + am d), upd st d 3, upd e1 E 2, upd e2 E (nI b), upd e3 E (am d), upd e4 E (nI d), upd e5 E (nI T), cm_D HD (Or.inr s2), by omega, by decide, fun post hp => ?_, fun post hp => ?_, fun post hp => ?_, fun post hp => ?_⟩
        · exact ⟨pd, br_f s1' ⟨pd, br_t s2' ⟨pd, br_t hi (br_f cx_10 hp)⟩⟩⟩
        · refine br_f (by decide) (br_t rfl ⟨pd, nm_r (cx_ud st 3 (by omega)) ?_⟩)
          refine br_t rfl ⟨pd, ⟨pd, ?_⟩⟩
          rw [epe, eam]
          exact ce_book (by omega) (by omega) (Or.inr ⟨by decide, rfl⟩) _ hp
        · exact ⟨pd, br_f s1' ⟨pd, br_t s2' ⟨pd, pn, br_f hq hp⟩⟩⟩
        · refine ⟨pd, br_f s1' ⟨pd, pn, br_f hq ⟨pd, pb', pd, pb', nm_r uy ⟨pd, nm_r (cx_ud st 3 (by omega)) ⟨pd, pd, ?_⟩⟩⟩⟩⟩
          rw [epe, eam]
          exact ce_enter (by omega) _ hp
      · have hi : ¬ ((t >>> (rl (nI d).toNatClampNeg &&& 31)) &&& 1) = 1 := by rw [ern]; exact cx_bt0 (by omega) hbt
        have hq : nw (rl (nI d).toNatClampNeg).toNatClampNeg = 0 := by rw [nwn]; exact hnw
        rcases hT f hf with ⟨fbt, fnw⟩ | ⟨fbt, fnw⟩
        · have fi : ((t >>> (rf (nI d).toNatClampNeg &&& 31)) &&& 1) = 1 := by rw [erf]; exact cx_bt1 (by omega) fbt
          have fq : ¬ nw (rf (nI d).toNatClampNeg).toNatClampNeg = 0 := by rw [nwf]; exact fnw
          have hin := cx_rs_in st d 4 D hd
          have uy : upd bl (py (nI d).toNatClampNeg).toNatClampNeg (bl (py (nI d).toNatClampNeg).toNatClampNeg + am (nI d).toNatClampNeg) = upd bl a (bl a + am d) := by rw [epy, ca, eam]
          refine Or.inr ⟨3, upd bl a (bl a + am d), upd st d 4, upd e1 E 3, upd e2 E (nI a), upd e3 E (am d), upd e4 E (nI d), upd e5 E (nI T), cm_D HD (Or.inr s2), by omega, by decide, fun post hp => ?_, fun post hp => ?_, fun post hp => ?_, fun post hp => ?_⟩
          · exact ⟨pd, br_f s1' ⟨pd, br_t s2' ⟨pd, br_f hi (br_t rfl ⟨pd, br_t fi (br_f cx_10 hp)⟩)⟩⟩⟩
          · refine br_f (by decide) (br_f (by decide) ⟨pd, nm_r (cx_ud st 4 (by omega)) ?_⟩)
            refine br_f (by decide) ⟨pd, ⟨pd, ?_⟩⟩
            rw [epy, eam]
            exact ce_book (by omega) (by omega) (Or.inr ⟨by decide, rfl⟩) _ hp
          · exact ⟨pd, br_f s1' ⟨pd, br_t s2' ⟨pd, pn, br_t hq ⟨pd, pf, br_f fq hp⟩⟩⟩⟩
          · refine ⟨pd, br_f s1' ⟨pd, pn, br_t hq ⟨pd, pa', pd, pa', nm_r uy ⟨pd, nm_r (cx_ud st 4 (by omega)) ⟨pd, pd, ?_⟩⟩⟩⟩⟩
            rw [epy, eam]
            exact ce_enter (by omega) _ hp
        · have fi : ¬ ((t >>> (rf (nI d).toNatClampNeg &&& 31)) &&& 1) = 1 := by rw [erf]; exact cx_bt0 (by omega) fbt
          have fq : nw (rf (nI d).toNatClampNeg).toNatClampNeg = 0 := by rw [nwf]; exact fnw
          refine Or.inl ⟨fun post hp => ?_, fun post hp => ?_⟩
          · exact ⟨pd, br_f s1' ⟨pd, br_t s2' ⟨pd, br_f hi (br_t rfl ⟨pd, br_f fi (br_t rfl hp)⟩)⟩⟩⟩
          · exact ⟨pd, br_f s1' ⟨pd, br_t s2' ⟨pd, pn, br_t hq ⟨pd, pf, br_t fq hp⟩⟩⟩⟩
    · have s2' : ¬ st (nI d).toNatClampNeg = 2 := by rw [est]; exact s2
      exact Or.inl ⟨fun post hp => ⟨pd, br_f s1' ⟨pd, br_f s2' hp⟩⟩, fun post hp => ⟨pd, br_f s1' ⟨pd, br_f s2' hp⟩⟩⟩
/-- the first deal that can move -/
theorem cm_loop {A T N D P E : Nat} {bl mk kd pv qo ic xn xw nw py pe am rl rf st e1 e2 e3 e4 e5 : Nat → Int32} (t : Int32) (G : cx_G A T N D P E mk kd pv qo ic xn py pe rl rf st) (hT : cx_T N t nw) : ∀ e d : Nat, d + e = D →
    ((∀ post : Int32 → Prop, post (-1) → wX_firstThatCanMove_2 post t (nI A) (nI T) (nI N) (nI D) (nI P) (nI E) bl mk kd pv qo ic xn xw py pe am rl rf st e1 e2 e3 e4 e5 (e + 1) (nI d)) ∧ (∀ post : Int32 → Prop, post (-1) → wY_nextMover_2 post (nI A) (nI T) (nI N) (nI D) (nI P) (nI E) bl mk kd pv qo ic xn xw nw py pe am rl rf st e1 e2 e3 e4 e5 (e + 1) (nI d))) ∨
    ∃ d', d' < D ∧ cm_mv t A T N D P E bl mk kd pv qo ic xn xw nw py pe am rl rf st e1 e2 e3 e4 e5 d' ∧
      (∀ post : Int32 → Prop, post (nI d') → wX_firstThatCanMove_2 post t (nI A) (nI T) (nI N) (nI D) (nI P) (nI E) bl mk kd pv qo ic xn xw py pe am rl rf st e1 e2 e3 e4 e5 (e + 1) (nI d)) ∧ (∀ post : Int32 → Prop, post (nI d') → wY_nextMover_2 post (nI A) (nI T) (nI N) (nI D) (nI P) (nI E) bl mk kd pv qo ic xn xw nw py pe am rl rf st e1 e2 e3 e4 e5 (e + 1) (nI d)) := by
  have hD : D ≤ 12 := G.2.2.2.1
  intro e
  induction e with
  | zero =>
    intro d hd
    have h : nI D ≤ nI d := nI_le (by omega) (by omega)
    exact Or.inl ⟨fun post hp => br_t h hp, fun post hp => br_t h hp⟩
  | succ e ih =>
    intro d hd
    have h : ¬ nI D ≤ nI d := nI_ge (by omega) (by omega)
    have h2 : ¬ (12 : Int32) ≤ nI d := nI_ge (b := 12) (by omega) (by decide)
    rcases cm_one (bl := bl) (xw := xw) (am := am) (e1 := e1) (e2 := e2) (e3 := e3) (e4 := e4) (e5 := e5) t d (by omega) G hT with ⟨hX, hY⟩ | M
    · rcases ih (d + 1) (by omega) with ⟨iX, iY⟩ | ⟨d', hd', M, iX, iY⟩
      · exact Or.inl ⟨fun post hp => br_f h (hX _ (br_t rfl (nm_r (nI_1 d) (iX post hp)))), fun post hp => br_f h (br_f h2 (hY _ (br_t rfl (nm_r (nI_1 d) (iY post hp)))))⟩
      · exact Or.inr ⟨d', hd', M, fun post hp => br_f h (hX _ (br_t rfl (nm_r (nI_1 d) (iX post hp)))), fun post hp => br_f h (br_f h2 (hY _ (br_t rfl (nm_r (nI_1 d) (iY post hp)))))⟩
    · have M' := M
      obtain ⟨mv, _, _, _, _, _, _, _, _, _, hm, hX, _, hY, _⟩ := M'
      exact Or.inr ⟨d, by omega, M, fun post hp => br_f h (hX _ (br_f hm hp)), fun post hp => br_f h (br_f h2 (hY _ (br_f cx_10 hp)))⟩
/-- nobody moves: the reference idles to its end -/
theorem cf_idle {A T N D P E : Nat} {bl mk kd pv qo ic xn xw nw py pe am rl rf st e1 e2 e3 e4 e5 : Nat → Int32} (x : Int32) (hY : ∀ post : Int32 → Prop, post (-1) → wpY_nextMover post (nI A, nI T, nI N, nI D, nI P, nI E, bl, mk, kd, pv, qo, ic, xn, xw, nw, py, pe, am, rl, rf, st, e1, e2, e3, e4, e5)) (post : Int32 → SY → Prop) (hp : post x (nI A, nI T, nI N, nI D, nI P, nI E, bl, mk, kd, pv, qo, ic, xn, xw, nw, py, pe, am, rl, rf, st, e1, e2, e3, e4, e5)) :
    ∀ f k : Nat, k + f = 24 → wY_settle_12 post (f + 1) x (nI k) (nI A) (nI T) (nI N) (nI D) (nI P) (nI E) bl mk kd pv qo ic xn xw nw py pe am rl rf st e1 e2 e3 e4 e5 := by
  intro f
  induction f with
  | zero =>
    intro k hk
    have h : (24 : Int32) ≤ nI k := nI_le (a := 24) (by omega) (by omega)
    exact br_t h hp
  | succ f ih =>
    intro k hk
    have h : ¬ (24 : Int32) ≤ nI k := nI_ge (b := 24) (by omega) (by decide)
    exact br_f h (hY _ (br_t (by decide) (nm_r (nI_1 k) (ih (k + 1) (by omega)))))
/-- the moves of one settling -/
theorem cf_loop {A T N D P : Nat} {mk kd pv qo ic xn xw nw py pe am rl rf : Nat → Int32} (t : Int32) (hT : cx_T N t nw) : ∀ (f m E : Nat) (bl st e1 e2 e3 e4 e5 : Nat → Int32), m + f = 24 → cx_G A T N D P E mk kd pv qo ic xn py pe rl rf st →
    ∃ (r : Int32) (E' : Nat) (bl' st' e1' e2' e3' e4' e5' : Nat → Int32), cx_G A T N D P E' mk kd pv qo ic xn py pe rl rf st' ∧
      (∀ post : Int32 → SX → Prop, post r (nI A, nI T, nI N, nI D, nI P, nI E', bl', mk, kd, pv, qo, ic, xn, xw, py, pe, am, rl, rf, st', e1', e2', e3', e4', e5') → wX_settle_11 post t (f + 1) (nI m) (nI A) (nI T) (nI N) (nI D) (nI P) (nI E) bl mk kd pv qo ic xn xw py pe am rl rf st e1 e2 e3 e4 e5) ∧
      (∀ post : Int32 → SY → Prop, post r (nI A, nI T, nI N, nI D, nI P, nI E', bl', mk, kd, pv, qo, ic, xn, xw, nw, py, pe, am, rl, rf, st', e1', e2', e3', e4', e5') → wY_settle_12 post (f + 1) (nI m) (nI m) (nI A) (nI T) (nI N) (nI D) (nI P) (nI E) bl mk kd pv qo ic xn xw nw py pe am rl rf st e1 e2 e3 e4 e5) := by
  intro f
  induction f with
  | zero =>
    intro m E bl st e1 e2 e3 e4 e5 hm G
    have h : (24 : Int32) ≤ nI m := nI_le (a := 24) (by omega) (by omega)
    exact ⟨nI m, E, bl, st, e1, e2, e3, e4, e5, G, fun post hp => br_t h hp, fun post hp => br_t h hp⟩
  | succ f ih =>
    intro m E bl st e1 e2 e3 e4 e5 hm G
    have h : ¬ (24 : Int32) ≤ nI m := nI_ge (b := 24) (by omega) (by decide)
    have J := G
    obtain ⟨gA, gT, gN, gD, gP, gE, HN, HD⟩ := J
    rcases cm_loop (bl := bl) (xw := xw) (am := am) (e1 := e1) (e2 := e2) (e3 := e3) (e4 := e4) (e5 := e5) t G hT D 0 (by omega) with ⟨iX, iY⟩ | ⟨d, hd, M, iX, iY⟩
    · exact ⟨nI m, E, bl, st, e1, e2, e3, e4, e5, G, fun post hp => br_f h ⟨D + 1, iX _ (br_t rfl hp)⟩,
        fun post hp => cf_idle (nI m) (fun _ hq => ⟨D + 1, iY _ hq⟩) post hp (f + 1) m (by omega)⟩
    · obtain ⟨mv, bl', st', e1', e2', e3', e4', e5', HD', hE', hmv, hX1, hX2, hY1, hY2⟩ := M
      have hr : ¬ nI d = -1 := cx_m1 (by omega)
      have hr0 : ¬ nI d < 0 := nI_pos (by omega)
      obtain ⟨r, E2, bl2, st2, e12, e22, e32, e42, e52, G2, fX, fY⟩ := ih (m + 1) (E + 1) bl' st' e1' e2' e3' e4' e5' (by omega) ⟨gA, gT, gN, gD, gP, hE', HN, HD'⟩
      refine ⟨r, E2, bl2, st2, e12, e22, e32, e42, e52, G2, fun post hp => br_f h ⟨D + 1, iX _ (br_f hr (hX1 _ (hX2 _ (nm_r (nI_1 m) (fX post hp)))))⟩, fun post hp => br_f h ⟨D + 1, iY _ (br_f hr0 (hY2 _ (nm_r (nI_1 m) (nm_r (nI_1 m) (fY post hp)))))⟩⟩
/-- one settling: one number of moves, related states -/
theorem cf_settle {A T N D P E : Nat} {bl mk kd pv qo ic xn xw nw py pe am rl rf st e1 e2 e3 e4 e5 : Nat → Int32} (G : cx_G A T N D P E mk kd pv qo ic xn py pe rl rf st) :
    ∃ (r : Int32) (E' : Nat) (bl' nw' st' e1' e2' e3' e4' e5' : Nat → Int32), cx_G A T N D P E' mk kd pv qo ic xn py pe rl rf st' ∧
      (∀ post : Int32 → SX → Prop, post r (nI A, nI T, nI N, nI D, nI P, nI E', bl', mk, kd, pv, qo, ic, xn, xw, py, pe, am, rl, rf, st', e1', e2', e3', e4', e5') → wpX_settle post (nI A, nI T, nI N, nI D, nI P, nI E, bl, mk, kd, pv, qo, ic, xn, xw, py, pe, am, rl, rf, st, e1, e2, e3, e4, e5)) ∧
      (∀ post : Int32 → SY → Prop, post r (nI A, nI T, nI N, nI D, nI P, nI E', bl', mk, kd, pv, qo, ic, xn, xw, nw', py, pe, am, rl, rf, st', e1', e2', e3', e4', e5') → wpY_settle post (nI A, nI T, nI N, nI D, nI P, nI E, bl, mk, kd, pv, qo, ic, xn, xw, nw, py, pe, am, rl, rf, st, e1, e2, e3, e4, e5)) := by
  obtain ⟨t, nw', hT, tX, tY⟩ := cw_all (A := A) (T := T) (D := D) (P := P) (E := E) (bl := bl) (xw := xw) (nw := nw) (py := py) (pe := pe) (am := am) (rl := rl) (rf := rf) (st := st) (e1 := e1) (e2 := e2) (e3 := e3) (e4 := e4) (e5 := e5) (nI T) G.2.2.1 G.2.2.2.2.2.2.1
  obtain ⟨r, E', bl', st', e1', e2', e3', e4', e5', G', fX, fY⟩ := cf_loop (xw := xw) (am := am) t hT 24 0 E bl st e1 e2 e3 e4 e5 (by omega) G
  exact ⟨r, E', bl', nw', st', e1', e2', e3', e4', e5', G', fun post hp => tX _ ⟨24 + 1, fX post hp⟩, fun post hp => tY _ ⟨24 + 1, fY post hp⟩⟩
end
section
theorem cq_xAccount_no {A T N D P E : Nat} {bl mk kd pv qo ic xn xw py pe am rl rf st e1 e2 e3 e4 e5 : Nat → Int32} {v : Int32} {post : Int32 → Prop} (h : v < 0 ∨ nI A ≤ v) (hp : post 0) : wpX_isAccount post (nI A, nI T, nI N, nI D, nI P, nI E, bl, mk, kd, pv, qo, ic, xn, xw, py, pe, am, rl, rf, st, e1, e2, e3, e4, e5) v := by
  by_cases z : v < 0
  · exact br_t z hp
  · exact br_f z (br_t (h.resolve_left z) hp)
theorem cq_xAccount_ok {A T N D P E : Nat} {bl mk kd pv qo ic xn xw py pe am rl rf st e1 e2 e3 e4 e5 : Nat → Int32} {j : Nat} {post : Int32 → Prop} (hj : j < A) (hC : A ≤ 6) (hp : post 1) : wpX_isAccount post (nI A, nI T, nI N, nI D, nI P, nI E, bl, mk, kd, pv, qo, ic, xn, xw, py, pe, am, rl, rf, st, e1, e2, e3, e4, e5) (nI j) :=
  br_f (nI_pos (by omega)) (br_f (nI_ge hj (by omega)) hp)
theorem cq_yAccount_no {A T N D P E : Nat} {bl mk kd pv qo ic xn xw nw py pe am rl rf st e1 e2 e3 e4 e5 : Nat → Int32} {v : Int32} {post : Int32 → Prop} (h : v < 0 ∨ nI A ≤ v) (hp : post 1) : wpY_noAccount post (nI A, nI T, nI N, nI D, nI P, nI E, bl, mk, kd, pv, qo, ic, xn, xw, nw, py, pe, am, rl, rf, st, e1, e2, e3, e4, e5) v := by
  by_cases z : v < 0
  · exact br_t z hp
  · exact br_f z (br_t (h.resolve_left z) hp)
theorem cq_yAccount_ok {A T N D P E : Nat} {bl mk kd pv qo ic xn xw nw py pe am rl rf st e1 e2 e3 e4 e5 : Nat → Int32} {j : Nat} {post : Int32 → Prop} (hj : j < A) (hC : A ≤ 6) (hp : post 0) : wpY_noAccount post (nI A, nI T, nI N, nI D, nI P, nI E, bl, mk, kd, pv, qo, ic, xn, xw, nw, py, pe, am, rl, rf, st, e1, e2, e3, e4, e5) (nI j) :=
  br_f (nI_pos (by omega)) (br_f (nI_ge hj (by omega)) (br_t (nI_lt (b := 6) (by omega) (by decide)) hp))
theorem cq_xNode_no {A T N D P E : Nat} {bl mk kd pv qo ic xn xw py pe am rl rf st e1 e2 e3 e4 e5 : Nat → Int32} {v : Int32} {post : Int32 → Prop} (h : v < 0 ∨ nI N ≤ v) (hp : post 0) : wpX_isNode post (nI A, nI T, nI N, nI D, nI P, nI E, bl, mk, kd, pv, qo, ic, xn, xw, py, pe, am, rl, rf, st, e1, e2, e3, e4, e5) v := by
  by_cases z : v < 0
  · exact br_t z hp
  · exact br_f z (br_t (h.resolve_left z) hp)
theorem cq_xNode_ok {A T N D P E : Nat} {bl mk kd pv qo ic xn xw py pe am rl rf st e1 e2 e3 e4 e5 : Nat → Int32} {j : Nat} {post : Int32 → Prop} (hj : j < N) (hC : N ≤ 24) (hp : post 1) : wpX_isNode post (nI A, nI T, nI N, nI D, nI P, nI E, bl, mk, kd, pv, qo, ic, xn, xw, py, pe, am, rl, rf, st, e1, e2, e3, e4, e5) (nI j) :=
  br_f (nI_pos (by omega)) (br_f (nI_ge hj (by omega)) hp)
theorem cq_yNode_no {A T N D P E : Nat} {bl mk kd pv qo ic xn xw nw py pe am rl rf st e1 e2 e3 e4 e5 : Nat → Int32} {v : Int32} {post : Int32 → Prop} (h : v < 0 ∨ nI N ≤ v) (hp : post 1) : wpY_noNode post (nI A, nI T, nI N, nI D, nI P, nI E, bl, mk, kd, pv, qo, ic, xn, xw, nw, py, pe, am, rl, rf, st, e1, e2, e3, e4, e5) v := by
  by_cases z : v < 0
  · exact br_t z hp
  · exact br_f z (br_t (h.resolve_left z) hp)
theorem cq_yNode_ok {A T N D P E : Nat} {bl mk kd pv qo ic xn xw nw py pe am rl rf st e1 e2 e3 e4 e5 : Nat → Int32} {j : Nat} {post : Int32 → Prop} (hj : j < N) (hC : N ≤ 24) (hp : post 0) : wpY_noNode post (nI A, nI T, nI N, nI D, nI P, nI E, bl, mk, kd, pv, qo, ic, xn, xw, nw, py, pe, am, rl, rf, st, e1, e2, e3, e4, e5) (nI j) :=
  br_f (nI_pos (by omega)) (br_f (nI_ge hj (by omega)) (br_t (nI_lt (b := 24) (by omega) (by decide)) hp))
theorem cq_xDeal_no {A T N D P E : Nat} {bl mk kd pv qo ic xn xw py pe am rl rf st e1 e2 e3 e4 e5 : Nat → Int32} {v : Int32} {post : Int32 → Prop} (h : v < 0 ∨ nI D ≤ v) (hp : post 0) : wpX_isDeal post (nI A, nI T, nI N, nI D, nI P, nI E, bl, mk, kd, pv, qo, ic, xn, xw, py, pe, am, rl, rf, st, e1, e2, e3, e4, e5) v := by
  by_cases z : v < 0
  · exact br_t z hp
  · exact br_f z (br_t (h.resolve_left z) hp)
theorem cq_xDeal_ok {A T N D P E : Nat} {bl mk kd pv qo ic xn xw py pe am rl rf st e1 e2 e3 e4 e5 : Nat → Int32} {j : Nat} {post : Int32 → Prop} (hj : j < D) (hC : D ≤ 12) (hp : post 1) : wpX_isDeal post (nI A, nI T, nI N, nI D, nI P, nI E, bl, mk, kd, pv, qo, ic, xn, xw, py, pe, am, rl, rf, st, e1, e2, e3, e4, e5) (nI j) :=
  br_f (nI_pos (by omega)) (br_f (nI_ge hj (by omega)) hp)
theorem cq_yDeal_no {A T N D P E : Nat} {bl mk kd pv qo ic xn xw nw py pe am rl rf st e1 e2 e3 e4 e5 : Nat → Int32} {v : Int32} {post : Int32 → Prop} (h : v < 0 ∨ nI D ≤ v) (hp : post 1) : wpY_noDeal post (nI A, nI T, nI N, nI D, nI P, nI E, bl, mk, kd, pv, qo, ic, xn, xw, nw, py, pe, am, rl, rf, st, e1, e2, e3, e4, e5) v := by
  by_cases z : v < 0
  · exact br_t z hp
  · exact br_f z (br_t (h.resolve_left z) hp)
theorem cq_yDeal_ok {A T N D P E : Nat} {bl mk kd pv qo ic xn xw nw py pe am rl rf st e1 e2 e3 e4 e5 : Nat → Int32} {j : Nat} {post : Int32 → Prop} (hj : j < D) (hC : D ≤ 12) (hp : post 0) : wpY_noDeal post (nI A, nI T, nI N, nI D, nI P, nI E, bl, mk, kd, pv, qo, ic, xn, xw, nw, py, pe, am, rl, rf, st, e1, e2, e3, e4, e5) (nI j) :=
  br_f (nI_pos (by omega)) (br_f (nI_ge hj (by omega)) (br_t (nI_lt (b := 12) (by omega) (by decide)) hp))
theorem cq_xEntry_no {A T N D P E : Nat} {bl mk kd pv qo ic xn xw py pe am rl rf st e1 e2 e3 e4 e5 : Nat → Int32} {v : Int32} {post : Int32 → Prop} (h : v < 0 ∨ nI E ≤ v) (hp : post 0) : wpX_isEntry post (nI A, nI T, nI N, nI D, nI P, nI E, bl, mk, kd, pv, qo, ic, xn, xw, py, pe, am, rl, rf, st, e1, e2, e3, e4, e5) v := by
  by_cases z : v < 0
  · exact br_t z hp
  · exact br_f z (br_t (h.resolve_left z) hp)
theorem cq_xEntry_ok {A T N D P E : Nat} {bl mk kd pv qo ic xn xw py pe am rl rf st e1 e2 e3 e4 e5 : Nat → Int32} {j : Nat} {post : Int32 → Prop} (hj : j < E) (hC : E ≤ 64) (hp : post 1) : wpX_isEntry post (nI A, nI T, nI N, nI D, nI P, nI E, bl, mk, kd, pv, qo, ic, xn, xw, py, pe, am, rl, rf, st, e1, e2, e3, e4, e5) (nI j) :=
  br_f (nI_pos (by omega)) (br_f (nI_ge hj (by omega)) hp)
theorem cq_yEntry_no {A T N D P E : Nat} {bl mk kd pv qo ic xn xw nw py pe am rl rf st e1 e2 e3 e4 e5 : Nat → Int32} {v : Int32} {post : Int32 → Prop} (h : v < 0 ∨ nI E ≤ v) (hp : post 1) : wpY_noEntry post (nI A, nI T, nI N, nI D, nI P, nI E, bl, mk, kd, pv, qo, ic, xn, xw, nw, py, pe, am, rl, rf, st, e1, e2, e3, e4, e5) v := by
  by_cases z : v < 0
  · exact br_t z hp
  · exact br_f z (br_t (h.resolve_left z) hp)
theorem cq_yEntry_ok {A T N D P E : Nat} {bl mk kd pv qo ic xn xw nw py pe am rl rf st e1 e2 e3 e4 e5 : Nat → Int32} {j : Nat} {post : Int32 → Prop} (hj : j < E) (hC : E ≤ 64) (hp : post 0) : wpY_noEntry post (nI A, nI T, nI N, nI D, nI P, nI E, bl, mk, kd, pv, qo, ic, xn, xw, nw, py, pe, am, rl, rf, st, e1, e2, e3, e4, e5) (nI j) :=
  br_f (nI_pos (by omega)) (br_f (nI_ge hj (by omega)) (br_t (nI_lt (b := 64) (by omega) (by decide)) hp))
theorem cq_ix (x : Int32) {n : Nat} (hn : n < 2 ^ 31) : (x < 0 ∨ nI n ≤ x) ∨ ∃ j : Nat, j < n ∧ x = nI j := by
  rcases pk_ix x hn with h | h | h
  · exact Or.inl (Or.inl h)
  · exact Or.inl (Or.inr h)
  · exact Or.inr h
theorem cq_s_no {v : Int32} {post : Int32 → Prop} (h : v < 0 ∨ nI 8 ≤ v) (hp : post 0) : wpX_isSigner post v := by
  by_cases z : v < 0
  · exact br_t z hp
  · exact br_f z (br_t (h.resolve_left z) hp)
theorem cq_s_ok {j : Nat} {post : Int32 → Prop} (hj : j < 8) (hp : post 1) : wpX_isSigner post (nI j) :=
  br_f (nI_pos (by omega)) (br_f (nI_ge (b := 8) hj (by decide)) hp)
theorem cq_s7 {v : Int32} (h : nI 8 ≤ v) : ¬ v ≤ 7 := by
  intro z
  exact absurd (Int32.le_trans h z) (by decide)
/-- what the reference asks of a signer -/
theorem cq_sy_no {v : Int32} {B C : Prop} (h : v < 0 ∨ nI 8 ≤ v) (hb : B) : (v < 0 → B) ∧ (¬ v < 0 → ((v ≤ 7 → C) ∧ (¬ v ≤ 7 → B))) := by
  by_cases z : v < 0
  · exact br_t z hb
  · exact br_f z (br_f (cq_s7 (h.resolve_left z)) hb)
theorem cq_sy_ok {j : Nat} {B C B' : Prop} (hj : j < 8) (hc : C) : (nI j < 0 → B) ∧ (¬ nI j < 0 → ((nI j ≤ 7 → C) ∧ (¬ nI j ≤ 7 → B'))) :=
  br_f (nI_pos (by omega)) (br_t (nI_le (b := 7) (by omega) (by decide)) hc)
theorem cq_m_no {v : Int32} {post : Int32 → Prop} (h : v < 1 ∨ ¬ v ≤ 1000) (hp : post 0) : wpX_isAmount post v := by
  by_cases z : v < 1
  · exact br_t z hp
  · exact br_f z (br_t (Int32.not_le.mp (h.resolve_left z)) hp)
theorem cq_m_ok {v : Int32} {post : Int32 → Prop} (h1 : ¬ v < 1) (h2 : v ≤ 1000) (hp : post 1) : wpX_isAmount post v :=
  br_f h1 (br_f (Int32.not_lt.mpr h2) hp)
theorem cq_my_no {v : Int32} {B C : Prop} (h : v < 1 ∨ ¬ v ≤ 1000) (hb : B) : (v < 1 → B) ∧ (¬ v < 1 → ((v ≤ 1000 → C) ∧ (¬ v ≤ 1000 → B))) := by
  by_cases z : v < 1
  · exact br_t z hb
  · exact br_f z (br_f (h.resolve_left z) hb)
/-- one node more -/
theorem cn_x {A T N D P E : Nat} {bl mk kd pv qo ic xn xw py pe am rl rf st e1 e2 e3 e4 e5 : Nat → Int32} (hN : N < 24) {k a : Int32} {post : Int32 → SX → Prop} (h : post (nI N) (nI A, nI T, nI (N + 1), nI D, nI P, nI E, bl, mk, upd kd N k, upd pv N a, qo, ic, xn, xw, py, pe, am, rl, rf, st, e1, e2, e3, e4, e5)) : wpX_addNode post (nI A, nI T, nI N, nI D, nI P, nI E, bl, mk, kd, pv, qo, ic, xn, xw, py, pe, am, rl, rf, st, e1, e2, e3, e4, e5) k a :=
  ⟨vp_in_nI hN (by omega), nm_r (cx_ud kd _ (by omega)) ⟨vp_in_nI hN (by omega), nm_r (cx_ud pv _ (by omega)) (nm_r (nI_1 N) h)⟩⟩
theorem cn_y {A T N D P E : Nat} {bl mk kd pv qo ic xn xw nw py pe am rl rf st e1 e2 e3 e4 e5 : Nat → Int32} (hN : N < 24) {k a b : Int32} (hi : ic N = 0) {post : Int32 → SY → Prop} (h : post (nI N) (nI A, nI T, nI (N + 1), nI D, nI P, nI E, bl, mk, upd kd N k, upd pv N a, upd qo N b, ic, xn, xw, nw, py, pe, am, rl, rf, st, e1, e2, e3, e4, e5)) : wpY_newNode post (nI A, nI T, nI N, nI D, nI P, nI E, bl, mk, kd, pv, qo, ic, xn, xw, nw, py, pe, am, rl, rf, st, e1, e2, e3, e4, e5) k a b := by
  have p : vp_in (nI N) 24 := vp_in_nI hN (by omega)
  have e : upd ic (nI N).toNatClampNeg 0 = ic := by rw [cx_cl (by omega), cx_u0 hi]
  exact br_t (nI_lt (b := 24) hN (by decide)) ⟨p, nm_r (cx_ud kd _ (by omega)) ⟨p, nm_r (cx_ud pv _ (by omega)) ⟨p, nm_r (cx_ud qo _ (by omega)) ⟨p, nm_r e (nm_r (nI_1 N) h)⟩⟩⟩⟩
theorem cn_G {A T N D P E : Nat} {mk kd pv qo ic xn py pe rl rf st : Nat → Int32} {k a : Int32} (qo' : Nat → Int32) (G : cx_G A T N D P E mk kd pv qo ic xn py pe rl rf st) (hN : N < 24)
    (hv : (k = 0 ∧ ∃ s, s < 8 ∧ a = nI s) ∨ k = 1 ∨ (k = 2 ∧ ∃ p, 2 ≤ p ∧ p ≤ 20 ∧ a = nI p) ∨ k = 3) (hq : ∀ j, N + 1 ≤ j → qo' j = 0) : cx_G A T (N + 1) D P E mk (upd kd N k) (upd pv N a) qo' ic xn py pe rl rf st := by
  obtain ⟨gA, gT, gN, gD, gP, gE, ⟨m1, m2, m3, m4⟩, HD⟩ := G
  refine ⟨gA, gT, by omega, gD, gP, gE, ⟨m1, ?_, ?_, ?_⟩, ?_⟩
  · intro j hj
    by_cases e : j = N
    · subst e; rw [pk_us, pk_us]; exact hv
    · rw [pk_un e, pk_un e]; exact m2 j (by omega)
  · intro j hj
    by_cases e : j = N
    · subst e; exact ⟨0, by omega, (m4 j (Nat.le_refl _)).2, fun k hk => absurd hk (Nat.not_lt_zero k)⟩
    · exact m3 j (by omega)
  · intro j hj
    exact ⟨hq j hj, (m4 j (by omega)).2⟩
  · intro d hd
    obtain ⟨h1, h2, h3, h4⟩ := HD d hd
    refine ⟨h1, h2, ?_, fun hs => ?_⟩
    · rcases h3 with h3 | ⟨n, hn, e⟩
      · exact Or.inl h3
      · exact Or.inr ⟨n, by omega, e⟩
    · obtain ⟨⟨n, hn, e⟩, ⟨f, hf, e'⟩⟩ := h4 hs
      exact ⟨⟨n, by omega, e⟩, ⟨f, by omega, e'⟩⟩
theorem cn_24 {N : Nat} (h : N ≤ 24) (hN : ¬ N < 24) : nI N = 24 := by
  have e : N = 24 := by omega
  subst e; rfl
theorem cn_n24 {N : Nat} (hN : N < 24) : ¬ nI N = 24 := by
  intro e
  have := (nI_eq (a := N) (b := 24) (by omega) (by decide)).mp e
  omega
theorem i_vc0 (k0 : Int32) : wpX_init (fun u => wpY_init (fun v => i_Rel 1 u v) k0) k0 := by
  have key : ∀ A : Nat, 2 ≤ A → A ≤ 6 → i_Rel 1 (nI A, 0, 0, 0, 0, 0, (fun _ => 0), (fun _ => 0), (fun _ => 0), (fun _ => 0), (fun _ => 0), (fun _ => 0), (fun _ => 0), (fun _ => 0), (fun _ => 0), (fun _ => 0), (fun _ => 0), (fun _ => 0), (fun _ => 0), (fun _ => 0), (fun _ => 0), (fun _ => 0), (fun _ => 0), (fun _ => 0), (fun _ => 0)) (nI A, 0, 0, 0, 0, 0, (fun _ => 0), (fun _ => 0), (fun _ => 0), (fun _ => 0), (fun _ => 0), (fun _ => 0), (fun _ => 0), (fun _ => 0), (fun _ => 0), (fun _ => 0), (fun _ => 0), (fun _ => 0), (fun _ => 0), (fun _ => 0), (fun _ => 0), (fun _ => 0), (fun _ => 0), (fun _ => 0), (fun _ => 0), (fun _ => 0)) := by
    intro A h1 h2
    refine ⟨A, 0, 0, 0, 0, 0, _, _, _, _, _, _, _, _, _, _, _, _, _, _, _, _, _, _, _, _, rfl, rfl, ?_⟩
    refine ⟨⟨h1, h2⟩, by omega, by omega, by omega, by omega, rfl, ⟨fun _ => Or.inl rfl, ?_, ?_, fun _ _ => ⟨rfl, rfl⟩⟩, ?_⟩
    · intro j hj; exact absurd hj (Nat.not_lt_zero j)
    · intro j hj; exact absurd hj (Nat.not_lt_zero j)
    · intro j hj; exact absurd hj (Nat.not_lt_zero j)
  by_cases h2 : (2 : Int32) ≤ k0
  · by_cases h6 : k0 ≤ 6
    · have hn : ¬ k0 < 0 := Int32.not_lt.mpr (Int32.le_trans (by decide) h2)
      obtain ⟨j, hj, rfl⟩ := nI_of hn
      have a2 : 2 ≤ j := (nI_leI (a := 2) (b := j) (by decide) hj).mp h2
      have a6 : j ≤ 6 := (nI_leI (a := j) (b := 6) hj (by decide)).mp h6
      exact br_t h2 (br_t h6 (br_t h2 (br_t h6 (key j a2 a6))))
    · exact br_t h2 (br_f h6 (br_t h2 (br_f h6 (key 6 (by omega) (by omega)))))
  · exact br_f h2 (br_f h2 (key 2 (by omega) (by omega)))
theorem i_vc_signer {k : Nat} {u : SX} {v : SY} (I : i_Rel k u v) (hk : k + 4 ≤ 2049) (v1 : Int32) : wpX_signer (fun r u' => wpY_signer (fun r' v' => r' = r ∧ i_Rel (k + 4) u' v') v v1) u v1 := by
  obtain ⟨A, T, N, D, P, E, bl, mk, kd, pv, qo, ic, xn, xw, nw, py, pe, am, rl, rf, st, e1, e2, e3, e4, e5, rfl, rfl, G⟩ := I
  have gN : N ≤ 24 := G.2.2.1
  have z := G.2.2.2.2.2.2.1.2.2.2 N (Nat.le_refl N)
  unfold wpX_signer
  rcases cq_ix v1 (n := 8) (by decide) with h | ⟨s, hs, rfl⟩
  · exact cq_s_no h (br_t rfl (cq_sy_no h ⟨rfl, cx_rel _ G⟩))
  · refine cq_s_ok hs (br_f cx_10 ?_)
    by_cases hN : N < 24
    · have c1 : nI N < (24 : Int32) := nI_lt (b := 24) hN (by decide)
      have hq : upd qo N 0 = qo := cx_u0 z.1
      refine br_t c1 (cn_x hN ?_)
      refine cq_sy_ok hs (br_f (cn_n24 hN) (cn_y hN z.2 ?_))
      rw [hq]
      exact ⟨rfl, cx_rel _ (cn_G qo G hN (Or.inl ⟨rfl, s, hs, rfl⟩) (fun j hj => (G.2.2.2.2.2.2.1.2.2.2 j (by omega)).1))⟩
    · have c1 : ¬ nI N < (24 : Int32) := nI_nlt (b := 24) (by omega) (by omega)
      exact br_f c1 (cq_sy_ok hs (br_t (cn_24 gN hN) ⟨rfl, cx_rel _ G⟩))
theorem i_vc_after {k : Nat} {u : SX} {v : SY} (I : i_Rel k u v) (hk : k + 4 ≤ 2049) (v1 : Int32) : wpX_after (fun r u' => wpY_after (fun r' v' => r' = r ∧ i_Rel (k + 4) u' v') v v1) u v1 := by
  obtain ⟨A, T, N, D, P, E, bl, mk, kd, pv, qo, ic, xn, xw, nw, py, pe, am, rl, rf, st, e1, e2, e3, e4, e5, rfl, rfl, G⟩ := I
  have gN : N ≤ 24 := G.2.2.1
  have z := G.2.2.2.2.2.2.1.2.2.2 N (Nat.le_refl N)
  by_cases a1 : v1 < 0
  · exact br_t a1 (br_t a1 ⟨rfl, cx_rel _ G⟩)
  · by_cases a2 : v1 ≤ 1000
    · by_cases hN : N < 24
      · have c1 : nI N < (24 : Int32) := nI_lt (b := 24) hN (by decide)
        have hq : upd qo N 0 = qo := cx_u0 z.1
        refine br_f a1 (br_t a2 (br_t c1 (cn_x hN ?_)))
        refine br_f a1 (br_t a2 (br_f (cn_n24 hN) (cn_y hN z.2 ?_)))
        rw [hq]
        exact ⟨rfl, cx_rel _ (cn_G qo G hN (Or.inr (Or.inl rfl)) (fun j hj => (G.2.2.2.2.2.2.1.2.2.2 j (by omega)).1))⟩
      · have c1 : ¬ nI N < (24 : Int32) := nI_nlt (b := 24) (by omega) (by omega)
        exact br_f a1 (br_t a2 (br_f c1 (br_f a1 (br_t a2 (br_t (cn_24 gN hN) ⟨rfl, cx_rel _ G⟩)))))
    · exact br_f a1 (br_f a2 (br_f a1 (br_f a2 ⟨rfl, cx_rel _ G⟩)))
theorem i_vc_gate {k : Nat} {u : SX} {v : SY} (I : i_Rel k u v) (hk : k + 4 ≤ 2049) (v1 : Int32) : wpX_gate (fun r u' => wpY_gate (fun r' v' => r' = r ∧ i_Rel (k + 4) u' v') v v1) u v1 := by
  obtain ⟨A, T, N, D, P, E, bl, mk, kd, pv, qo, ic, xn, xw, nw, py, pe, am, rl, rf, st, e1, e2, e3, e4, e5, rfl, rfl, G⟩ := I
  have gN : N ≤ 24 := G.2.2.1
  have z := G.2.2.2.2.2.2.1.2.2.2 N (Nat.le_refl N)
  by_cases a1 : v1 < (-20)
  · exact br_t a1 (br_t a1 ⟨rfl, cx_rel _ G⟩)
  · by_cases a2 : v1 ≤ 20
    · by_cases hN : N < 24
      · have c1 : nI N < (24 : Int32) := nI_lt (b := 24) hN (by decide)
        have hq : upd qo N 0 = qo := cx_u0 z.1
        refine br_f a1 (br_t a2 (br_t c1 (cn_x hN ?_)))
        refine br_f a1 (br_t a2 (br_f (cn_n24 hN) (cn_y hN z.2 ?_)))
        rw [hq]
        exact ⟨rfl, cx_rel _ (cn_G qo G hN (Or.inr (Or.inr (Or.inr rfl))) (fun j hj => (G.2.2.2.2.2.2.1.2.2.2 j (by omega)).1))⟩
      · have c1 : ¬ nI N < (24 : Int32) := nI_nlt (b := 24) (by omega) (by omega)
        exact br_f a1 (br_t a2 (br_f c1 (br_f a1 (br_t a2 (br_t (cn_24 gN hN) ⟨rfl, cx_rel _ G⟩)))))
    · exact br_f a1 (br_f a2 (br_f a1 (br_f a2 ⟨rfl, cx_rel _ G⟩)))
theorem i_vc_window {k : Nat} {u : SX} {v : SY} (I : i_Rel k u v) (hk : k + 4 ≤ 2049) (v1 : Int32) (v2 : Int32) : wpX_window (fun r u' => wpY_window (fun r' v' => r' = r ∧ i_Rel (k + 4) u' v') v v1 v2) u v1 v2 := by
  obtain ⟨A, T, N, D, P, E, bl, mk, kd, pv, qo, ic, xn, xw, nw, py, pe, am, rl, rf, st, e1, e2, e3, e4, e5, rfl, rfl, G⟩ := I
  have gN : N ≤ 24 := G.2.2.1
  have z := G.2.2.2.2.2.2.1.2.2.2 N (Nat.le_refl N)
  by_cases a1 : v1 < 2
  · exact br_t a1 (br_t a1 ⟨rfl, cx_rel _ G⟩)
  by_cases a2 : v1 ≤ 20
  rotate_left
  · exact br_f a1 (br_f a2 (br_f a1 (br_f a2 ⟨rfl, cx_rel _ G⟩)))
  by_cases a3 : v2 < 1
  · exact br_f a1 (br_t a2 (br_t a3 (br_f a1 (br_t a2 (br_t a3 ⟨rfl, cx_rel _ G⟩)))))
  have hn : ¬ v1 < 0 := fun z => a1 (Int32.lt_trans z (by decide))
  obtain ⟨p, hp, rfl⟩ := nI_of hn
  have p2 : 2 ≤ p := (nI_leI (a := 2) (b := p) (by decide) hp).mp (Int32.not_lt.mp a1)
  have p20 : p ≤ 20 := (nI_leI (a := p) (b := 20) hp (by decide)).mp a2
  have hm : ¬ v2 < 0 := fun z => a3 (Int32.lt_trans z (by decide))
  obtain ⟨o, ho, rfl⟩ := nI_of hm
  have ep : nI p - 1 = nI (p - 1) := pk_sub (a := p) (b := 1) (by omega)
  by_cases a4 : nI o < nI p
  · have o4 : o < p := (nI_ltI ho hp).mp a4
    have b4 : nI o ≤ nI p - 1 := by rw [ep]; exact nI_le (by omega) (by omega)
    by_cases hN : N < 24
    · have c1 : nI N < (24 : Int32) := nI_lt (b := 24) hN (by decide)
      refine br_f a1 (br_t a2 (br_f a3 (br_t a4 (br_t c1 (cn_x hN ?_)))))
      refine ⟨vp_in_nI hN (by omega), nm_r (cx_ud qo _ (by omega)) ?_⟩
      refine br_f a1 (br_t a2 (br_f a3 (br_t b4 (br_f (cn_n24 hN) (cn_y hN z.2 ?_)))))
      exact ⟨rfl, cx_rel _ (cn_G (upd qo N (nI o)) G hN (Or.inr (Or.inr (Or.inl ⟨rfl, p, p2, p20, rfl⟩))) (fun j hj => by rw [pk_un (by omega)]; exact (G.2.2.2.2.2.2.1.2.2.2 j (by omega)).1))⟩
    · have c1 : ¬ nI N < (24 : Int32) := nI_nlt (b := 24) (by omega) (by omega)
      exact br_f a1 (br_t a2 (br_f a3 (br_t a4 (br_f c1 (br_f a1 (br_t a2 (br_f a3 (br_t b4 (br_t (cn_24 gN hN) ⟨rfl, cx_rel _ G⟩)))))))))
  · have o4 : ¬ o < p := fun z => a4 ((nI_ltI ho hp).mpr z)
    have b4 : ¬ nI o ≤ nI p - 1 := by rw [ep]; exact nI_ge (by omega) (by omega)
    exact br_f a1 (br_t a2 (br_f a3 (br_f a4 (br_f a1 (br_t a2 (br_f a3 (br_f b4 ⟨rfl, cx_rel _ G⟩)))))))
end
section
theorem cl_G {A T N D P E : Nat} {mk kd pv qo ic xn py pe rl rf st : Nat → Int32} {g c m : Nat} (G : cx_G A T N D P E mk kd pv qo ic xn py pe rl rf st) (hg : g < N) (hc : c < 6) (hi : ic g = nI c) (hm : m < g) : cx_G A T N D P E mk kd pv qo (upd ic g (nI (c + 1))) (upd xn (6 * g + c) (nI m)) py pe rl rf st := by
  obtain ⟨gA, gT, gN, gD, gP, gE, ⟨m1, m2, m3, m4⟩, HD⟩ := G
  refine ⟨gA, gT, gN, gD, gP, gE, ⟨m1, m2, ?_, ?_⟩, HD⟩
  · intro j hj
    obtain ⟨c', hc', hi', hm'⟩ := m3 j hj
    by_cases e : j = g
    · subst e
      have ec : c' = c := (nI_eq (by omega) (by omega)).mp (hi'.symm.trans hi)
      subst ec
      refine ⟨c' + 1, by omega, pk_us, fun k hk => ?_⟩
      by_cases e2 : k = c'
      · subst e2; exact ⟨m, hm, pk_us⟩
      · rw [pk_un (by omega)]; exact hm' k (by omega)
    · rw [pk_un e]
      refine ⟨c', hc', hi', fun k hk => ?_⟩
      rw [pk_un (by omega)]; exact hm' k hk
  · intro j hj
    rw [pk_un (by omega)]; exact m4 j hj
theorem i_vc_link {k : Nat} {u : SX} {v : SY} (I : i_Rel k u v) (hk : k + 4 ≤ 2049) (v1 : Int32) (v2 : Int32) (v3 : Int32) : wpX_link (fun r u' => wpY_link (fun r' v' => r' = r ∧ i_Rel (k + 4) u' v') v v1 v2 v3) u v1 v2 v3 := by
  obtain ⟨A, T, N, D, P, E, bl, mk, kd, pv, qo, ic, xn, xw, nw, py, pe, am, rl, rf, st, e1, e2, e3, e4, e5, rfl, rfl, G⟩ := I
  have gN : N ≤ 24 := G.2.2.1
  have HN := G.2.2.2.2.2.2.1
  unfold wpX_link wpX_isGate
  rcases cq_ix v1 (n := N) (by omega) with h | ⟨g, hg, rfl⟩
  · refine cq_xNode_no h (br_t rfl (br_t rfl ?_))
    unfold wpY_link
    exact cq_yNode_no h (br_f cx_10 ⟨rfl, cx_rel _ G⟩)
  · have pg : vp_in (nI g) 24 := vp_in_nI (by omega) (by omega)
    have ekd : kd (nI g).toNatClampNeg = kd g := cx_at kd (by omega)
    by_cases k3 : kd g = 3
    rotate_left
    · have k3' : ¬ kd (nI g).toNatClampNeg = 3 := by rw [ekd]; exact k3
      refine cq_xNode_ok hg gN (br_f cx_10 ⟨pg, br_f k3' (br_t rfl ?_)⟩)
      unfold wpY_link
      exact cq_yNode_ok hg gN (br_t rfl ⟨pg, br_f k3' ⟨rfl, cx_rel _ G⟩⟩)
    have k3' : kd (nI g).toNatClampNeg = 3 := ekd.trans k3
    refine cq_xNode_ok hg gN (br_f cx_10 ⟨pg, br_t k3' (br_f cx_10 ?_)⟩)
    unfold wpY_link
    by_cases a1 : v2 < 0
    · exact br_t a1 (cq_yNode_ok hg gN (br_t rfl ⟨pg, br_t k3' (br_t a1 ⟨rfl, cx_rel _ G⟩)⟩))
    by_cases a2 : v2 < nI g
    rotate_left
    · exact br_f a1 (br_f a2 (cq_yNode_ok hg gN (br_t rfl ⟨pg, br_t k3' (br_f a1 (br_f a2 ⟨rfl, cx_rel _ G⟩))⟩)))
    by_cases a3 : v3 = 0
    · exact br_f a1 (br_t a2 (br_t a3 (cq_yNode_ok hg gN (br_t rfl ⟨pg, br_t k3' (br_f a1 (br_t a2 (br_t a3 ⟨rfl, cx_rel _ G⟩)))⟩))))
    by_cases a4 : v3 < (-5)
    · exact br_f a1 (br_t a2 (br_f a3 (br_t a4 (cq_yNode_ok hg gN (br_t rfl ⟨pg, br_t k3' (br_f a1 (br_t a2 (br_f a3 (br_t a4 ⟨rfl, cx_rel _ G⟩))))⟩)))))
    by_cases a5 : v3 ≤ 5
    rotate_left
    · exact br_f a1 (br_t a2 (br_f a3 (br_f a4 (br_f a5 (cq_yNode_ok hg gN (br_t rfl ⟨pg, br_t k3' (br_f a1 (br_t a2 (br_f a3 (br_f a4 (br_f a5 ⟨rfl, cx_rel _ G⟩)))))⟩))))))
    obtain ⟨m, hm, rfl⟩ := nI_of a1
    have hmg : m < g := (nI_ltI hm (by omega)).mp a2
    obtain ⟨c, hc, hi, _⟩ := HN.2.2.1 g hg
    have ei : ic (nI g).toNatClampNeg = nI c := (cx_at ic (by omega)).trans hi
    by_cases c6 : c < 6
    rotate_left
    · have a6 : ¬ ic (nI g).toNatClampNeg < 6 := by rw [ei]; exact nI_nlt (b := 6) (by omega) (by omega)
      have a7 : ¬ nI c < (6 : Int32) := nI_nlt (b := 6) (by omega) (by omega)
      exact br_f a1 (br_t a2 (br_f a3 (br_f a4 (br_t a5 ⟨pg, br_f a6 (cq_yNode_ok hg gN (br_t rfl ⟨pg, br_t k3' (br_f a1 (br_t a2 (br_f a3 (br_f a4 (br_t a5 ⟨pg, nm_r ei (br_f a7 ⟨rfl, cx_rel _ G⟩)⟩)))))⟩))⟩))))
    have a6 : ic (nI g).toNatClampNeg < 6 := by rw [ei]; exact nI_lt (b := 6) c6 (by decide)
    have a7 : nI c < (6 : Int32) := nI_lt (b := 6) c6 (by decide)
    have hp : (nI g * 6) + ic (nI g).toNatClampNeg = nI (6 * g + c) := by rw [ei, cx_i6']
    have pp : vp_in (nI (6 * g + c)) 144 := vp_in_nI (by omega) (by omega)
    have pp' : vp_in ((6 : Int32) * nI g + nI c) 144 := by rw [cx_i6]; exact pp
    have uc : upd ic (nI g).toNatClampNeg (ic (nI g).toNatClampNeg + 1) = upd ic g (nI (c + 1)) := by rw [cx_cl (by omega), hi, nI_1]
    have uc' : upd ic (nI g).toNatClampNeg (nI c + 1) = upd ic g (nI (c + 1)) := by rw [cx_cl (by omega), nI_1]
    have un' : upd xn ((6 : Int32) * nI g + nI c).toNatClampNeg (nI m) = upd xn (6 * g + c) (nI m) := by rw [cx_i6, cx_cl (by omega)]
    have uw' : upd xw ((6 : Int32) * nI g + nI c).toNatClampNeg v3 = upd xw (6 * g + c) v3 := by rw [cx_i6, cx_cl (by omega)]
    obtain ⟨r, E', bl', nw', st', e1', e2', e3', e4', e5', G', fX, fY⟩ := cf_settle (bl := bl) (xw := upd xw (6 * g + c) v3) (nw := nw) (am := am) (e1 := e1) (e2 := e2) (e3 := e3) (e4 := e4) (e5 := e5) (cl_G G hg c6 hi hmg)
    refine br_f a1 (br_t a2 (br_f a3 (br_f a4 (br_t a5 ⟨pg, br_t a6 ⟨pg, nm_r hp ⟨pp, nm_r (cx_ud xn _ (by omega)) ⟨pp, nm_r (cx_ud xw _ (by omega)) ⟨pg, pg, nm_r uc (fX _ ?_)⟩⟩⟩⟩⟩))))
    refine cq_yNode_ok hg gN (br_t rfl ⟨pg, br_t k3' (br_f a1 (br_t a2 (br_f a3 (br_f a4 (br_t a5 ⟨pg, nm_r ei (br_t a7 ⟨pp', nm_r un' ⟨pp', nm_r uw' ⟨pg, nm_r uc' (fY _ ?_)⟩⟩⟩)⟩)))))⟩)
    exact ⟨rfl, cx_rel _ G'⟩
theorem ck_G {A T N D P E : Nat} {mk kd pv qo ic xn py pe rl rf st : Nat → Int32} {s : Nat} {b : Int32} (G : cx_G A T N D P E mk kd pv qo ic xn py pe rl rf st) (hb : b = 0 ∨ b = 1) : cx_G A T N D P E (upd mk s b) kd pv qo ic xn py pe rl rf st := by
  obtain ⟨gA, gT, gN, gD, gP, gE, ⟨m1, m2, m3, m4⟩, HD⟩ := G
  refine ⟨gA, gT, gN, gD, gP, gE, ⟨fun j => ?_, m2, m3, m4⟩, HD⟩
  by_cases e : j = s
  · subst e; rw [pk_us]; exact hb
  · rw [pk_un e]; exact m1 j
theorem i_vc_mark {k : Nat} {u : SX} {v : SY} (I : i_Rel k u v) (hk : k + 4 ≤ 2049) (v1 : Int32) (v2 : Int32) : wpX_mark (fun r u' => wpY_mark (fun r' v' => r' = r ∧ i_Rel (k + 4) u' v') v v1 v2) u v1 v2 := by
  obtain ⟨A, T, N, D, P, E, bl, mk, kd, pv, qo, ic, xn, xw, nw, py, pe, am, rl, rf, st, e1, e2, e3, e4, e5, rfl, rfl, G⟩ := I
  unfold wpX_mark
  rcases cq_ix v1 (n := 8) (by decide) with h | ⟨s, hs, rfl⟩
  · exact cq_s_no h (br_t rfl (cq_sy_no h ⟨rfl, cx_rel _ G⟩))
  · have ps : vp_in (nI s) 8 := vp_in_nI hs (by omega)
    refine cq_s_ok hs (br_f cx_10 ?_)
    by_cases a : v2 = 0
    · have um : upd mk (nI s).toNatClampNeg (vp_nar .boolean 0) = upd mk s 0 := by rw [cx_cl (by omega), cx_nar0]
      obtain ⟨r, E', bl', nw', st', e1', e2', e3', e4', e5', G', fX, fY⟩ := cf_settle (bl := bl) (xw := xw) (nw := nw) (am := am) (e1 := e1) (e2 := e2) (e3 := e3) (e4 := e4) (e5 := e5) (ck_G (s := s) G (Or.inl rfl))
      refine br_t a ⟨ps, nm_r um (fX _ ?_)⟩
      refine cq_sy_ok hs (br_t a ⟨ps, nm_r um (fY _ ?_)⟩)
      exact ⟨rfl, cx_rel _ G'⟩
    · have um : upd mk (nI s).toNatClampNeg (vp_nar .boolean 1) = upd mk s 1 := by rw [cx_cl (by omega), cx_nar1]
      obtain ⟨r, E', bl', nw', st', e1', e2', e3', e4', e5', G', fX, fY⟩ := cf_settle (bl := bl) (xw := xw) (nw := nw) (am := am) (e1 := e1) (e2 := e2) (e3 := e3) (e4 := e4) (e5 := e5) (ck_G (s := s) G (Or.inr rfl))
      refine br_f a ⟨ps, nm_r um (fX _ ?_)⟩
      refine cq_sy_ok hs (br_f a ⟨ps, nm_r um (fY _ ?_)⟩)
      exact ⟨rfl, cx_rel _ G'⟩
end
section
theorem i_vc_deposit {k : Nat} {u : SX} {v : SY} (I : i_Rel k u v) (hk : k + 4 ≤ 2049) (v1 : Int32) (v2 : Int32) : wpX_deposit (fun r u' => wpY_deposit (fun r' v' => r' = r ∧ i_Rel (k + 4) u' v') v v1 v2) u v1 v2 := by
  obtain ⟨A, T, N, D, P, E, bl, mk, kd, pv, qo, ic, xn, xw, nw, py, pe, am, rl, rf, st, e1, e2, e3, e4, e5, rfl, rfl, G⟩ := I
  have J := G
  obtain ⟨⟨gA2, gA⟩, gT, gN, gD, gP, gE, HN, HD⟩ := J
  unfold wpX_deposit
  rcases cq_ix v1 (n := A) (by omega) with h | ⟨a, ha, rfl⟩
  · refine cq_xAccount_no h (br_t rfl ?_)
    unfold wpY_deposit
    exact cq_yAccount_no h (br_f cx_10 ⟨rfl, cx_rel _ G⟩)
  refine cq_xAccount_ok ha gA (br_f cx_10 ?_)
  unfold wpY_deposit
  have pa : vp_in (nI a) 6 := vp_in_nI (by omega) (by omega)
  by_cases am0 : v2 < 1 ∨ ¬ v2 ≤ 1000
  · exact cq_m_no am0 (br_t rfl (cq_yAccount_ok ha gA (br_t rfl (cq_my_no am0 ⟨rfl, cx_rel _ G⟩))))
  have m1 : ¬ v2 < 1 := fun z => am0 (Or.inl z)
  have m2 : v2 ≤ 1000 := Decidable.byContradiction (fun z => am0 (Or.inr z))
  refine cq_m_ok m1 m2 (br_f cx_10 ?_)
  by_cases hP : P < 40
  · have c1 : nI P < (40 : Int32) := nI_lt (b := 40) hP (by decide)
    have c2 : ¬ nI P = (40 : Int32) := fun z => by
      have := (nI_eq (a := P) (b := 40) (by omega) (by decide)).mp z
      omega
    have hr := cx_rs_le st D
    have ub : upd bl (nI a).toNatClampNeg (bl (nI a).toNatClampNeg + v2) = upd bl a (bl a + v2) := by rw [cx_cl (by omega)]
    have G2 : cx_G A T N D (P + 1) (E + 1) mk kd pv qo ic xn py pe rl rf st := ⟨⟨gA2, gA⟩, gT, gN, gD, by omega, by omega, HN, HD⟩
    obtain ⟨r, E', bl', nw', st', e1', e2', e3', e4', e5', G', fX, fY⟩ := cf_settle (bl := upd bl a (bl a + v2)) (xw := xw) (nw := nw) (am := am) (e1 := upd e1 E 0) (e2 := upd e2 E (nI a)) (e3 := upd e3 E v2) (e4 := upd e4 E (-1)) (e5 := upd e5 E (nI T)) G2
    refine br_t c1 (nm_r (nI_1 P) (ce_book (by omega) (by omega) (Or.inr ⟨by decide, rfl⟩) _ (fX _ ?_)))
    refine cq_yAccount_ok ha gA (br_t rfl (br_f m1 (br_t m2 (br_f c2 (nm_r (nI_1 P) ⟨pa, pa, nm_r ub (ce_enter (by omega) _ (fY _ ?_))⟩)))))
    exact ⟨rfl, cx_rel _ G'⟩
  · have c1 : ¬ nI P < (40 : Int32) := nI_nlt (b := 40) (by omega) (by omega)
    have c2 : nI P = (40 : Int32) := by
      have e : P = 40 := by omega
      subst e; rfl
    exact br_f c1 (cq_yAccount_ok ha gA (br_t rfl (br_f m1 (br_t m2 (br_t c2 ⟨rfl, cx_rel _ G⟩)))))
theorem cd_off {A T N D P E : Nat} {mk kd pv qo ic xn py pe rl rf st : Nat → Int32} {a b : Nat} (G : cx_G A T N D P E mk kd pv qo ic xn py pe rl rf st) (hD : D < 12) (ha : a < A) (hb : b < A) :
    cx_G A T N (D + 1) P E mk kd pv qo ic xn (upd py D (nI a)) (upd pe D (nI b)) (upd rl D (-1)) (upd rf D (-1)) (upd st D 0) := by
  obtain ⟨gA, gT, gN, gD, gP, gE, HN, HD⟩ := G
  refine ⟨gA, gT, gN, by omega, gP, ?_, HN, ?_⟩
  · show E = P + (cx_rs (upd st D 0) D + cx_rk (upd st D 0 D))
    rw [cx_rs_up st D 0 D (Nat.le_refl _), pk_us, show cx_rk 0 = 0 from by decide]
    exact gE
  · intro d hd
    by_cases e : d = D
    · subst e
      rw [pk_us, pk_us, pk_us, pk_us, pk_us]
      refine ⟨⟨a, ha, rfl⟩, ⟨b, hb, rfl⟩, Or.inl rfl, fun z => ?_⟩
      exact absurd z (by decide)
    · rw [pk_un e, pk_un e, pk_un e, pk_un e, pk_un e]
      exact HD d (by omega)
theorem i_vc_offer {k : Nat} {u : SX} {v : SY} (I : i_Rel k u v) (hk : k + 4 ≤ 2049) (v1 : Int32) (v2 : Int32) (v3 : Int32) : wpX_offer (fun r u' => wpY_offer (fun r' v' => r' = r ∧ i_Rel (k + 4) u' v') v v1 v2 v3) u v1 v2 v3 := by
  obtain ⟨A, T, N, D, P, E, bl, mk, kd, pv, qo, ic, xn, xw, nw, py, pe, am, rl, rf, st, e1, e2, e3, e4, e5, rfl, rfl, G⟩ := I
  have gA : A ≤ 6 := G.1.2
  have gD : D ≤ 12 := G.2.2.2.1
  unfold wpX_offer
  rcases cq_ix v1 (n := A) (by omega) with h | ⟨a, ha, rfl⟩
  · refine cq_xAccount_no h (br_t rfl ?_)
    unfold wpY_offer
    exact cq_yAccount_no h (br_f cx_10 ⟨rfl, cx_rel _ G⟩)
  refine cq_xAccount_ok ha gA (br_f cx_10 ?_)
  rcases cq_ix v2 (n := A) (by omega) with h | ⟨b, hb, rfl⟩
  · refine cq_xAccount_no h (br_t rfl ?_)
    unfold wpY_offer
    exact cq_yAccount_ok ha gA (br_t rfl (cq_yAccount_no h (br_f cx_10 ⟨rfl, cx_rel _ G⟩)))
  refine cq_xAccount_ok hb gA (br_f cx_10 ?_)
  unfold wpY_offer
  by_cases ab : nI a = nI b
  · exact br_t ab (cq_yAccount_ok ha gA (br_t rfl (cq_yAccount_ok hb gA (br_t rfl (br_t ab ⟨rfl, cx_rel _ G⟩)))))
  by_cases am0 : v3 < 1 ∨ ¬ v3 ≤ 1000
  · exact br_f ab (cq_m_no am0 (br_t rfl (cq_yAccount_ok ha gA (br_t rfl (cq_yAccount_ok hb gA (br_t rfl (br_f ab (cq_my_no am0 ⟨rfl, cx_rel _ G⟩))))))))
  have m1 : ¬ v3 < 1 := fun z => am0 (Or.inl z)
  have m2 : v3 ≤ 1000 := Decidable.byContradiction (fun z => am0 (Or.inr z))
  refine br_f ab (cq_m_ok m1 m2 (br_f cx_10 ?_))
  by_cases hD : D < 12
  · have c1 : nI D < (12 : Int32) := nI_lt (b := 12) hD (by decide)
    have pD : vp_in (nI D) 12 := vp_in_nI hD (by omega)
    refine br_t c1 ⟨pD, nm_r (cx_ud py _ (by omega)) ⟨pD, nm_r (cx_ud pe _ (by omega)) ⟨pD, nm_r (cx_ud am _ (by omega)) ⟨pD, nm_r (cx_ud rl _ (by omega)) ⟨pD, nm_r (cx_ud rf _ (by omega)) ⟨pD, nm_r (cx_ud st _ (by omega)) (nm_r (nI_1 D) ?_)⟩⟩⟩⟩⟩⟩
    refine cq_yAccount_ok ha gA (br_t rfl (cq_yAccount_ok hb gA (br_t rfl (br_f ab (br_f m1 (br_t m2 (br_t c1 ⟨pD, nm_r (cx_ud py _ (by omega)) ⟨pD, nm_r (cx_ud pe _ (by omega)) ⟨pD, nm_r (cx_ud am _ (by omega)) ⟨pD, nm_r (cx_ud rl _ (by omega)) ⟨pD, nm_r (cx_ud rf _ (by omega)) ⟨pD, nm_r (cx_ud st _ (by omega)) (nm_r (nI_1 D) ?_)⟩⟩⟩⟩⟩⟩)))))))
    exact ⟨rfl, cx_rel _ (cd_off G hD ha hb)⟩
  · have c1 : ¬ nI D < (12 : Int32) := nI_nlt (b := 12) (by omega) (by omega)
    exact br_f c1 (cq_yAccount_ok ha gA (br_t rfl (cq_yAccount_ok hb gA (br_t rfl (br_f ab (br_f m1 (br_t m2 (br_f c1 ⟨rfl, cx_rel _ G⟩))))))))
theorem cd_trm {A T N D P E : Nat} {mk kd pv qo ic xn py pe rl rf st : Nat → Int32} {d a b : Nat} (G : cx_G A T N D P E mk kd pv qo ic xn py pe rl rf st) (hd : d < D) (hs : st d = 0) (ha : a < N) (hb : b < N) :
    cx_G A T N D P E mk kd pv qo ic xn py pe (upd rl d (nI a)) (upd rf d (nI b)) (upd st d 1) := by
  obtain ⟨gA, gT, gN, gD, gP, gE, HN, HD⟩ := G
  refine ⟨gA, gT, gN, gD, gP, ?_, HN, ?_⟩
  · have h := cx_rs_in st d 1 D hd
    rw [hs, show cx_rk 0 = 0 from by decide, show cx_rk 1 = 0 from by decide] at h
    omega
  · intro i hi
    obtain ⟨h1, h2, h3, h4⟩ := HD i hi
    by_cases e : i = d
    · subst e
      rw [pk_us, pk_us, pk_us]
      exact ⟨h1, h2, Or.inr ⟨a, ha, rfl⟩, fun _ => ⟨⟨a, ha, rfl⟩, ⟨b, hb, rfl⟩⟩⟩
    · rw [pk_un e, pk_un e, pk_un e]
      exact ⟨h1, h2, h3, h4⟩
theorem i_vc_terms {k : Nat} {u : SX} {v : SY} (I : i_Rel k u v) (hk : k + 4 ≤ 2049) (v1 : Int32) (v2 : Int32) (v3 : Int32) : wpX_terms (fun r u' => wpY_terms (fun r' v' => r' = r ∧ i_Rel (k + 4) u' v') v v1 v2 v3) u v1 v2 v3 := by
  obtain ⟨A, T, N, D, P, E, bl, mk, kd, pv, qo, ic, xn, xw, nw, py, pe, am, rl, rf, st, e1, e2, e3, e4, e5, rfl, rfl, G⟩ := I
  have gN : N ≤ 24 := G.2.2.1
  have gD : D ≤ 12 := G.2.2.2.1
  unfold wpX_terms
  rcases cq_ix v1 (n := D) (by omega) with h | ⟨d, hd, rfl⟩
  · refine cq_xDeal_no h (br_t rfl ?_)
    unfold wpY_terms
    exact cq_yDeal_no h (br_f cx_10 ⟨rfl, cx_rel _ G⟩)
  have pd : vp_in (nI d) 12 := vp_in_nI (by omega) (by omega)
  have est : st (nI d).toNatClampNeg = st d := cx_at st (by omega)
  by_cases hs : st d = 0
  rotate_left
  · have hs' : ¬ st (nI d).toNatClampNeg = 0 := by rw [est]; exact hs
    refine cq_xDeal_ok hd gD (br_f cx_10 ⟨pd, br_f hs' ?_⟩)
    unfold wpY_terms
    exact cq_yDeal_ok hd gD (br_t rfl ⟨pd, br_f hs' ⟨rfl, cx_rel _ G⟩⟩)
  have hs' : st (nI d).toNatClampNeg = 0 := est.trans hs
  rcases cq_ix v2 (n := N) (by omega) with h | ⟨a, ha, rfl⟩
  · refine cq_xDeal_ok hd gD (br_f cx_10 ⟨pd, br_t hs' (cq_xNode_no h (br_t rfl ?_))⟩)
    unfold wpY_terms
    exact cq_yDeal_ok hd gD (br_t rfl ⟨pd, br_t hs' (cq_yNode_no h (br_f cx_10 ⟨rfl, cx_rel _ G⟩))⟩)
  rcases cq_ix v3 (n := N) (by omega) with h | ⟨b, hb, rfl⟩
  · refine cq_xDeal_ok hd gD (br_f cx_10 ⟨pd, br_t hs' (cq_xNode_ok ha gN (br_f cx_10 (cq_xNode_no h (br_t rfl ?_))))⟩)
    unfold wpY_terms
    exact cq_yDeal_ok hd gD (br_t rfl ⟨pd, br_t hs' (cq_yNode_ok ha gN (br_t rfl (cq_yNode_no h (br_f cx_10 ⟨rfl, cx_rel _ G⟩))))⟩)
  obtain ⟨r, E', bl', nw', st', e1', e2', e3', e4', e5', G', fX, fY⟩ := cf_settle (bl := bl) (xw := xw) (nw := nw) (am := am) (e1 := e1) (e2 := e2) (e3 := e3) (e4 := e4) (e5 := e5) (cd_trm G hd hs ha hb)
  refine cq_xDeal_ok hd gD (br_f cx_10 ⟨pd, br_t hs' (cq_xNode_ok ha gN (br_f cx_10 (cq_xNode_ok hb gN (br_f cx_10 ⟨pd, nm_r (cx_ud rl _ (by omega)) ⟨pd, nm_r (cx_ud rf _ (by omega)) ⟨pd, nm_r (cx_ud st _ (by omega)) (fX _ ?_)⟩⟩⟩))))⟩)
  unfold wpY_terms
  refine cq_yDeal_ok hd gD (br_t rfl ⟨pd, br_t hs' (cq_yNode_ok ha gN (br_t rfl (cq_yNode_ok hb gN (br_t rfl ⟨pd, nm_r (cx_ud rl _ (by omega)) ⟨pd, nm_r (cx_ud rf _ (by omega)) ⟨pd, nm_r (cx_ud st _ (by omega)) (fY _ ?_)⟩⟩⟩))))⟩)
  exact ⟨rfl, cx_rel _ G'⟩
theorem cd_can {A T N D P E : Nat} {mk kd pv qo ic xn py pe rl rf st : Nat → Int32} {d : Nat} (G : cx_G A T N D P E mk kd pv qo ic xn py pe rl rf st) (hd : d < D) (hs : st d = 0 ∨ st d = 1) :
    cx_G A T N D P E mk kd pv qo ic xn py pe rl rf (upd st d 5) := by
  obtain ⟨gA, gT, gN, gD, gP, gE, HN, HD⟩ := G
  refine ⟨gA, gT, gN, gD, gP, ?_, HN, ?_⟩
  · have h := cx_rs_in st d 5 D hd
    have h0 : cx_rk (st d) = 0 := by
      rcases hs with hs | hs
      · rw [hs]; decide
      · rw [hs]; decide
    rw [h0, show cx_rk 5 = 0 from by decide] at h
    omega
  · intro i hi
    obtain ⟨h1, h2, h3, h4⟩ := HD i hi
    by_cases e : i = d
    · subst e
      rw [pk_us]
      exact ⟨h1, h2, h3, fun z => absurd z (by decide)⟩
    · rw [pk_un e]
      exact ⟨h1, h2, h3, h4⟩
theorem i_vc_cancel {k : Nat} {u : SX} {v : SY} (I : i_Rel k u v) (hk : k + 4 ≤ 2049) (v1 : Int32) : wpX_cancel (fun r u' => wpY_cancel (fun r' v' => r' = r ∧ i_Rel (k + 4) u' v') v v1) u v1 := by
  obtain ⟨A, T, N, D, P, E, bl, mk, kd, pv, qo, ic, xn, xw, nw, py, pe, am, rl, rf, st, e1, e2, e3, e4, e5, rfl, rfl, G⟩ := I
  have gD : D ≤ 12 := G.2.2.2.1
  unfold wpX_cancel
  rcases cq_ix v1 (n := D) (by omega) with h | ⟨d, hd, rfl⟩
  · refine cq_xDeal_no h (br_t rfl ?_)
    unfold wpY_cancel
    exact cq_yDeal_no h (br_f cx_10 ⟨rfl, cx_rel _ G⟩)
  have pd : vp_in (nI d) 12 := vp_in_nI (by omega) (by omega)
  have est : st (nI d).toNatClampNeg = st d := cx_at st (by omega)
  by_cases s0 : st d = 0
  · refine cq_xDeal_ok hd gD (br_f cx_10 ⟨pd, nm_r est (br_t s0 ⟨pd, nm_r (cx_ud st _ (by omega)) ?_⟩)⟩)
    unfold wpY_cancel
    exact cq_yDeal_ok hd gD (br_t rfl ⟨pd, nm_r est (br_t s0 ⟨pd, nm_r (cx_ud st _ (by omega)) ⟨rfl, cx_rel _ (cd_can G hd (Or.inl s0))⟩⟩)⟩)
  by_cases s1 : st d = 1
  · refine cq_xDeal_ok hd gD (br_f cx_10 ⟨pd, nm_r est (br_f s0 (br_t s1 ⟨pd, nm_r (cx_ud st _ (by omega)) ?_⟩))⟩)
    unfold wpY_cancel
    exact cq_yDeal_ok hd gD (br_t rfl ⟨pd, nm_r est (br_f s0 (br_t s1 ⟨pd, nm_r (cx_ud st _ (by omega)) ⟨rfl, cx_rel _ (cd_can G hd (Or.inr s1))⟩⟩))⟩)
  · refine cq_xDeal_ok hd gD (br_f cx_10 ⟨pd, nm_r est (br_f s0 (br_f s1 ?_))⟩)
    unfold wpY_cancel
    exact cq_yDeal_ok hd gD (br_t rfl ⟨pd, nm_r est (br_f s0 (br_f s1 ⟨rfl, cx_rel _ G⟩))⟩)
/-- day after day -/
theorem ca_loop {A N D P n : Nat} {mk kd pv qo ic xn xw py pe am rl rf : Nat → Int32} (hn : n ≤ 60) : ∀ (f i T E : Nat) (s : Int32) (bl nw st e1 e2 e3 e4 e5 : Nat → Int32), i + f = n → T + f ≤ 2000 → cx_G A T N D P E mk kd pv qo ic xn py pe rl rf st →
    ∃ (r : Int32) (T' E' : Nat) (bl' nw' st' e1' e2' e3' e4' e5' : Nat → Int32), cx_G A T' N D P E' mk kd pv qo ic xn py pe rl rf st' ∧
      (∀ post : Int32 → SX → Prop, post r (nI A, nI T', nI N, nI D, nI P, nI E', bl', mk, kd, pv, qo, ic, xn, xw, py, pe, am, rl, rf, st', e1', e2', e3', e4', e5') → wX_advance_32 post (nI n) (f + 1) s (nI i) (nI A) (nI T) (nI N) (nI D) (nI P) (nI E) bl mk kd pv qo ic xn xw py pe am rl rf st e1 e2 e3 e4 e5) ∧
      (∀ post : Int32 → SY → Prop, post r (nI A, nI T', nI N, nI D, nI P, nI E', bl', mk, kd, pv, qo, ic, xn, xw, nw', py, pe, am, rl, rf, st', e1', e2', e3', e4', e5') → wY_advance_32 post (nI n) (f + 1) s (nI i) (nI A) (nI T) (nI N) (nI D) (nI P) (nI E) bl mk kd pv qo ic xn xw nw py pe am rl rf st e1 e2 e3 e4 e5) := by
  intro f
  induction f with
  | zero =>
    intro i T E s bl nw st e1 e2 e3 e4 e5 hi hT G
    have h : nI n ≤ nI i := nI_le (by omega) (by omega)
    exact ⟨s, T, E, bl, nw, st, e1, e2, e3, e4, e5, G, fun post hp => br_t h hp, fun post hp => br_t h hp⟩
  | succ f ih =>
    intro i T E s bl nw st e1 e2 e3 e4 e5 hi hT G
    have h : ¬ nI n ≤ nI i := nI_ge (by omega) (by omega)
    have G1 : cx_G A (T + 1) N D P E mk kd pv qo ic xn py pe rl rf st := ⟨G.1, by omega, G.2.2⟩
    obtain ⟨r, E', bl', nw', st', e1', e2', e3', e4', e5', G2, fX, fY⟩ := cf_settle (bl := bl) (xw := xw) (nw := nw) (am := am) (e1 := e1) (e2 := e2) (e3 := e3) (e4 := e4) (e5 := e5) G1
    obtain ⟨r2, T3, E3, bl3, nw3, st3, e13, e23, e33, e43, e53, G3, hX, hY⟩ := ih (i + 1) (T + 1) E' (s + r) bl' nw' st' e1' e2' e3' e4' e5' (by omega) (by omega) G2
    exact ⟨r2, T3, E3, bl3, nw3, st3, e13, e23, e33, e43, e53, G3, fun post hp => br_f h (nm_r (nI_1 T) (fX _ (nm_e (nm_r (nI_1 i) (hX post hp))))), fun post hp => br_f h (nm_r (nI_1 T) (fY _ (nm_e (nm_r (nI_1 i) (hY post hp)))))⟩
theorem i_vc_advance {k : Nat} {u : SX} {v : SY} (I : i_Rel k u v) (hk : k + 4 ≤ 2049) (v1 : Int32) : wpX_advance (fun r u' => wpY_advance (fun r' v' => r' = r ∧ i_Rel (k + 4) u' v') v v1) u v1 := by
  obtain ⟨A, T, N, D, P, E, bl, mk, kd, pv, qo, ic, xn, xw, nw, py, pe, am, rl, rf, st, e1, e2, e3, e4, e5, rfl, rfl, G⟩ := I
  have gT : T ≤ 2000 := G.2.1
  by_cases a1 : v1 < 1
  · exact br_t a1 (br_t a1 ⟨rfl, cx_rel _ G⟩)
  by_cases a2 : v1 ≤ 60
  rotate_left
  · exact br_f a1 (br_f a2 (br_f a1 (br_f a2 ⟨rfl, cx_rel _ G⟩)))
  have hz : ¬ v1 < 0 := fun z => a1 (Int32.lt_trans z (by decide))
  obtain ⟨n, hn, rfl⟩ := nI_of hz
  have n60 : n ≤ 60 := (nI_leI (a := n) (b := 60) hn (by decide)).mp a2
  by_cases h : T + n ≤ 2000
  · have a3 : nI T + nI n ≤ (2000 : Int32) := by rw [nI_add]; exact nI_le (b := 2000) h (by decide)
    obtain ⟨r2, T3, E3, bl3, nw3, st3, e13, e23, e33, e43, e53, G3, hX, hY⟩ := ca_loop (xw := xw) (am := am) n60 n 0 T E 0 bl nw st e1 e2 e3 e4 e5 (by omega) h G
    exact br_f a1 (br_t a2 (br_t a3 ⟨n + 1, hX _ (br_f a1 (br_t a2 (br_t a3 ⟨n + 1, hY _ ⟨rfl, cx_rel _ G3⟩⟩)))⟩))
  · have a3 : ¬ nI T + nI n ≤ (2000 : Int32) := by rw [nI_add]; exact nI_ge (b := T + n) (a := 2000) (by omega) (by omega)
    exact br_f a1 (br_t a2 (br_f a3 (br_f a1 (br_t a2 (br_f a3 ⟨rfl, cx_rel _ G⟩)))))
end
section
theorem i_vc_today {k : Nat} {u : SX} {v : SY} (I : i_Rel k u v) (hk : k + 4 ≤ 2049) : wpX_today (fun r => wpY_today (fun r' => r' = r ∧ i_Rel (k + 4) u v) v) u := by
  obtain ⟨A, T, N, D, P, E, bl, mk, kd, pv, qo, ic, xn, xw, nw, py, pe, am, rl, rf, st, e1, e2, e3, e4, e5, rfl, rfl, G⟩ := I
  exact ⟨rfl, cx_rel _ G⟩
theorem i_vc_nodes {k : Nat} {u : SX} {v : SY} (I : i_Rel k u v) (hk : k + 4 ≤ 2049) : wpX_nodes (fun r => wpY_nodes (fun r' => r' = r ∧ i_Rel (k + 4) u v) v) u := by
  obtain ⟨A, T, N, D, P, E, bl, mk, kd, pv, qo, ic, xn, xw, nw, py, pe, am, rl, rf, st, e1, e2, e3, e4, e5, rfl, rfl, G⟩ := I
  exact ⟨rfl, cx_rel _ G⟩
theorem i_vc_deals {k : Nat} {u : SX} {v : SY} (I : i_Rel k u v) (hk : k + 4 ≤ 2049) : wpX_deals (fun r => wpY_deals (fun r' => r' = r ∧ i_Rel (k + 4) u v) v) u := by
  obtain ⟨A, T, N, D, P, E, bl, mk, kd, pv, qo, ic, xn, xw, nw, py, pe, am, rl, rf, st, e1, e2, e3, e4, e5, rfl, rfl, G⟩ := I
  exact ⟨rfl, cx_rel _ G⟩
theorem i_vc_entries {k : Nat} {u : SX} {v : SY} (I : i_Rel k u v) (hk : k + 4 ≤ 2049) : wpX_entries (fun r => wpY_entries (fun r' => r' = r ∧ i_Rel (k + 4) u v) v) u := by
  obtain ⟨A, T, N, D, P, E, bl, mk, kd, pv, qo, ic, xn, xw, nw, py, pe, am, rl, rf, st, e1, e2, e3, e4, e5, rfl, rfl, G⟩ := I
  exact ⟨rfl, cx_rel _ G⟩
theorem i_vc_state {k : Nat} {u : SX} {v : SY} (I : i_Rel k u v) (hk : k + 4 ≤ 2049) (v1 : Int32) : wpX_state (fun r => wpY_state (fun r' => r' = r ∧ i_Rel (k + 4) u v) v v1) u v1 := by
  obtain ⟨A, T, N, D, P, E, bl, mk, kd, pv, qo, ic, xn, xw, nw, py, pe, am, rl, rf, st, e1, e2, e3, e4, e5, rfl, rfl, G⟩ := I
  have gC : D ≤ 12 := G.2.2.2.1
  unfold wpX_state
  rcases cq_ix v1 (n := D) (by omega) with h | ⟨d, hd, rfl⟩
  · refine cq_xDeal_no h (br_t rfl ?_)
    unfold wpY_state
    exact cq_yDeal_no h (br_f cx_10 ⟨rfl, cx_rel _ G⟩)
  · have pd : vp_in (nI d) 12 := vp_in_nI (by omega) (by omega)
    refine cq_xDeal_ok hd gC (br_f cx_10 ⟨pd, ?_⟩)
    unfold wpY_state
    exact cq_yDeal_ok hd gC (br_t rfl ⟨pd, rfl, cx_rel _ G⟩)
theorem i_vc_balance {k : Nat} {u : SX} {v : SY} (I : i_Rel k u v) (hk : k + 4 ≤ 2049) (v1 : Int32) : wpX_balance (fun r => wpY_balance (fun r' => r' = r ∧ i_Rel (k + 4) u v) v v1) u v1 := by
  obtain ⟨A, T, N, D, P, E, bl, mk, kd, pv, qo, ic, xn, xw, nw, py, pe, am, rl, rf, st, e1, e2, e3, e4, e5, rfl, rfl, G⟩ := I
  have gC : A ≤ 6 := G.1.2
  unfold wpX_balance
  rcases cq_ix v1 (n := A) (by omega) with h | ⟨d, hd, rfl⟩
  · refine cq_xAccount_no h (br_t rfl ?_)
    unfold wpY_balance
    exact cq_yAccount_no h (br_f cx_10 ⟨rfl, cx_rel _ G⟩)
  · have pd : vp_in (nI d) 6 := vp_in_nI (by omega) (by omega)
    refine cq_xAccount_ok hd gC (br_f cx_10 ⟨pd, ?_⟩)
    unfold wpY_balance
    exact cq_yAccount_ok hd gC (br_t rfl ⟨pd, rfl, cx_rel _ G⟩)
theorem cq_E {A T N D P E : Nat} {mk kd pv qo ic xn py pe rl rf st : Nat → Int32} (G : cx_G A T N D P E mk kd pv qo ic xn py pe rl rf st) : E ≤ 64 := by
  obtain ⟨gA, gT, gN, gD, gP, gE, HN, HD⟩ := G
  have := cx_rs_le st D
  omega
theorem i_vc_entryKind {k : Nat} {u : SX} {v : SY} (I : i_Rel k u v) (hk : k + 4 ≤ 2049) (v1 : Int32) : wpX_entryKind (fun r => wpY_entryKind (fun r' => r' = r ∧ i_Rel (k + 4) u v) v v1) u v1 := by
  obtain ⟨A, T, N, D, P, E, bl, mk, kd, pv, qo, ic, xn, xw, nw, py, pe, am, rl, rf, st, e1, e2, e3, e4, e5, rfl, rfl, G⟩ := I
  have gC := cq_E G
  unfold wpX_entryKind
  rcases cq_ix v1 (n := E) (by omega) with h | ⟨d, hd, rfl⟩
  · refine cq_xEntry_no h (br_t rfl ?_)
    unfold wpY_entryKind
    exact cq_yEntry_no h (br_f cx_10 ⟨rfl, cx_rel _ G⟩)
  · have pd : vp_in (nI d) 64 := vp_in_nI (by omega) (by omega)
    refine cq_xEntry_ok hd gC (br_f cx_10 ⟨pd, ?_⟩)
    unfold wpY_entryKind
    exact cq_yEntry_ok hd gC (br_t rfl ⟨pd, rfl, cx_rel _ G⟩)
theorem i_vc_entryAccount {k : Nat} {u : SX} {v : SY} (I : i_Rel k u v) (hk : k + 4 ≤ 2049) (v1 : Int32) : wpX_entryAccount (fun r => wpY_entryAccount (fun r' => r' = r ∧ i_Rel (k + 4) u v) v v1) u v1 := by
  obtain ⟨A, T, N, D, P, E, bl, mk, kd, pv, qo, ic, xn, xw, nw, py, pe, am, rl, rf, st, e1, e2, e3, e4, e5, rfl, rfl, G⟩ := I
  have gC := cq_E G
  unfold wpX_entryAccount
  rcases cq_ix v1 (n := E) (by omega) with h | ⟨d, hd, rfl⟩
  · refine cq_xEntry_no h (br_t rfl ?_)
    unfold wpY_entryAccount
    exact cq_yEntry_no h (br_f cx_10 ⟨rfl, cx_rel _ G⟩)
  · have pd : vp_in (nI d) 64 := vp_in_nI (by omega) (by omega)
    refine cq_xEntry_ok hd gC (br_f cx_10 ⟨pd, ?_⟩)
    unfold wpY_entryAccount
    exact cq_yEntry_ok hd gC (br_t rfl ⟨pd, rfl, cx_rel _ G⟩)
theorem i_vc_entryAmount {k : Nat} {u : SX} {v : SY} (I : i_Rel k u v) (hk : k + 4 ≤ 2049) (v1 : Int32) : wpX_entryAmount (fun r => wpY_entryAmount (fun r' => r' = r ∧ i_Rel (k + 4) u v) v v1) u v1 := by
  obtain ⟨A, T, N, D, P, E, bl, mk, kd, pv, qo, ic, xn, xw, nw, py, pe, am, rl, rf, st, e1, e2, e3, e4, e5, rfl, rfl, G⟩ := I
  have gC := cq_E G
  unfold wpX_entryAmount
  rcases cq_ix v1 (n := E) (by omega) with h | ⟨d, hd, rfl⟩
  · refine cq_xEntry_no h (br_t rfl ?_)
    unfold wpY_entryAmount
    exact cq_yEntry_no h (br_f cx_10 ⟨rfl, cx_rel _ G⟩)
  · have pd : vp_in (nI d) 64 := vp_in_nI (by omega) (by omega)
    refine cq_xEntry_ok hd gC (br_f cx_10 ⟨pd, ?_⟩)
    unfold wpY_entryAmount
    exact cq_yEntry_ok hd gC (br_t rfl ⟨pd, rfl, cx_rel _ G⟩)
theorem i_vc_entryDeal {k : Nat} {u : SX} {v : SY} (I : i_Rel k u v) (hk : k + 4 ≤ 2049) (v1 : Int32) : wpX_entryDeal (fun r => wpY_entryDeal (fun r' => r' = r ∧ i_Rel (k + 4) u v) v v1) u v1 := by
  obtain ⟨A, T, N, D, P, E, bl, mk, kd, pv, qo, ic, xn, xw, nw, py, pe, am, rl, rf, st, e1, e2, e3, e4, e5, rfl, rfl, G⟩ := I
  have gC := cq_E G
  unfold wpX_entryDeal
  rcases cq_ix v1 (n := E) (by omega) with h | ⟨d, hd, rfl⟩
  · refine cq_xEntry_no h (br_t rfl ?_)
    unfold wpY_entryDeal
    exact cq_yEntry_no h (br_f cx_10 ⟨rfl, cx_rel _ G⟩)
  · have pd : vp_in (nI d) 64 := vp_in_nI (by omega) (by omega)
    refine cq_xEntry_ok hd gC (br_f cx_10 ⟨pd, ?_⟩)
    unfold wpY_entryDeal
    exact cq_yEntry_ok hd gC (br_t rfl ⟨pd, rfl, cx_rel _ G⟩)
theorem i_vc_entryDay {k : Nat} {u : SX} {v : SY} (I : i_Rel k u v) (hk : k + 4 ≤ 2049) (v1 : Int32) : wpX_entryDay (fun r => wpY_entryDay (fun r' => r' = r ∧ i_Rel (k + 4) u v) v v1) u v1 := by
  obtain ⟨A, T, N, D, P, E, bl, mk, kd, pv, qo, ic, xn, xw, nw, py, pe, am, rl, rf, st, e1, e2, e3, e4, e5, rfl, rfl, G⟩ := I
  have gC := cq_E G
  unfold wpX_entryDay
  rcases cq_ix v1 (n := E) (by omega) with h | ⟨d, hd, rfl⟩
  · refine cq_xEntry_no h (br_t rfl ?_)
    unfold wpY_entryDay
    exact cq_yEntry_no h (br_f cx_10 ⟨rfl, cx_rel _ G⟩)
  · have pd : vp_in (nI d) 64 := vp_in_nI (by omega) (by omega)
    refine cq_xEntry_ok hd gC (br_f cx_10 ⟨pd, ?_⟩)
    unfold wpY_entryDay
    exact cq_yEntry_ok hd gC (br_t rfl ⟨pd, rfl, cx_rel _ G⟩)
theorem i_vc_truth {k : Nat} {u : SX} {v : SY} (I : i_Rel k u v) (hk : k + 4 ≤ 2049) (v1 : Int32) : wpX_truth (fun r => wpY_truth (fun r' v' => r' = r ∧ i_Rel (k + 4) u v') v v1) u v1 := by
  obtain ⟨A, T, N, D, P, E, bl, mk, kd, pv, qo, ic, xn, xw, nw, py, pe, am, rl, rf, st, e1, e2, e3, e4, e5, rfl, rfl, G⟩ := I
  have gN : N ≤ 24 := G.2.2.1
  have HN := G.2.2.2.2.2.2.1
  unfold wpX_truth
  rcases cq_ix v1 (n := N) (by omega) with h | ⟨j, hj, rfl⟩
  · refine cq_xNode_no h (br_t rfl ?_)
    unfold wpY_truth
    exact cq_yNode_no h (br_f cx_10 ⟨rfl, cx_rel _ G⟩)
  · have pj : vp_in (nI j) 24 := vp_in_nI (by omega) (by omega)
    obtain ⟨t, nw', hT, tX, tY⟩ := cw_all (A := A) (T := T) (D := D) (P := P) (E := E) (bl := bl) (xw := xw) (nw := nw) (py := py) (pe := pe) (am := am) (rl := rl) (rf := rf) (st := st) (e1 := e1) (e2 := e2) (e3 := e3) (e4 := e4) (e5 := e5) (nI T) gN HN
    rcases hT j hj with ⟨hb, hn⟩ | ⟨hb, hn⟩
    · have hn' : ¬ nw' (nI j).toNatClampNeg = 0 := by rw [cx_cl (by omega)]; exact hn
      refine cq_xNode_ok hj gN (br_f cx_10 (tX _ (br_t (cx_bt1 (by omega) hb) (br_f cx_10 ?_))))
      unfold wpY_truth
      exact cq_yNode_ok hj gN (br_t rfl (tY _ ⟨pj, br_f hn' ⟨rfl, cx_rel _ G⟩⟩))
    · have hn' : nw' (nI j).toNatClampNeg = 0 := by rw [cx_cl (by omega)]; exact hn
      refine cq_xNode_ok hj gN (br_f cx_10 (tX _ (br_f (cx_bt0 (by omega) hb) (br_t rfl ?_))))
      unfold wpY_truth
      exact cq_yNode_ok hj gN (br_t rfl (tY _ ⟨pj, br_t hn' ⟨rfl, cx_rel _ G⟩⟩))
theorem i_vc_score {k : Nat} {u : SX} {v : SY} (I : i_Rel k u v) (hk : k + 4 ≤ 2049) (v1 : Int32) : wpX_score (fun r => wpY_score (fun r' v' => r' = r ∧ i_Rel (k + 4) u v') v v1) u v1 := by
  obtain ⟨A, T, N, D, P, E, bl, mk, kd, pv, qo, ic, xn, xw, nw, py, pe, am, rl, rf, st, e1, e2, e3, e4, e5, rfl, rfl, G⟩ := I
  have gN : N ≤ 24 := G.2.2.1
  have HN := G.2.2.2.2.2.2.1
  unfold wpX_score wpX_isGate
  rcases cq_ix v1 (n := N) (by omega) with h | ⟨g, hg, rfl⟩
  · refine cq_xNode_no h (br_t rfl (br_t rfl ?_))
    unfold wpY_score
    exact cq_yNode_no h (br_f cx_10 ⟨rfl, cx_rel _ G⟩)
  · have pg : vp_in (nI g) 24 := vp_in_nI (by omega) (by omega)
    have ekd : kd (nI g).toNatClampNeg = kd g := cx_at kd (by omega)
    by_cases k3 : kd g = 3
    · have k3' : kd (nI g).toNatClampNeg = 3 := ekd.trans k3
      obtain ⟨t, nw', hT, tX, tY⟩ := cw_all (A := A) (T := T) (D := D) (P := P) (E := E) (bl := bl) (xw := xw) (nw := nw) (py := py) (pe := pe) (am := am) (rl := rl) (rf := rf) (st := st) (e1 := e1) (e2 := e2) (e3 := e3) (e4 := e4) (e5 := e5) (nI T) gN HN
      obtain ⟨r, sX, sY⟩ := cs_all (A := A) (T := T) (D := D) (P := P) (E := E) (bl := bl) (xw := xw) (nw := nw') (py := py) (pe := pe) (am := am) (rl := rl) (rf := rf) (st := st) (e1 := e1) (e2 := e2) (e3 := e3) (e4 := e4) (e5 := e5) t g hg gN HN (fun j hj => hT j (by omega))
      refine cq_xNode_ok hg gN (br_f cx_10 ⟨pg, br_t k3' (br_f cx_10 (tX _ (sX _ ?_)))⟩)
      unfold wpY_score
      exact cq_yNode_ok hg gN (br_t rfl ⟨pg, br_t k3' (tY _ (sY _ ⟨rfl, cx_rel _ G⟩))⟩)
    · have k3' : ¬ kd (nI g).toNatClampNeg = 3 := by rw [ekd]; exact k3
      refine cq_xNode_ok hg gN (br_f cx_10 ⟨pg, br_f k3' (br_t rfl ?_)⟩)
      unfold wpY_score
      exact cq_yNode_ok hg gN (br_t rfl ⟨pg, br_f k3' ⟨rfl, cx_rel _ G⟩⟩)
end
section
/-- the sum of the held deals -/
theorem ch_loop {A T N D P E : Nat} {bl mk kd pv qo ic xn xw nw py pe am rl rf st e1 e2 e3 e4 e5 : Nat → Int32} (hD : D ≤ 12) : ∀ (f d : Nat) (s : Int32), d + f = D → ∃ r : Int32,
    (∀ post : Int32 → Prop, post r → wX_held_4 post (nI A) (nI T) (nI N) (nI D) (nI P) (nI E) bl mk kd pv qo ic xn xw py pe am rl rf st e1 e2 e3 e4 e5 (f + 1) s (nI d)) ∧ (∀ post : Int32 → Prop, post r → wY_held_4 post (nI A) (nI T) (nI N) (nI D) (nI P) (nI E) bl mk kd pv qo ic xn xw nw py pe am rl rf st e1 e2 e3 e4 e5 (f + 1) s (nI d)) := by
  intro f
  induction f with
  | zero =>
    intro d s hd
    have h : nI D ≤ nI d := nI_le (by omega) (by omega)
    exact ⟨s, fun post hp => br_t h hp, fun post hp => br_t h hp⟩
  | succ f ih =>
    intro d s hd
    have h : ¬ nI D ≤ nI d := nI_ge (by omega) (by omega)
    have h2 : ¬ (12 : Int32) ≤ nI d := nI_ge (b := 12) (by omega) (by decide)
    have pd : vp_in (nI d) 12 := vp_in_nI (by omega) (by omega)
    by_cases c : st (nI d).toNatClampNeg = 2
    · obtain ⟨r, hX, hY⟩ := ih (d + 1) (s + am (nI d).toNatClampNeg) (by omega)
      exact ⟨r, fun post hp => br_f h ⟨pd, br_t c ⟨pd, nm_e (nm_r (nI_1 d) (hX post hp))⟩⟩, fun post hp => br_f h (br_f h2 ⟨pd, br_t c ⟨pd, nm_e (nm_r (nI_1 d) (hY post hp))⟩⟩)⟩
    · obtain ⟨r, hX, hY⟩ := ih (d + 1) s (by omega)
      exact ⟨r, fun post hp => br_f h ⟨pd, br_f c (nm_r (nI_1 d) (hX post hp))⟩, fun post hp => br_f h (br_f h2 ⟨pd, br_f c (nm_r (nI_1 d) (hY post hp))⟩)⟩
theorem i_vc_held {k : Nat} {u : SX} {v : SY} (I : i_Rel k u v) (hk : k + 4 ≤ 2049) : wpX_held (fun r => wpY_held (fun r' => r' = r ∧ i_Rel (k + 4) u v) v) u := by
  obtain ⟨A, T, N, D, P, E, bl, mk, kd, pv, qo, ic, xn, xw, nw, py, pe, am, rl, rf, st, e1, e2, e3, e4, e5, rfl, rfl, G⟩ := I
  obtain ⟨r, hX, hY⟩ := ch_loop (A := A) (T := T) (D := D) (P := P) (E := E) (bl := bl) (xw := xw) (nw := nw) (py := py) (pe := pe) (am := am) (rl := rl) (rf := rf) (st := st) (e1 := e1) (e2 := e2) (e3 := e3) (e4 := e4) (e5 := e5) (mk := mk) (kd := kd) (pv := pv) (qo := qo) (ic := ic) (xn := xn) (N := N) G.2.2.2.1 D 0 0 (by omega)
  exact ⟨D + 1, hX _ ⟨D + 1, hY _ ⟨rfl, cx_rel _ G⟩⟩⟩
/-- what entry i changes for an account -/
def cv_ch (e1 e2 e3 : Nat → Int32) (ac : Int32) (i : Nat) : Int32 := if e2 i = ac then (if e1 i = 1 then -(e3 i) else e3 i) else 0
def cv_sum (e1 e2 e3 : Nat → Int32) (ac : Int32) : Nat → Int32
  | 0 => 0
  | n + 1 => cv_sum e1 e2 e3 ac n + cv_ch e1 e2 e3 ac n
theorem cv_pure {e1 e2 e3 : Nat → Int32} {ac : Int32} {i : Nat} (hi : i < 64) {post : Int32 → Prop} (h : post (cv_ch e1 e2 e3 ac i)) :
    vp_in (nI i) 64 ∧ (((e2 (nI i).toNatClampNeg) = ac → (vp_in (nI i) 64 ∧ (((e1 (nI i).toNatClampNeg) = 1 → (vp_in (nI i) 64 ∧ (post (-(e3 (nI i).toNatClampNeg))))) ∧ (¬ (e1 (nI i).toNatClampNeg) = 1 → (vp_in (nI i) 64 ∧ (post (e3 (nI i).toNatClampNeg))))))) ∧ (¬ (e2 (nI i).toNatClampNeg) = ac → (post 0))) := by
  have p : vp_in (nI i) 64 := vp_in_nI hi (by omega)
  rw [cx_cl (by omega)]
  unfold cv_ch at h
  by_cases a : e2 i = ac
  · rw [if_pos a] at h
    by_cases b : e1 i = 1
    · rw [if_pos b] at h
      exact ⟨p, br_t a ⟨p, br_t b ⟨p, h⟩⟩⟩
    · rw [if_neg b] at h
      exact ⟨p, br_t a ⟨p, br_f b ⟨p, h⟩⟩⟩
  · rw [if_neg a] at h
    exact ⟨p, br_f a h⟩
theorem cv_x {A T N D P E : Nat} {bl mk kd pv qo ic xn xw py pe am rl rf st e1 e2 e3 e4 e5 : Nat → Int32} {ac : Int32} {i : Nat} (hi : i < 64) {post : Int32 → Prop} (h : post (cv_ch e1 e2 e3 ac i)) : wpX_changeBy post (nI A, nI T, nI N, nI D, nI P, nI E, bl, mk, kd, pv, qo, ic, xn, xw, py, pe, am, rl, rf, st, e1, e2, e3, e4, e5) (nI i) ac := cv_pure hi h
theorem cv_y {A T N D P E : Nat} {bl mk kd pv qo ic xn xw nw py pe am rl rf st e1 e2 e3 e4 e5 : Nat → Int32} {ac : Int32} {i : Nat} (hi : i < 64) {post : Int32 → Prop} (h : post (cv_ch e1 e2 e3 ac i)) : wpY_effect post (nI A, nI T, nI N, nI D, nI P, nI E, bl, mk, kd, pv, qo, ic, xn, xw, nw, py, pe, am, rl, rf, st, e1, e2, e3, e4, e5) ac (nI i) := cv_pure hi h
theorem cb_loop {A T N D P E : Nat} {bl mk kd pv qo ic xn xw nw py pe am rl rf st e1 e2 e3 e4 e5 : Nat → Int32} (hE : E ≤ 64) (ac dy : Int32) : ∀ (f i : Nat) (s : Int32), i + f = E → ∃ r : Int32,
    (∀ post : Int32 → Prop, post r → wX_balanceOn_15 post ac dy (nI A) (nI T) (nI N) (nI D) (nI P) (nI E) bl mk kd pv qo ic xn xw py pe am rl rf st e1 e2 e3 e4 e5 (f + 1) s (nI i)) ∧ (∀ post : Int32 → Prop, post r → wY_balanceOn_15 post ac dy (nI A) (nI T) (nI N) (nI D) (nI P) (nI E) bl mk kd pv qo ic xn xw nw py pe am rl rf st e1 e2 e3 e4 e5 (f + 1) s (nI i)) := by
  intro f
  induction f with
  | zero =>
    intro d s hd
    have h : nI E ≤ nI d := nI_le (by omega) (by omega)
    exact ⟨s, fun post hp => br_t h hp, fun post hp => br_t h hp⟩
  | succ f ih =>
    intro d s hd
    have h : ¬ nI E ≤ nI d := nI_ge (by omega) (by omega)
    have h2 : ¬ (64 : Int32) ≤ nI d := nI_ge (b := 64) (by omega) (by decide)
    have pd : vp_in (nI d) 64 := vp_in_nI (by omega) (by omega)
    by_cases c : dy < e5 (nI d).toNatClampNeg
    · obtain ⟨r, hX, hY⟩ := ih (d + 1) s (by omega)
      exact ⟨r, fun post hp => br_f h ⟨pd, br_t c (nm_r (nI_1 d) (hX post hp))⟩, fun post hp => br_f h (br_f h2 ⟨pd, br_t c (nm_r (nI_1 d) (hY post hp))⟩)⟩
    · obtain ⟨r, hX, hY⟩ := ih (d + 1) (s + cv_ch e1 e2 e3 ac d) (by omega)
      exact ⟨r, fun post hp => br_f h ⟨pd, br_f c (cv_x (by omega) (nm_e (nm_r (nI_1 d) (hX post hp))))⟩, fun post hp => br_f h (br_f h2 ⟨pd, br_f c (cv_y (by omega) (nm_e (nm_r (nI_1 d) (hY post hp))))⟩)⟩
theorem i_vc_balanceOn {k : Nat} {u : SX} {v : SY} (I : i_Rel k u v) (hk : k + 4 ≤ 2049) (v1 : Int32) (v2 : Int32) : wpX_balanceOn (fun r => wpY_balanceOn (fun r' => r' = r ∧ i_Rel (k + 4) u v) v v1 v2) u v1 v2 := by
  obtain ⟨A, T, N, D, P, E, bl, mk, kd, pv, qo, ic, xn, xw, nw, py, pe, am, rl, rf, st, e1, e2, e3, e4, e5, rfl, rfl, G⟩ := I
  have gA : A ≤ 6 := G.1.2
  unfold wpX_balanceOn
  rcases cq_ix v1 (n := A) (by omega) with h | ⟨a, ha, rfl⟩
  · refine cq_xAccount_no h (br_t rfl ?_)
    unfold wpY_balanceOn
    exact cq_yAccount_no h (br_f cx_10 ⟨rfl, cx_rel _ G⟩)
  · obtain ⟨r, hX, hY⟩ := cb_loop (A := A) (T := T) (D := D) (P := P) (E := E) (bl := bl) (xw := xw) (nw := nw) (py := py) (pe := pe) (am := am) (rl := rl) (rf := rf) (st := st) (e1 := e1) (e2 := e2) (e3 := e3) (e4 := e4) (e5 := e5) (mk := mk) (kd := kd) (pv := pv) (qo := qo) (ic := ic) (xn := xn) (N := N) (cq_E G) (nI a) v2 E 0 0 (by omega)
    refine cq_xAccount_ok ha gA (br_f cx_10 ⟨E + 1, hX _ ?_⟩)
    unfold wpY_balanceOn
    exact cq_yAccount_ok ha gA (br_t rfl ⟨E + 1, hY _ ⟨rfl, cx_rel _ G⟩⟩)
/-- the reference sums anew -/
theorem cb_aft {A T N D P E : Nat} {bl mk kd pv qo ic xn xw nw py pe am rl rf st e1 e2 e3 e4 e5 : Nat → Int32} (ac : Int32) (k : Nat) (hk : k ≤ 64) {post : Int32 → Prop} (h : post (cv_sum e1 e2 e3 ac k)) : ∀ (f i : Nat), i + f = k → wY_balanceAfter_5 post ac (nI k) (nI A) (nI T) (nI N) (nI D) (nI P) (nI E) bl mk kd pv qo ic xn xw nw py pe am rl rf st e1 e2 e3 e4 e5 (f + 1) (cv_sum e1 e2 e3 ac i) (nI i) := by
  intro f
  induction f with
  | zero =>
    intro i hi
    have e : i = k := by omega
    subst e
    exact br_t (nI_le (Nat.le_refl _) (by omega)) h
  | succ f ih =>
    intro i hi
    have h1 : ¬ nI k ≤ nI i := nI_ge (by omega) (by omega)
    have h2 : ¬ (64 : Int32) ≤ nI i := nI_ge (b := 64) (by omega) (by decide)
    exact br_f h1 (br_f h2 (cv_y (by omega) (nm_e (nm_r (nI_1 i) (ih (i + 1) (by omega))))))
theorem cb_af {A T N D P E : Nat} {bl mk kd pv qo ic xn xw nw py pe am rl rf st e1 e2 e3 e4 e5 : Nat → Int32} (ac : Int32) (k : Nat) (hk : k ≤ 64) {post : Int32 → Prop} (h : post (cv_sum e1 e2 e3 ac k)) : wpY_balanceAfter post (nI A, nI T, nI N, nI D, nI P, nI E, bl, mk, kd, pv, qo, ic, xn, xw, nw, py, pe, am, rl, rf, st, e1, e2, e3, e4, e5) ac (nI k) :=
  ⟨k + 1, cb_aft ac k hk h k 0 (by omega)⟩
/-- the class's running sum at k beside the reference's sum at k + 1 -/
theorem cl_two {A T N D P E : Nat} {bl mk kd pv qo ic xn xw nw py pe am rl rf st e1 e2 e3 e4 e5 : Nat → Int32} (ac : Int32) (j : Nat) (hj : j ≤ 64) : ∀ (f k : Nat) (s : Int32), k + f = j → ∃ r : Int32,
    (∀ post : Int32 → Prop, post r → wX_lowest_67 post ac (nI j) (nI A) (nI T) (nI N) (nI D) (nI P) (nI E) bl mk kd pv qo ic xn xw py pe am rl rf st e1 e2 e3 e4 e5 (f + 1) (cv_sum e1 e2 e3 ac k) s (nI k)) ∧ (∀ post : Int32 → Prop, post r → wY_lowest_41 post ac (nI j) (nI A) (nI T) (nI N) (nI D) (nI P) (nI E) bl mk kd pv qo ic xn xw nw py pe am rl rf st e1 e2 e3 e4 e5 (f + 1) s (nI (k + 1))) := by
  intro f
  induction f with
  | zero =>
    intro k s hk
    exact ⟨s, fun post hp => br_t (nI_le (by omega) (by omega)) hp, fun post hp => br_t (nI_lt (by omega) (by omega)) hp⟩
  | succ f ih =>
    intro k s hk
    have h1 : ¬ nI j ≤ nI k := nI_ge (by omega) (by omega)
    have h2 : ¬ nI j < nI (k + 1) := nI_nlt (by omega) (by omega)
    have h3 : ¬ (64 : Int32) < nI (k + 1) := nI_nlt (a := 64) (by omega) (by omega)
    by_cases c : s ≤ cv_sum e1 e2 e3 ac (k + 1)
    · obtain ⟨r, hX, hY⟩ := ih (k + 1) s (by omega)
      exact ⟨r, fun post hp => br_f h1 (cv_x (by omega) (nm_r rfl (br_t c (nm_r (nI_1 k) (hX post hp))))), fun post hp => br_f h2 (br_f h3 (cb_af ac (k + 1) (by omega) (br_t c (nm_r (nI_1 (k + 1)) (hY post hp)))))⟩
    · obtain ⟨r, hX, hY⟩ := ih (k + 1) (cv_sum e1 e2 e3 ac (k + 1)) (by omega)
      exact ⟨r, fun post hp => br_f h1 (cv_x (by omega) (nm_r rfl (br_f c (nm_r (nI_1 k) (hX post hp))))), fun post hp => br_f h2 (br_f h3 (cb_af ac (k + 1) (by omega) (br_f c (nm_r (nI_1 (k + 1)) (hY post hp)))))⟩
theorem cl_one {A T N D P E : Nat} {bl mk kd pv qo ic xn xw py pe am rl rf st e1 e2 e3 e4 e5 : Nat → Int32} (ac : Int32) (i j : Nat) (hi : i ≤ 64) {post : Int32 → Prop} (n : Nat) (h : wX_lowest_67 post ac (nI j) (nI A) (nI T) (nI N) (nI D) (nI P) (nI E) bl mk kd pv qo ic xn xw py pe am rl rf st e1 e2 e3 e4 e5 n (cv_sum e1 e2 e3 ac i) (cv_sum e1 e2 e3 ac i) (nI i)) : ∀ (f k : Nat), k + f = i → wX_lowest_36 post ac (nI i) (nI j) (nI A) (nI T) (nI N) (nI D) (nI P) (nI E) bl mk kd pv qo ic xn xw py pe am rl rf st e1 e2 e3 e4 e5 (f + 1) (cv_sum e1 e2 e3 ac k) (nI k) := by
  intro f
  induction f with
  | zero =>
    intro k hk
    have e : k = i := by omega
    subst e
    exact br_t (nI_le (Nat.le_refl _) (by omega)) ⟨n, h⟩
  | succ f ih =>
    intro k hk
    have h1 : ¬ nI i ≤ nI k := nI_ge (by omega) (by omega)
    exact br_f h1 (cv_x (by omega) (nm_r rfl (nm_r (nI_1 k) (ih (k + 1) (by omega)))))
theorem i_vc_lowest {k : Nat} {u : SX} {v : SY} (I : i_Rel k u v) (hk : k + 4 ≤ 2049) (v1 : Int32) (v2 : Int32) (v3 : Int32) : wpX_lowest (fun r => wpY_lowest (fun r' => r' = r ∧ i_Rel (k + 4) u v) v v1 v2 v3) u v1 v2 v3 := by
  obtain ⟨A, T, N, D, P, E, bl, mk, kd, pv, qo, ic, xn, xw, nw, py, pe, am, rl, rf, st, e1, e2, e3, e4, e5, rfl, rfl, G⟩ := I
  have gA : A ≤ 6 := G.1.2
  have gE := cq_E G
  unfold wpX_lowest
  rcases cq_ix v1 (n := A) (by omega) with h | ⟨a, ha, rfl⟩
  · refine cq_xAccount_no h (br_t rfl ?_)
    unfold wpY_lowest
    exact cq_yAccount_no h (br_f cx_10 ⟨rfl, cx_rel _ G⟩)
  refine cq_xAccount_ok ha gA (br_f cx_10 ?_)
  unfold wpY_lowest
  by_cases a1 : v2 < 0
  · exact br_t a1 (cq_yAccount_ok ha gA (br_t rfl (br_t a1 ⟨rfl, cx_rel _ G⟩)))
  by_cases a2 : v3 < v2
  · exact br_f a1 (br_t a2 (cq_yAccount_ok ha gA (br_t rfl (br_f a1 (br_t a2 ⟨rfl, cx_rel _ G⟩)))))
  by_cases a3 : v3 ≤ nI E
  rotate_left
  · exact br_f a1 (br_f a2 (br_f a3 (cq_yAccount_ok ha gA (br_t rfl (br_f a1 (br_f a2 (br_f a3 ⟨rfl, cx_rel _ G⟩)))))))
  obtain ⟨i, hi, rfl⟩ := nI_of a1
  have b1 : ¬ v3 < 0 := fun z => a2 (Int32.lt_of_lt_of_le z (nI_pos' hi))
  obtain ⟨j, hj, rfl⟩ := nI_of b1
  have hij : i ≤ j := Nat.le_of_not_lt (fun z => a2 (nI_lt z hi))
  have hjE : j ≤ E := (nI_leI hj (by omega)).mp a3
  obtain ⟨r, hX, hY⟩ := cl_two (A := A) (T := T) (D := D) (P := P) (E := E) (bl := bl) (xw := xw) (nw := nw) (py := py) (pe := pe) (am := am) (rl := rl) (rf := rf) (st := st) (e1 := e1) (e2 := e2) (e3 := e3) (e4 := e4) (e5 := e5) (mk := mk) (kd := kd) (pv := pv) (qo := qo) (ic := ic) (xn := xn) (N := N) (nI a) j (by omega) (j - i) i (cv_sum e1 e2 e3 (nI a) i) (by omega)
  refine br_f a1 (br_f a2 (br_t a3 ⟨i + 1, cl_one (nI a) i j (by omega) (j - i + 1) (hX _ ?_) i 0 (by omega)⟩))
  refine cq_yAccount_ok ha gA (br_t rfl (br_f a1 (br_f a2 (br_t a3 (cb_af (nI a) i (by omega) ?_)))))
  refine ⟨j - i + 1 + 1, br_f (nI_nlt hij (by omega)) (br_f (nI_nlt (a := 64) (by omega) (by decide)) (cb_af (nI a) i (by omega) ?_))⟩
  exact br_t (Int32.le_refl _) (nm_r (nI_1 i) (hY _ ⟨rfl, cx_rel _ G⟩))
end
section
/-- the days ahead -/
theorem cg_loop {A T N D P E : Nat} {bl mk kd pv qo ic xn xw py pe am rl rf st e1 e2 e3 e4 e5 : Nat → Int32} (m : Nat) (hm : m < N) (hN : N ≤ 24) (hT : T ≤ 2000) (HN : cx_N N mk kd pv qo ic xn) : ∀ (f c : Nat) (nw : Nat → Int32), c + f = 201 → ∃ (r : Int32) (nw' : Nat → Int32),
    (∀ post : Int32 → Prop, post r → wX_forecast_27 post (nI m) (nI A) (nI T) (nI N) (nI D) (nI P) (nI E) bl mk kd pv qo ic xn xw py pe am rl rf st e1 e2 e3 e4 e5 (f + 1) (nI c)) ∧
    (∀ post : Int32 → SY → Prop, post r (nI A, nI T, nI N, nI D, nI P, nI E, bl, mk, kd, pv, qo, ic, xn, xw, nw', py, pe, am, rl, rf, st, e1, e2, e3, e4, e5) → wY_forecast_26 post (nI m) (f + 1) (nI c) (nI A) (nI T) (nI N) (nI D) (nI P) (nI E) bl mk kd pv qo ic xn xw nw py pe am rl rf st e1 e2 e3 e4 e5) := by
  have pm : vp_in (nI m) 24 := vp_in_nI (by omega) (by omega)
  intro f
  induction f with
  | zero =>
    intro c nw hc
    have h : (200 : Int32) < nI c := nI_lt (a := 200) (by omega) (by omega)
    exact ⟨-3, nw, fun post hp => br_t h hp, fun post hp => br_t h hp⟩
  | succ f ih =>
    intro c nw hc
    have h : ¬ (200 : Int32) < nI c := nI_nlt (b := c) (a := 200) (by omega) (by decide)
    obtain ⟨t, nw', hT', tX, tY⟩ := cw_all (A := A) (T := T) (D := D) (P := P) (E := E) (bl := bl) (xw := xw) (nw := nw) (py := py) (pe := pe) (am := am) (rl := rl) (rf := rf) (st := st) (e1 := e1) (e2 := e2) (e3 := e3) (e4 := e4) (e5 := e5) (nI T + nI c) hN HN
    rcases hT' m hm with ⟨hb, hn⟩ | ⟨hb, hn⟩
    · have hn' : ¬ nw' (nI m).toNatClampNeg = 0 := by rw [cx_cl (by omega)]; exact hn
      exact ⟨nI T + nI c, nw', fun post hp => br_f h (nm_e (tX _ (br_t (cx_bt1 (by omega) hb) (br_f cx_10 hp)))), fun post hp => br_f h (tY _ ⟨pm, br_f hn' hp⟩)⟩
    · have hn' : nw' (nI m).toNatClampNeg = 0 := by rw [cx_cl (by omega)]; exact hn
      obtain ⟨r, nw2, hX, hY⟩ := ih (c + 1) nw' (by omega)
      exact ⟨r, nw2, fun post hp => br_f h (nm_e (tX _ (br_f (cx_bt0 (by omega) hb) (br_t rfl (nm_r (nI_1 c) (hX post hp)))))), fun post hp => br_f h (tY _ ⟨pm, br_t hn' (nm_r (nI_1 c) (hY post hp))⟩)⟩
theorem i_vc_forecast {k : Nat} {u : SX} {v : SY} (I : i_Rel k u v) (hk : k + 4 ≤ 2049) (v1 : Int32) : wpX_forecast (fun r => wpY_forecast (fun r' v' => r' = r ∧ i_Rel (k + 4) u v') v v1) u v1 := by
  obtain ⟨A, T, N, D, P, E, bl, mk, kd, pv, qo, ic, xn, xw, nw, py, pe, am, rl, rf, st, e1, e2, e3, e4, e5, rfl, rfl, G⟩ := I
  have gN : N ≤ 24 := G.2.2.1
  have gD : D ≤ 12 := G.2.2.2.1
  unfold wpX_forecast
  rcases cq_ix v1 (n := D) (by omega) with h | ⟨d, hd, rfl⟩
  · refine cq_xDeal_no h (br_t rfl ?_)
    unfold wpY_forecast
    exact cq_yDeal_no h (br_f cx_10 ⟨rfl, cx_rel _ G⟩)
  have pd : vp_in (nI d) 12 := vp_in_nI (by omega) (by omega)
  have erl : rl (nI d).toNatClampNeg = rl d := cx_at rl (by omega)
  rcases (G.2.2.2.2.2.2.2 d hd).2.2.1 with hr | ⟨m, hm, hr⟩
  · refine cq_xDeal_ok hd gD (br_f cx_10 ⟨pd, nm_r (erl.trans hr) (br_t rfl ?_)⟩)
    unfold wpY_forecast
    exact cq_yDeal_ok hd gD (br_t rfl ⟨pd, nm_r (erl.trans hr) (br_f (by decide) ⟨rfl, cx_rel _ G⟩)⟩)
  · obtain ⟨r, nw', hX, hY⟩ := cg_loop (A := A) (T := T) (D := D) (P := P) (E := E) (bl := bl) (xw := xw) (py := py) (pe := pe) (am := am) (rl := rl) (rf := rf) (st := st) (e1 := e1) (e2 := e2) (e3 := e3) (e4 := e4) (e5 := e5) m hm gN G.2.1 G.2.2.2.2.2.2.1 201 0 nw (by omega)
    refine cq_xDeal_ok hd gD (br_f cx_10 ⟨pd, nm_r (erl.trans hr) (br_f (cx_m1 (by omega)) ⟨201 + 1, hX _ ?_⟩)⟩)
    unfold wpY_forecast
    exact cq_yDeal_ok hd gD (br_t rfl ⟨pd, nm_r (erl.trans hr) (br_t (nI_pos' (by omega)) ⟨201 + 1, hY _ ⟨rfl, cx_rel _ G⟩⟩)⟩)
end
