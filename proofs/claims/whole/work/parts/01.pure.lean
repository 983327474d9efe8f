theorem pk_us {f : Nat → Int32} {k : Nat} {x : Int32} : upd f k x k = x := if_pos rfl
theorem pk_un {f : Nat → Int32} {k j : Nat} {x : Int32} (h : j ≠ k) : upd f k x j = f j := if_neg h
theorem pk_sub {a b : Nat} (h : b ≤ a) : nI a - nI b = nI (a - b) := by
  obtain ⟨c, rfl⟩ : ∃ c, a = c + b := ⟨a - b, by omega⟩
  rw [← nI_add, Int32.add_sub_cancel, Nat.add_sub_cancel]
theorem pk_mul (a b : Nat) : nI a * nI b = nI (a * b) := (Int32.ofNat_mul a b).symm
theorem pk_ix (x : Int32) {n : Nat} (hn : n < 2 ^ 31) : x < 0 ∨ nI n ≤ x ∨ ∃ j : Nat, j < n ∧ x = nI j := by
  by_cases h : x < 0
  · exact Or.inl h
  · obtain ⟨j, hj, rfl⟩ := nI_of h
    by_cases h2 : j < n
    · exact Or.inr (Or.inr ⟨j, h2, rfl⟩)
    · exact Or.inr (Or.inl (nI_le (by omega) hj))
theorem pk_le {x y : Int32} {A B : Prop} (a b : Nat) (f : a ≤ b → A) (g : b < a → B) (hx : x = nI a := by rfl) (hy : y = nI b := by rfl) (ha : a < 2 ^ 31 := by omega) (hb : b < 2 ^ 31 := by omega) : (x ≤ y → A) ∧ (¬ x ≤ y → B) := by
  subst hx hy
  rw [nI_leI ha hb]
  exact ⟨f, fun z => g (by omega)⟩
theorem pk_lt {x y : Int32} {A B : Prop} (a b : Nat) (f : a < b → A) (g : b ≤ a → B) (hx : x = nI a := by rfl) (hy : y = nI b := by rfl) (ha : a < 2 ^ 31 := by omega) (hb : b < 2 ^ 31 := by omega) : (x < y → A) ∧ (¬ x < y → B) := by
  subst hx hy
  rw [nI_ltI ha hb]
  exact ⟨f, fun z => g (by omega)⟩
theorem pk_eq {x y : Int32} {A B : Prop} (a b : Nat) (f : a = b → A) (g : a ≠ b → B) (hx : x = nI a := by rfl) (hy : y = nI b := by rfl) (ha : a < 2 ^ 31 := by omega) (hb : b < 2 ^ 31 := by omega) : (x = y → A) ∧ (¬ x = y → B) := by
  subst hx hy
  rw [nI_eq ha hb]
  exact ⟨f, g⟩
theorem pk_in {x : Int32} (n N : Nat) (h : n < N) (hx : x = nI n := by rfl) (hN : N < 2 ^ 31 := by omega) : vp_in x N := by
  subst hx
  exact vp_in_nI h hN
theorem pk_cl {x : Int32} (n : Nat) (hx : x = nI n := by rfl) (h : n < 2 ^ 31 := by omega) : x.toNatClampNeg = n := by
  subst hx
  exact nI_clamp h
def bt (x : Int32) (i : Nat) : Bool := x.toBitVec.getLsbD i
theorem b_or (x y : Int32) (i : Nat) : bt (x ||| y) i = (bt x i || bt y i) := by unfold bt; rw [Int32.toBitVec_or, BitVec.getLsbD_or]
theorem b_and (x y : Int32) (i : Nat) : bt (x &&& y) i = (bt x i && bt y i) := by unfold bt; rw [Int32.toBitVec_and, BitVec.getLsbD_and]
theorem b_big {x : Int32} {i : Nat} (h : 32 ≤ i) : bt x i = false := BitVec.getLsbD_of_ge _ _ h
theorem b_0 (i : Nat) : bt 0 i = false := BitVec.getLsbD_zero
theorem s_l : ∀ n, n < 32 → ((nI n &&& 31).toBitVec.smod 32).toNat = n := by decide +kernel
theorem b_shl (n : Nat) (hn : n < 32) (x : Int32) {i : Nat} (hi : i < 32) : bt (x <<< (nI n &&& 31)) i = (decide (n ≤ i) && bt x (i - n)) := by
  unfold bt
  rw [Int32.toBitVec_shiftLeft]
  show (x.toBitVec <<< ((nI n &&& 31).toBitVec.smod 32).toNat).getLsbD i = _
  rw [s_l n hn, BitVec.getLsbD_shiftLeft]
  rcases Nat.lt_or_ge i n with h | h
  · simp [h, Nat.not_le.mpr h]
  · simp [hi, h, Nat.not_lt.mpr h]
theorem b_sshr (n : Nat) (hn : n < 32) (x : Int32) {i : Nat} (hi : i < 32) : bt (x >>> (nI n &&& 31)) i = if n + i < 32 then bt x (n + i) else bt x 31 := by
  unfold bt
  rw [Int32.toBitVec_shiftRight]
  show (x.toBitVec.sshiftRight ((nI n &&& 31).toBitVec.smod 32).toNat).getLsbD i = _
  rw [s_l n hn, BitVec.getLsbD_sshiftRight, BitVec.msb_eq_getLsbD_last]
  simp [hi]
theorem b_ext {x y : Int32} (h : ∀ i, i < 32 → bt x i = bt y i) : x = y := Int32.toBitVec_inj.mp (BitVec.eq_of_getLsbD_eq (fun i hi => h i hi))
theorem cx_one : ∀ i, i < 32 → bt 1 i = decide (i = 0) := by decide +kernel
theorem cx_bt1 {t : Int32} {j : Nat} (hj : j < 24) (h : bt t j = true) : ((t >>> (nI j &&& 31)) &&& 1) = 1 := by
  apply b_ext
  intro i hi
  rw [b_and, cx_one i hi, b_sshr j (by omega) t hi]
  by_cases z : i = 0
  · subst z
    rw [if_pos (by omega), Nat.add_zero, h]; rfl
  · rw [decide_eq_false z, Bool.and_false]
theorem cx_bt0 {t : Int32} {j : Nat} (hj : j < 24) (h : bt t j = false) : ¬ ((t >>> (nI j &&& 31)) &&& 1) = 1 := by
  intro e
  have e2 : bt ((t >>> (nI j &&& 31)) &&& 1) 0 = bt 1 0 := by rw [e]
  rw [b_and, cx_one 0 (by omega), b_sshr j (by omega) t (by omega), if_pos (by omega), Nat.add_zero, h] at e2
  exact absurd e2 (by decide)
theorem cx_or {t : Int32} {j : Nat} (hj : j < 24) (i : Nat) : bt (t ||| ((1 : Int32) <<< (nI j &&& 31))) i = (bt t i || decide (i = j)) := by
  rw [b_or]
  rcases Nat.lt_or_ge i 32 with h | h
  · rw [b_shl j (by omega) 1 h, cx_one (i - j) (by omega)]
    by_cases z : i = j
    · subst z; simp
    · rw [decide_eq_false z]
      by_cases y : j ≤ i
      · rw [decide_eq_true y, decide_eq_false (by omega : ¬ i - j = 0)]; rfl
      · rw [decide_eq_false y]; rfl
  · rw [b_big h, b_big h, decide_eq_false (by omega : ¬ i = j)]
theorem cx_nar0 : vp_nar .boolean 0 = 0 := rfl
theorem cx_nar1 : vp_nar .boolean 1 = 1 := rfl
theorem cx_narb {x : Int32} (h : x = 0 ∨ x = 1) : vp_nar .boolean x = x := by
  rcases h with rfl | rfl
  · rfl
  · rfl
theorem cx_narw {x : Int32} (h : x = 0 ∨ x = 1) : narrow .boolean (.int x) = .int x := by
  rcases h with rfl | rfl
  · rfl
  · rfl
theorem cx_10 : ¬ (1 : Int32) = 0 := by decide
theorem cx_u0 {f : Nat → Int32} {n : Nat} (h : f n = 0) : upd f n 0 = f := by
  funext j
  by_cases e : j = n
  · subst e; rw [pk_us, h]
  · rw [pk_un e]
theorem cx_i6 (g k : Nat) : (6 : Int32) * nI g + nI k = nI (6 * g + k) := by
  rw [show (6 : Int32) = nI 6 from rfl, pk_mul, nI_add]
theorem cx_i6' (g k : Nat) : nI g * (6 : Int32) + nI k = nI (6 * g + k) := by
  rw [show (6 : Int32) = nI 6 from rfl, pk_mul, nI_add, Nat.mul_comm]
theorem cx_p6 (g : Nat) : nI g * (6 : Int32) = nI (6 * g) := by
  rw [show (6 : Int32) = nI 6 from rfl, pk_mul, Nat.mul_comm]
theorem cx_m1 {n : Nat} (h : n < 2 ^ 31) : ¬ nI n = -1 := by
  intro e
  have h2 := nI_pos h
  rw [e] at h2
  exact h2 (by decide)
theorem cx_cl {n : Nat} (h : n < 1000) : (nI n).toNatClampNeg = n := nI_clamp (by omega)
theorem cx_at (f : Nat → Int32) {n : Nat} (h : n < 1000) : f (nI n).toNatClampNeg = f n := by rw [cx_cl h]
theorem cx_ud (f : Nat → Int32) {n : Nat} (x : Int32) (h : n < 1000) : upd f (nI n).toNatClampNeg x = upd f n x := by rw [cx_cl h]
/-- how many entries a deal's state has cost -/
def cx_rk (x : Int32) : Nat := if x = 2 then 1 else if x = 3 then 2 else if x = 4 then 2 else 0
def cx_rs (st : Nat → Int32) : Nat → Nat
  | 0 => 0
  | n + 1 => cx_rs st n + cx_rk (st n)
theorem cx_rk2 (x : Int32) : cx_rk x ≤ 2 := by
  unfold cx_rk
  by_cases a : x = 2
  · rw [if_pos a]; omega
  · rw [if_neg a]
    by_cases b : x = 3
    · rw [if_pos b]; omega
    · rw [if_neg b]
      by_cases c : x = 4
      · rw [if_pos c]; omega
      · rw [if_neg c]; omega
theorem cx_rs_le (st : Nat → Int32) : ∀ n, cx_rs st n ≤ 2 * n
  | 0 => Nat.le_refl _
  | n + 1 => by
    have h1 := cx_rs_le st n
    have h2 := cx_rk2 (st n)
    show cx_rs st n + cx_rk (st n) ≤ _
    omega
theorem cx_rs_up (st : Nat → Int32) (d : Nat) (x : Int32) : ∀ n, n ≤ d → cx_rs (upd st d x) n = cx_rs st n
  | 0 => fun _ => rfl
  | n + 1 => fun h => by
    show cx_rs (upd st d x) n + cx_rk (upd st d x n) = cx_rs st n + cx_rk (st n)
    rw [cx_rs_up st d x n (by omega), pk_un (by omega)]
theorem cx_rs_in (st : Nat → Int32) (d : Nat) (x : Int32) : ∀ n, d < n → cx_rs (upd st d x) n + cx_rk (st d) = cx_rs st n + cx_rk x
  | 0 => fun h => by omega
  | n + 1 => fun h => by
    show cx_rs (upd st d x) n + cx_rk (upd st d x n) + cx_rk (st d) = cx_rs st n + cx_rk (st n) + cx_rk x
    by_cases e : d = n
    · subst e
      rw [cx_rs_up st d x d (Nat.le_refl _), pk_us]; omega
    · rw [pk_un (by omega)]
      have := cx_rs_in st d x n (by omega)
      omega
theorem cx_rs_lt (st : Nat → Int32) (d n : Nat) (h : d < n) (hr : cx_rk (st d) < 2) : cx_rs st n < 2 * n := by
  have h1 := cx_rs_in st d 3 n h
  have h2 := cx_rs_le (upd st d 3) n
  have h3 : cx_rk 3 = 2 := by decide
  omega
/-- the nodes are well made -/
def cx_N (N : Nat) (mk kd pv qo ic xn : Nat → Int32) : Prop :=
  (∀ j, mk j = 0 ∨ mk j = 1) ∧
  (∀ j, j < N → ((kd j = 0 ∧ ∃ s, s < 8 ∧ pv j = nI s) ∨ kd j = 1 ∨ (kd j = 2 ∧ ∃ p, 2 ≤ p ∧ p ≤ 20 ∧ pv j = nI p) ∨ kd j = 3)) ∧
  (∀ j, j < N → ∃ c, c ≤ 6 ∧ ic j = nI c ∧ ∀ k, k < c → ∃ m, m < j ∧ xn (6 * j + k) = nI m) ∧
  (∀ j, N ≤ j → qo j = 0 ∧ ic j = 0)
/-- the deals are well made -/
def cx_D (A N D : Nat) (py pe rl rf st : Nat → Int32) : Prop :=
  ∀ d, d < D → (∃ a, a < A ∧ py d = nI a) ∧ (∃ a, a < A ∧ pe d = nI a) ∧ (rl d = -1 ∨ ∃ n, n < N ∧ rl d = nI n) ∧
    ((st d = 1 ∨ st d = 2) → (∃ n, n < N ∧ rl d = nI n) ∧ (∃ n, n < N ∧ rf d = nI n))
def cx_G (A T N D P E : Nat) (mk kd pv qo ic xn py pe rl rf st : Nat → Int32) : Prop :=
  (2 ≤ A ∧ A ≤ 6) ∧ T ≤ 2000 ∧ N ≤ 24 ∧ D ≤ 12 ∧ P ≤ 40 ∧ E = P + cx_rs st D ∧ cx_N N mk kd pv qo ic xn ∧ cx_D A N D py pe rl rf st
/-- the class and the reference keep the same numbers in the same arrays; the reference's own array of truths is free -/
def i_Rel (_ : Nat) (u : SX) (v : SY) : Prop := ∃ (A T N D P E : Nat) (bl mk kd pv qo ic xn xw nw py pe am rl rf st e1 e2 e3 e4 e5 : Nat → Int32),
  u = (nI A, nI T, nI N, nI D, nI P, nI E, bl, mk, kd, pv, qo, ic, xn, xw, py, pe, am, rl, rf, st, e1, e2, e3, e4, e5) ∧ v = (nI A, nI T, nI N, nI D, nI P, nI E, bl, mk, kd, pv, qo, ic, xn, xw, nw, py, pe, am, rl, rf, st, e1, e2, e3, e4, e5) ∧ cx_G A T N D P E mk kd pv qo ic xn py pe rl rf st
theorem i_up {k : Nat} {u : SX} {v : SY} (h : i_Rel k u v) : i_Rel (k + 4) u v := h
theorem cx_rel {A T N D P E : Nat} {bl mk kd pv qo ic xn xw nw py pe am rl rf st e1 e2 e3 e4 e5 : Nat → Int32} (k : Nat) (G : cx_G A T N D P E mk kd pv qo ic xn py pe rl rf st) : i_Rel k (nI A, nI T, nI N, nI D, nI P, nI E, bl, mk, kd, pv, qo, ic, xn, xw, py, pe, am, rl, rf, st, e1, e2, e3, e4, e5) (nI A, nI T, nI N, nI D, nI P, nI E, bl, mk, kd, pv, qo, ic, xn, xw, nw, py, pe, am, rl, rf, st, e1, e2, e3, e4, e5) :=
  ⟨A, T, N, D, P, E, bl, mk, kd, pv, qo, ic, xn, xw, nw, py, pe, am, rl, rf, st, e1, e2, e3, e4, e5, rfl, rfl, G⟩
/-- the set t of nodes says what nw says, up to n -/
def cx_T (n : Nat) (t : Int32) (nw : Nat → Int32) : Prop := ∀ j, j < n → (bt t j = true ∧ ¬ nw j = 0) ∨ (bt t j = false ∧ nw j = 0)
theorem cx_T0 (nw : Nat → Int32) : cx_T 0 0 nw := fun j h => absurd h (Nat.not_lt_zero j)
theorem cx_Ts0 {n : Nat} {t : Int32} {nw : Nat → Int32} (h : cx_T n t nw) (hz : ∀ i, n ≤ i → bt t i = false) : cx_T (n + 1) t (upd nw n 0) := by
  intro j hj
  by_cases e : j = n
  · subst e; exact Or.inr ⟨hz j (Nat.le_refl _), pk_us⟩
  · rw [pk_un e]; exact h j (by omega)
theorem cx_Ts1 {n : Nat} {t : Int32} {nw : Nat → Int32} (hn : n < 24) (h : cx_T n t nw) : cx_T (n + 1) (t ||| ((1 : Int32) <<< (nI n &&& 31))) (upd nw n 1) := by
  intro j hj
  rw [cx_or hn]
  by_cases e : j = n
  · subst e
    refine Or.inl ⟨?_, ?_⟩
    · simp
    · rw [pk_us]; exact cx_10
  · rw [pk_un e, decide_eq_false e, Bool.or_false]; exact h j (by omega)
theorem cx_Tz1 {n : Nat} {t : Int32} (hn : n < 24) (hz : ∀ i, n ≤ i → bt t i = false) : ∀ i, n + 1 ≤ i → bt (t ||| ((1 : Int32) <<< (nI n &&& 31))) i = false := by
  intro i hi
  rw [cx_or hn, hz i (by omega), decide_eq_false (by omega : ¬ i = n)]; rfl
