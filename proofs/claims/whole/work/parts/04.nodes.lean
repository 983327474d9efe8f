theorem cq_xAccount_no {A T N D P E : Nat} {bl mk kd pv qo ic xn xw py pe am rl rf st e1 e2 e3 e4 e5 : Nat → Int32} {v : Int32} {post : Int32 → Prop} (h : v < 0 ∨ nI A ≤ v) (hp : post 0) : wpX_isAccount post (nI A, nI T, nI N, nI D, nI P, nI E, bl, mk, kd, pv, qo, ic, xn, xw, py, pe, am, rl, rf, st, e1, e2, e3, e4, e5) v := by
  by_cases z : v < 0
  · exact br_t z hp
  · exact br_f z (br_t (h.resolve_left z) hp)
theorem cq_xAccount_ok {A T N D P E : Nat} {bl mk kd pv qo ic xn xw py pe am rl rf st e1 e2 e3 e4 e5 : Nat → Int32} {j : Nat} {post : Int32 → Prop} (hj : j < A) (hC : A ≤ 6) (hp : post 1) : wpX_isAccount post (nI A, nI T, nI N, nI D, nI P, nI E, bl, mk, kd, pv, qo, ic, xn, xw, py, pe, am, rl, rf, st, e1, e2, e3, e4, e5) (nI j) :=
  br_f (nI_pos (by omega)) (br_f (nI_ge hj (by omega)) hp)
theorem cq_yAccount_no {A T N D P E : Nat} {bl mk kd pv qo ic xn xw nw py pe am rl rf st e1 e2 e3 e4 e5 : Nat → Int32} {v : Int32} {post : Int32 → Prop} (h : v < 0 ∨ nI A ≤ v) (hp : post 1) : wpY_noAccount post (nI A, nI T, nI N, nI D, nI P, nI E, bl, mk, kd, pv, qo, ic, xn, xw, nw, py, pe, am, rl, rf, st, e1, e2, e3, e4, e5) v := by
  by_cases z : v < 0
  · exact br_t z hp
  · exact br_f z (br_t (h.resolve_left z) hp)
theorem cq_yAccount_ok {A T N D P E : Nat} {bl mk kd pv qo ic xn xw nw py pe am rl rf st e1 e2 e3 e4 e5 : Nat → Int32} {j : Nat} {post : Int32 → Prop} (hj : j < A) (hC : A ≤ 6) (hp : post 0) : wpY_noAccount post (nI A, nI T, nI N, nI D, nI P, nI E, bl, mk, kd, pv, qo, ic, xn, xw, nw, py, pe, am, rl, rf, st, e1, e2, e3, e4, e5) (nI j) :=
  br_f (nI_pos (by omega)) (br_f (nI_ge hj (by omega)) (br_t (nI_lt (b := 6) (by omega) (by decide)) hp))
theorem cq_xNode_no {A T N D P E : Nat} {bl mk kd pv qo ic xn xw py pe am rl rf st e1 e2 e3 e4 e5 : Nat → Int32} {v : Int32} {post : Int32 → Prop} (h : v < 0 ∨ nI N ≤ v) (hp : post 0) : wpX_isNode post (nI A, nI T, nI N, nI D, nI P, nI E, bl, mk, kd, pv, qo, ic, xn, xw, py, pe, am, rl, rf, st, e1, e2, e3, e4, e5) v := by
  by_cases z : v < 0
  · exact br_t z hp
  · exact br_f z (br_t (h.resolve_left z) hp)
theorem cq_xNode_ok {A T N D P E : Nat} {bl mk kd pv qo ic xn xw py pe am rl rf st e1 e2 e3 e4 e5 : Nat → Int32} {j : Nat} {post : Int32 → Prop} (hj : j < N) (hC : N ≤ 24) (hp : post 1) : wpX_isNode post (nI A, nI T, nI N, nI D, nI P, nI E, bl, mk, kd, pv, qo, ic, xn, xw, py, pe, am, rl, rf, st, e1, e2, e3, e4, e5) (nI j) :=
  br_f (nI_pos (by omega)) (br_f (nI_ge hj (by omega)) hp)
theorem cq_yNode_no {A T N D P E : Nat} {bl mk kd pv qo ic xn xw nw py pe am rl rf st e1 e2 e3 e4 e5 : Nat → Int32} {v : Int32} {post : Int32 → Prop} (h : v < 0 ∨ nI N ≤ v) (hp : post 1) : wpY_noNode post (nI A, nI T, nI N, nI D, nI P, nI E, bl, mk, kd, pv, qo, ic, xn, xw, nw, py, pe, am, rl, rf, st, e1, e2, e3, e4, e5) v := by
  by_cases z : v < 0
  · exact br_t z hp
  · exact br_f z (br_t (h.resolve_left z) hp)
theorem cq_yNode_ok {A T N D P E : Nat} {bl mk kd pv qo ic xn xw nw py pe am rl rf st e1 e2 e3 e4 e5 : Nat → Int32} {j : Nat} {post : Int32 → Prop} (hj : j < N) (hC : N ≤ 24) (hp : post 0) : wpY_noNode post (nI A, nI T, nI N, nI D, nI P, nI E, bl, mk, kd, pv, qo, ic, xn, xw, nw, py, pe, am, rl, rf, st, e1, e2, e3, e4, e5) (nI j) :=
  br_f (nI_pos (by omega)) (br_f (nI_ge hj (by omega)) (br_t (nI_lt (b := 24) (by omega) (by decide)) hp))
theorem cq_xDeal_no {A T N D P E : Nat} {bl mk kd pv qo ic xn xw py pe am rl rf st e1 e2 e3 e4 e5 : Nat → Int32} {v : Int32} {post : Int32 → Prop} (h : v < 0 ∨ nI D ≤ v) (hp : post 0) : wpX_isDeal post (nI A, nI T, nI N, nI D, nI P, nI E, bl, mk, kd, pv, qo, ic, xn, xw, py, pe, am, rl, rf, st, e1, e2, e3, e4, e5) v := by
  by_cases z : v < 0
  · exact br_t z hp
  · exact br_f z (br_t (h.resolve_left z) hp)
theorem cq_xDeal_ok {A T N D P E : Nat} {bl mk kd pv qo ic xn xw py pe am rl rf st e1 e2 e3 e4 e5 : Nat → Int32} {j : Nat} {post : Int32 → Prop} (hj : j < D) (hC : D ≤ 12) (hp : post 1) : wpX_isDeal post (nI A, nI T, nI N, nI D, nI P, nI E, bl, mk, kd, pv, qo, ic, xn, xw, py, pe, am, rl, rf, st, e1, e2, e3, e4, e5) (nI j) :=
  br_f (nI_pos (by omega)) (br_f (nI_ge hj (by omega)) hp)
theorem cq_yDeal_no {A T N D P E : Nat} {bl mk kd pv qo ic xn xw nw py pe am rl rf st e1 e2 e3 e4 e5 : Nat → Int32} {v : Int32} {post : Int32 → Prop} (h : v < 0 ∨ nI D ≤ v) (hp : post 1) : wpY_noDeal post (nI A, nI T, nI N, nI D, nI P, nI E, bl, mk, kd, pv, qo, ic, xn, xw, nw, py, pe, am, rl, rf, st, e1, e2, e3, e4, e5) v := by
  by_cases z : v < 0
  · exact br_t z hp
  · exact br_f z (br_t (h.resolve_left z) hp)
theorem cq_yDeal_ok {A T N D P E : Nat} {bl mk kd pv qo ic xn xw nw py pe am rl rf st e1 e2 e3 e4 e5 : Nat → Int32} {j : Nat} {post : Int32 → Prop} (hj : j < D) (hC : D ≤ 12) (hp : post 0) : wpY_noDeal post (nI A, nI T, nI N, nI D, nI P, nI E, bl, mk, kd, pv, qo, ic, xn, xw, nw, py, pe, am, rl, rf, st, e1, e2, e3, e4, e5) (nI j) :=
  br_f (nI_pos (by omega)) (br_f (nI_ge hj (by omega)) (br_t (nI_lt (b := 12) (by omega) (by decide)) hp))
theorem cq_xEntry_no {A T N D P E : Nat} {bl mk kd pv qo ic xn xw py pe am rl rf st e1 e2 e3 e4 e5 : Nat → Int32} {v : Int32} {post : Int32 → Prop} (h : v < 0 ∨ nI E ≤ v) (hp : post 0) : wpX_isEntry post (nI A, nI T, nI N, nI D, nI P, nI E, bl, mk, kd, pv, qo, ic, xn, xw, py, pe, am, rl, rf, st, e1, e2, e3, e4, e5) v := by
  by_cases z : v < 0
  · exact br_t z hp
  · exact br_f z (br_t (h.resolve_left z) hp)
theorem cq_xEntry_ok {A T N D P E : Nat} {bl mk kd pv qo ic xn xw py pe am rl rf st e1 e2 e3 e4 e5 : Nat → Int32} {j : Nat} {post : Int32 → Prop} (hj : j < E) (hC : E ≤ 64) (hp : post 1) : wpX_isEntry post (nI A, nI T, nI N, nI D, nI P, nI E, bl, mk, kd, pv, qo, ic, xn, xw, py, pe, am, rl, rf, st, e1, e2, e3, e4, e5) (nI j) :=
  br_f (nI_pos (by omega)) (br_f (nI_ge hj (by omega)) hp)
theorem cq_yEntry_no {A T N D P E : Nat} {bl mk kd pv qo ic xn xw nw py pe am rl rf st e1 e2 e3 e4 e5 : Nat → Int32} {v : Int32} {post : Int32 → Prop} (h : v < 0 ∨ nI E ≤ v) (hp : post 1) : wpY_noEntry post (nI A, nI T, nI N, nI D, nI P, nI E, bl, mk, kd, pv, qo, ic, xn, xw, nw, py, pe, am, rl, rf, st, e1, e2, e3, e4, e5) v := by
  by_cases z : v < 0
  · exact br_t z hp
  · exact br_f z (br_t (h.resolve_left z) hp)
theorem cq_yEntry_ok {A T N D P E : Nat} {bl mk kd pv qo ic xn xw nw py pe am rl rf st e1 e2 e3 e4 e5 : Nat → Int32} {j : Nat} {post : Int32 → Prop} (hj : j < E) (hC : E ≤ 64) (hp : post 0) : wpY_noEntry post (nI A, nI T, nI N, nI D, nI P, nI E, bl, mk, kd, pv, qo, ic, xn, xw, nw, py, pe, am, rl, rf, st, e1, e2, e3, e4, e5) (nI j) :=
  br_f (nI_pos (by omega)) (br_f (nI_ge hj (by omega)) (br_t (nI_lt (b := 64) (by omega) (by decide)) hp))
theorem cq_ix (x : Int32) {n : Nat} (hn : n < 2 ^ 31) : (x < 0 ∨ nI n ≤ x) ∨ ∃ j : Nat, j < n ∧ x = nI j := by
  rcases pk_ix x hn with h | h | h
  · exact Or.inl (Or.inl h)
  · exact Or.inl (Or.inr h)
  · exact Or.inr h
theorem cq_s_no {v : Int32} {post : Int32 → Prop} (h : v < 0 ∨ nI 8 ≤ v) (hp : post 0) : wpX_isSigner post v := by
  by_cases z : v < 0
  · exact br_t z hp
  · exact br_f z (br_t (h.resolve_left z) hp)
theorem cq_s_ok {j : Nat} {post : Int32 → Prop} (hj : j < 8) (hp : post 1) : wpX_isSigner post (nI j) :=
  br_f (nI_pos (by omega)) (br_f (nI_ge (b := 8) hj (by decide)) hp)
theorem cq_s7 {v : Int32} (h : nI 8 ≤ v) : ¬ v ≤ 7 := by
  intro z
  exact absurd (Int32.le_trans h z) (by decide)
/-- what the reference asks of a signer -/
theorem cq_sy_no {v : Int32} {B C : Prop} (h : v < 0 ∨ nI 8 ≤ v) (hb : B) : (v < 0 → B) ∧ (¬ v < 0 → ((v ≤ 7 → C) ∧ (¬ v ≤ 7 → B))) := by
  by_cases z : v < 0
  · exact br_t z hb
  · exact br_f z (br_f (cq_s7 (h.resolve_left z)) hb)
theorem cq_sy_ok {j : Nat} {B C B' : Prop} (hj : j < 8) (hc : C) : (nI j < 0 → B) ∧ (¬ nI j < 0 → ((nI j ≤ 7 → C) ∧ (¬ nI j ≤ 7 → B'))) :=
  br_f (nI_pos (by omega)) (br_t (nI_le (b := 7) (by omega) (by decide)) hc)
theorem cq_m_no {v : Int32} {post : Int32 → Prop} (h : v < 1 ∨ ¬ v ≤ 1000) (hp : post 0) : wpX_isAmount post v := by
  by_cases z : v < 1
  · exact br_t z hp
  · exact br_f z (br_t (Int32.not_le.mp (h.resolve_left z)) hp)
theorem cq_m_ok {v : Int32} {post : Int32 → Prop} (h1 : ¬ v < 1) (h2 : v ≤ 1000) (hp : post 1) : wpX_isAmount post v :=
  br_f h1 (br_f (Int32.not_lt.mpr h2) hp)
theorem cq_my_no {v : Int32} {B C : Prop} (h : v < 1 ∨ ¬ v ≤ 1000) (hb : B) : (v < 1 → B) ∧ (¬ v < 1 → ((v ≤ 1000 → C) ∧ (¬ v ≤ 1000 → B))) := by
  by_cases z : v < 1
  · exact br_t z hb
  · exact br_f z (br_f (h.resolve_left z) hb)
/-- one node more -/
theorem cn_x {A T N D P E : Nat} {bl mk kd pv qo ic xn xw py pe am rl rf st e1 e2 e3 e4 e5 : Nat → Int32} (hN : N < 24) {k a : Int32} {post : Int32 → SX → Prop} (h : post (nI N) (nI A, nI T, nI (N + 1), nI D, nI P, nI E, bl, mk, upd kd N k, upd pv N a, qo, ic, xn, xw, py, pe, am, rl, rf, st, e1, e2, e3, e4, e5)) : wpX_addNode post (nI A, nI T, nI N, nI D, nI P, nI E, bl, mk, kd, pv, qo, ic, xn, xw, py, pe, am, rl, rf, st, e1, e2, e3, e4, e5) k a :=
  ⟨vp_in_nI hN (by omega), nm_r (cx_ud kd _ (by omega)) ⟨vp_in_nI hN (by omega), nm_r (cx_ud pv _ (by omega)) (nm_r (nI_1 N) h)⟩⟩
theorem cn_y {A T N D P E : Nat} {bl mk kd pv qo ic xn xw nw py pe am rl rf st e1 e2 e3 e4 e5 : Nat → Int32} (hN : N < 24) {k a b : Int32} (hi : ic N = 0) {post : Int32 → SY → Prop} (h : post (nI N) (nI A, nI T, nI (N + 1), nI D, nI P, nI E, bl, mk, upd kd N k, upd pv N a, upd qo N b, ic, xn, xw, nw, py, pe, am, rl, rf, st, e1, e2, e3, e4, e5)) : wpY_newNode post (nI A, nI T, nI N, nI D, nI P, nI E, bl, mk, kd, pv, qo, ic, xn, xw, nw, py, pe, am, rl, rf, st, e1, e2, e3, e4, e5) k a b := by
  have p : vp_in (nI N) 24 := vp_in_nI hN (by omega)
  have e : upd ic (nI N).toNatClampNeg 0 = ic := by rw [cx_cl (by omega), cx_u0 hi]
  exact br_t (nI_lt (b := 24) hN (by decide)) ⟨p, nm_r (cx_ud kd _ (by omega)) ⟨p, nm_r (cx_ud pv _ (by omega)) ⟨p, nm_r (cx_ud qo _ (by omega)) ⟨p, nm_r e (nm_r (nI_1 N) h)⟩⟩⟩⟩
theorem cn_G {A T N D P E : Nat} {mk kd pv qo ic xn py pe rl rf st : Nat → Int32} {k a : Int32} (qo' : Nat → Int32) (G : cx_G A T N D P E mk kd pv qo ic xn py pe rl rf st) (hN : N < 24)
    (hv : (k = 0 ∧ ∃ s, s < 8 ∧ a = nI s) ∨ k = 1 ∨ (k = 2 ∧ ∃ p, 2 ≤ p ∧ p ≤ 20 ∧ a = nI p) ∨ k = 3) (hq : ∀ j, N + 1 ≤ j → qo' j = 0) : cx_G A T (N + 1) D P E mk (upd kd N k) (upd pv N a) qo' ic xn py pe rl rf st := by
  obtain ⟨gA, gT, gN, gD, gP, gE, ⟨m1, m2, m3, m4⟩, HD⟩ := G
  refine ⟨gA, gT, by omega, gD, gP, gE, ⟨m1, ?_, ?_, ?_⟩, ?_⟩
  · intro j hj
    by_cases e : j = N
    · subst e; rw [pk_us, pk_us]; exact hv
    · rw [pk_un e, pk_un e]; exact m2 j (by omega)
  · intro j hj
    by_cases e : j = N
    · subst e; exact ⟨0, by omega, (m4 j (Nat.le_refl _)).2, fun k hk => absurd hk (Nat.not_lt_zero k)⟩
    · exact m3 j (by omega)
  · intro j hj
    exact ⟨hq j hj, (m4 j (by omega)).2⟩
  · intro d hd
    obtain ⟨h1, h2, h3, h4⟩ := HD d hd
    refine ⟨h1, h2, ?_, fun hs => ?_⟩
    · rcases h3 with h3 | ⟨n, hn, e⟩
      · exact Or.inl h3
      · exact Or.inr ⟨n, by omega, e⟩
    · obtain ⟨⟨n, hn, e⟩, ⟨f, hf, e'⟩⟩ := h4 hs
      exact ⟨⟨n, by omega, e⟩, ⟨f, by omega, e'⟩⟩
theorem cn_24 {N : Nat} (h : N ≤ 24) (hN : ¬ N < 24) : nI N = 24 := by
  have e : N = 24 := by omega
  subst e; rfl
theorem cn_n24 {N : Nat} (hN : N < 24) : ¬ nI N = 24 := by
  intro e
  have := (nI_eq (a := N) (b := 24) (by omega) (by decide)).mp e
  omega
theorem i_vc0 (k0 : Int32) : wpX_init (fun u => wpY_init (fun v => i_Rel 1 u v) k0) k0 := by
  have key : ∀ A : Nat, 2 ≤ A → A ≤ 6 → i_Rel 1 (nI A, 0, 0, 0, 0, 0, (fun _ => 0), (fun _ => 0), (fun _ => 0), (fun _ => 0), (fun _ => 0), (fun _ => 0), (fun _ => 0), (fun _ => 0), (fun _ => 0), (fun _ => 0), (fun _ => 0), (fun _ => 0), (fun _ => 0), (fun _ => 0), (fun _ => 0), (fun _ => 0), (fun _ => 0), (fun _ => 0), (fun _ => 0)) (nI A, 0, 0, 0, 0, 0, (fun _ => 0), (fun _ => 0), (fun _ => 0), (fun _ => 0), (fun _ => 0), (fun _ => 0), (fun _ => 0), (fun _ => 0), (fun _ => 0), (fun _ => 0), (fun _ => 0), (fun _ => 0), (fun _ => 0), (fun _ => 0), (fun _ => 0), (fun _ => 0), (fun _ => 0), (fun _ => 0), (fun _ => 0), (fun _ => 0)) := by
    intro A h1 h2
    refine ⟨A, 0, 0, 0, 0, 0, _, _, _, _, _, _, _, _, _, _, _, _, _, _, _, _, _, _, _, _, rfl, rfl, ?_⟩
    refine ⟨⟨h1, h2⟩, by omega, by omega, by omega, by omega, rfl, ⟨fun _ => Or.inl rfl, ?_, ?_, fun _ _ => ⟨rfl, rfl⟩⟩, ?_⟩
    · intro j hj; exact absurd hj (Nat.not_lt_zero j)
    · intro j hj; exact absurd hj (Nat.not_lt_zero j)
    · intro j hj; exact absurd hj (Nat.not_lt_zero j)
  by_cases h2 : (2 : Int32) ≤ k0
  · by_cases h6 : k0 ≤ 6
    · have hn : ¬ k0 < 0 := Int32.not_lt.mpr (Int32.le_trans (by decide) h2)
      obtain ⟨j, hj, rfl⟩ := nI_of hn
      have a2 : 2 ≤ j := (nI_leI (a := 2) (b := j) (by decide) hj).mp h2
      have a6 : j ≤ 6 := (nI_leI (a := j) (b := 6) hj (by decide)).mp h6
      exact br_t h2 (br_t h6 (br_t h2 (br_t h6 (key j a2 a6))))
    · exact br_t h2 (br_f h6 (br_t h2 (br_f h6 (key 6 (by omega) (by omega)))))
  · exact br_f h2 (br_f h2 (key 2 (by omega) (by omega)))
theorem i_vc_signer {k : Nat} {u : SX} {v : SY} (I : i_Rel k u v) (hk : k + 4 ≤ 2049) (v1 : Int32) : wpX_signer (fun r u' => wpY_signer (fun r' v' => r' = r ∧ i_Rel (k + 4) u' v') v v1) u v1 := by
  obtain ⟨A, T, N, D, P, E, bl, mk, kd, pv, qo, ic, xn, xw, nw, py, pe, am, rl, rf, st, e1, e2, e3, e4, e5, rfl, rfl, G⟩ := I
  have gN : N ≤ 24 := G.2.2.1
  have z := G.2.2.2.2.2.2.1.2.2.2 N (Nat.le_refl N)
  unfold wpX_signer
  rcases cq_ix v1 (n := 8) (by decide) with h | ⟨s, hs, rfl⟩
  · exact cq_s_no h (br_t rfl (cq_sy_no h ⟨rfl, cx_rel _ G⟩))
  · refine cq_s_ok hs (br_f cx_10 ?_)
    by_cases hN : N < 24
    · have c1 : nI N < (24 : Int32) := nI_lt (b := 24) hN (by decide)
      have hq : upd qo N 0 = qo := cx_u0 z.1
      refine br_t c1 (cn_x hN ?_)
      refine cq_sy_ok hs (br_f (cn_n24 hN) (cn_y hN z.2 ?_))
      rw [hq]
      exact ⟨rfl, cx_rel _ (cn_G qo G hN (Or.inl ⟨rfl, s, hs, rfl⟩) (fun j hj => (G.2.2.2.2.2.2.1.2.2.2 j (by omega)).1))⟩
    · have c1 : ¬ nI N < (24 : Int32) := nI_nlt (b := 24) (by omega) (by omega)
      exact br_f c1 (cq_sy_ok hs (br_t (cn_24 gN hN) ⟨rfl, cx_rel _ G⟩))
theorem i_vc_after {k : Nat} {u : SX} {v : SY} (I : i_Rel k u v) (hk : k + 4 ≤ 2049) (v1 : Int32) : wpX_after (fun r u' => wpY_after (fun r' v' => r' = r ∧ i_Rel (k + 4) u' v') v v1) u v1 := by
  obtain ⟨A, T, N, D, P, E, bl, mk, kd, pv, qo, ic, xn, xw, nw, py, pe, am, rl, rf, st, e1, e2, e3, e4, e5, rfl, rfl, G⟩ := I
  have gN : N ≤ 24 := G.2.2.1
  have z := G.2.2.2.2.2.2.1.2.2.2 N (Nat.le_refl N)
  by_cases a1 : v1 < 0
  · exact br_t a1 (br_t a1 ⟨rfl, cx_rel _ G⟩)
  · by_cases a2 : v1 ≤ 1000
    · by_cases hN : N < 24
      · have c1 : nI N < (24 : Int32) := nI_lt (b := 24) hN (by decide)
        have hq : upd qo N 0 = qo := cx_u0 z.1
        refine br_f a1 (br_t a2 (br_t c1 (cn_x hN ?_)))
        refine br_f a1 (br_t a2 (br_f (cn_n24 hN) (cn_y hN z.2 ?_)))
        rw [hq]
        exact ⟨rfl, cx_rel _ (cn_G qo G hN (Or.inr (Or.inl rfl)) (fun j hj => (G.2.2.2.2.2.2.1.2.2.2 j (by omega)).1))⟩
      · have c1 : ¬ nI N < (24 : Int32) := nI_nlt (b := 24) (by omega) (by omega)
        exact br_f a1 (br_t a2 (br_f c1 (br_f a1 (br_t a2 (br_t (cn_24 gN hN) ⟨rfl, cx_rel _ G⟩)))))
    · exact br_f a1 (br_f a2 (br_f a1 (br_f a2 ⟨rfl, cx_rel _ G⟩)))
theorem i_vc_gate {k : Nat} {u : SX} {v : SY} (I : i_Rel k u v) (hk : k + 4 ≤ 2049) (v1 : Int32) : wpX_gate (fun r u' => wpY_gate (fun r' v' => r' = r ∧ i_Rel (k + 4) u' v') v v1) u v1 := by
  obtain ⟨A, T, N, D, P, E, bl, mk, kd, pv, qo, ic, xn, xw, nw, py, pe, am, rl, rf, st, e1, e2, e3, e4, e5, rfl, rfl, G⟩ := I
  have gN : N ≤ 24 := G.2.2.1
  have z := G.2.2.2.2.2.2.1.2.2.2 N (Nat.le_refl N)
  by_cases a1 : v1 < (-20)
  · exact br_t a1 (br_t a1 ⟨rfl, cx_rel _ G⟩)
  · by_cases a2 : v1 ≤ 20
    · by_cases hN : N < 24
      · have c1 : nI N < (24 : Int32) := nI_lt (b := 24) hN (by decide)
        have hq : upd qo N 0 = qo := cx_u0 z.1
        refine br_f a1 (br_t a2 (br_t c1 (cn_x hN ?_)))
        refine br_f a1 (br_t a2 (br_f (cn_n24 hN) (cn_y hN z.2 ?_)))
        rw [hq]
        exact ⟨rfl, cx_rel _ (cn_G qo G hN (Or.inr (Or.inr (Or.inr rfl))) (fun j hj => (G.2.2.2.2.2.2.1.2.2.2 j (by omega)).1))⟩
      · have c1 : ¬ nI N < (24 : Int32) := nI_nlt (b := 24) (by omega) (by omega)
        exact br_f a1 (br_t a2 (br_f c1 (br_f a1 (br_t a2 (br_t (cn_24 gN hN) ⟨rfl, cx_rel _ G⟩)))))
    · exact br_f a1 (br_f a2 (br_f a1 (br_f a2 ⟨rfl, cx_rel _ G⟩)))
theorem i_vc_window {k : Nat} {u : SX} {v : SY} (I : i_Rel k u v) (hk : k + 4 ≤ 2049) (v1 : Int32) (v2 : Int32) : wpX_window (fun r u' => wpY_window (fun r' v' => r' = r ∧ i_Rel (k + 4) u' v') v v1 v2) u v1 v2 := by
  obtain ⟨A, T, N, D, P, E, bl, mk, kd, pv, qo, ic, xn, xw, nw, py, pe, am, rl, rf, st, e1, e2, e3, e4, e5, rfl, rfl, G⟩ := I
  have gN : N ≤ 24 := G.2.2.1
  have z := G.2.2.2.2.2.2.1.2.2.2 N (Nat.le_refl N)
  by_cases a1 : v1 < 2
  · exact br_t a1 (br_t a1 ⟨rfl, cx_rel _ G⟩)
  by_cases a2 : v1 ≤ 20
  rotate_left
  · exact br_f a1 (br_f a2 (br_f a1 (br_f a2 ⟨rfl, cx_rel _ G⟩)))
  by_cases a3 : v2 < 1
  · exact br_f a1 (br_t a2 (br_t a3 (br_f a1 (br_t a2 (br_t a3 ⟨rfl, cx_rel _ G⟩)))))
  have hn : ¬ v1 < 0 := fun z => a1 (Int32.lt_trans z (by decide))
  obtain ⟨p, hp, rfl⟩ := nI_of hn
  have p2 : 2 ≤ p := (nI_leI (a := 2) (b := p) (by decide) hp).mp (Int32.not_lt.mp a1)
  have p20 : p ≤ 20 := (nI_leI (a := p) (b := 20) hp (by decide)).mp a2
  have hm : ¬ v2 < 0 := fun z => a3 (Int32.lt_trans z (by decide))
  obtain ⟨o, ho, rfl⟩ := nI_of hm
  have ep : nI p - 1 = nI (p - 1) := pk_sub (a := p) (b := 1) (by omega)
  by_cases a4 : nI o < nI p
  · have o4 : o < p := (nI_ltI ho hp).mp a4
    have b4 : nI o ≤ nI p - 1 := by rw [ep]; exact nI_le (by omega) (by omega)
    by_cases hN : N < 24
    · have c1 : nI N < (24 : Int32) := nI_lt (b := 24) hN (by decide)
      refine br_f a1 (br_t a2 (br_f a3 (br_t a4 (br_t c1 (cn_x hN ?_)))))
      refine ⟨vp_in_nI hN (by omega), nm_r (cx_ud qo _ (by omega)) ?_⟩
      refine br_f a1 (br_t a2 (br_f a3 (br_t b4 (br_f (cn_n24 hN) (cn_y hN z.2 ?_)))))
      exact ⟨rfl, cx_rel _ (cn_G (upd qo N (nI o)) G hN (Or.inr (Or.inr (Or.inl ⟨rfl, p, p2, p20, rfl⟩))) (fun j hj => by rw [pk_un (by omega)]; exact (G.2.2.2.2.2.2.1.2.2.2 j (by omega)).1))⟩
    · have c1 : ¬ nI N < (24 : Int32) := nI_nlt (b := 24) (by omega) (by omega)
      exact br_f a1 (br_t a2 (br_f a3 (br_t a4 (br_f c1 (br_f a1 (br_t a2 (br_f a3 (br_t b4 (br_t (cn_24 gN hN) ⟨rfl, cx_rel _ G⟩)))))))))
  · have o4 : ¬ o < p := fun z => a4 ((nI_ltI ho hp).mpr z)
    have b4 : ¬ nI o ≤ nI p - 1 := by rw [ep]; exact nI_ge (by omega) (by omega)
    exact br_f a1 (br_t a2 (br_f a3 (br_f a4 (br_f a1 (br_t a2 (br_f a3 (br_f b4 ⟨rfl, cx_rel _ G⟩)))))))
