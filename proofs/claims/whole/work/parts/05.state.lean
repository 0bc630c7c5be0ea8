/-! the calls that change the state: the constructors' loops, define's, retract's -/
section
variable {n c : Nat} {T R X Y Z A : Nat → Int32}
theorem rn_in8 (f a b : Int32) : ∀ d i, i + d = 8 → ∀ B : Nat → Int32, ∃ A' : Nat → Int32, (∀ post : SX → Prop, post (f, a, b, T, R, X, Y, Z, A') → wX_init_117 post f a b (d + 1) (nI i) T R X Y Z B) ∧ (∀ post : SY → Prop, post (f, b, T, A', R, X, Y, Z) → wY_init_102 post f b (d + 1) (nI i) T B R X Y Z) := by
  intro d
  induction d with
  | zero =>
    intro i hi B
    have h : (8 : Int32) ≤ nI i := nI_le (a := 8) (by omega) (by omega)
    exact ⟨B, fun _ hp => br_t h hp, fun _ hp => br_t h hp⟩
  | succ d ih =>
    intro i hi B
    have h : ¬ (8 : Int32) ≤ nI i := nI_ge (b := 8) (by omega) (by decide)
    have hv : vp_in (nI i) 8 := vp_in_nI (by omega) (by decide)
    obtain ⟨A', hX, hY⟩ := ih (i + 1) (by omega) (upd B (nI i).toNatClampNeg 2)
    exact ⟨A', fun post hp => br_f h ⟨hv, nm_e (nm_r (nI_1 i) (hX post hp))⟩, fun post hp => br_f h ⟨hv, nm_e (nm_r (nI_1 i) (hY post hp))⟩⟩
theorem rn_in6 (f a b : Int32) : ∀ d i, i + d = 6 → ∀ B : Nat → Int32, ∃ T' : Nat → Int32, (∀ post : SX → Prop, (∃ k, wX_init_117 post f a b k 0 T' R X Y Z A) → wX_init_94 post f a b (d + 1) (nI i) B R X Y Z A) ∧ (∀ post : SY → Prop, (∃ k, wY_init_102 post f b k 0 T' A R X Y Z) → wY_init_79 post f b (d + 1) (nI i) B A R X Y Z) := by
  intro d
  induction d with
  | zero =>
    intro i hi B
    have h : (6 : Int32) ≤ nI i := nI_le (a := 6) (by omega) (by omega)
    exact ⟨B, fun _ hp => br_t h hp, fun _ hp => br_t h hp⟩
  | succ d ih =>
    intro i hi B
    have h : ¬ (6 : Int32) ≤ nI i := nI_ge (b := 6) (by omega) (by decide)
    have hv : vp_in (nI i) 6 := vp_in_nI (by omega) (by decide)
    obtain ⟨T', hX, hY⟩ := ih (i + 1) (by omega) (upd B (nI i).toNatClampNeg 255)
    exact ⟨T', fun post hp => br_f h ⟨hv, nm_e (nm_r (nI_1 i) (hX post hp))⟩, fun post hp => br_f h ⟨hv, nm_e (nm_r (nI_1 i) (hY post hp))⟩⟩
/-- both constructors, once the number of variables is clamped -/
theorem rn_init (hn : n ≤ 8) : ∃ T' A' : Nat → Int32, (∀ post : SX → Prop, post (nI n, nI (2 ^ n), nI 0, T', R, X, Y, Z, A') → ∀ a b d : Int32, wX_init_74 post (nI n) a b d T R X Y Z A) ∧ (∀ post : SY → Prop, post (nI n, nI 0, T', A', R, X, Y, Z) → ∃ k, wY_init_79 post (nI n) 0 k 0 T A R X Y Z) := by
  obtain ⟨T', hX, hY⟩ := rn_in6 (R := R) (X := X) (Y := Y) (Z := Z) (A := A) (nI n) (nI (2 ^ n)) (nI 0) 6 0 (by omega) T
  obtain ⟨A', hX2, hY2⟩ := rn_in8 (T := T') (R := R) (X := X) (Y := Y) (Z := Z) (nI n) (nI (2 ^ n)) (nI 0) 8 0 (by omega) A
  refine ⟨T', A', fun post hp a b d => ?_, fun post hp => ⟨7, hY post ⟨9, hY2 post hp⟩⟩⟩
  exact nm_r (rn_all2 n (by omega)) ⟨7, hX post ⟨9, hX2 post hp⟩⟩
theorem rn_xN_l {post : Int32 → Prop} {r : Int32} (hc : c ≤ 20) (h1 : (∃ i, i < c ∧ R i = r) → post 1) (h0 : (∀ i, i < c → ¬ R i = r) → post 0) :
    ∀ d i, i + d = c → (∀ j, j < i → ¬ R j = r) → wX_isNamed_2 post r (nI n) (nI (2 ^ n)) (nI c) T R X Y Z A (d + 1) (nI i) := by
  intro d
  induction d with
  | zero => exact fun i hi ok => br_t (nI_le (by omega) (by omega)) (h0 fun j hj => ok j (by omega))
  | succ d ih =>
    intro i hi ok
    have e : (nI i).toNatClampNeg = i := nI_clamp (by omega)
    refine br_f (nI_ge (by omega) (by omega)) ⟨vp_in_nI (by omega) (by decide), ?_⟩
    rw [e]
    exact br_c (fun z => h1 ⟨i, by omega, z⟩) (fun z => nm_r (nI_1 i) (ih (i + 1) (by omega) (lt_s ok z)))
theorem rn_xN {post : Int32 → Prop} {r : Int32} (hc : c ≤ 20) (h1 : (∃ i, i < c ∧ R i = r) → post 1) (h0 : (∀ i, i < c → ¬ R i = r) → post 0) : wpX_isNamed post (nI n, nI (2 ^ n), nI c, T, R, X, Y, Z, A) r :=
  ⟨c + 1, rn_xN_l hc h1 h0 c 0 (by omega) lt_0⟩
theorem rn_yN_l {post : Int32 → SY → Prop} {r t : Int32} (hc : c ≤ 20) (h1 : (∃ i, i < c ∧ R i = r) → post (-3) (nI n, nI c, T, A, R, X, Y, Z)) (h0 : (∀ i, i < c → ¬ R i = r) → wY_define_59 post r t (nI n) (nI c) T A R X Y Z) :
    ∀ d i, i + d = c → (∀ j, j < i → ¬ R j = r) → wY_define_26 post r t (nI n) (nI c) T A R X Y Z (d + 1) (nI i) := by
  intro d
  induction d with
  | zero => exact fun i hi ok => br_t (nI_le (by omega) (by omega)) (h0 fun j hj => ok j (by omega))
  | succ d ih =>
    intro i hi ok
    have e : (nI i).toNatClampNeg = i := nI_clamp (by omega)
    refine br_f (nI_ge (by omega) (by omega)) (br_f (nI_ge (b := 20) (by omega) (by decide)) ⟨vp_in_nI (by omega) (by decide), ?_⟩)
    rw [e]
    exact br_c (fun z => h1 ⟨i, by omega, z⟩) (fun z => nm_r (nI_1 i) (ih (i + 1) (by omega) (lt_s ok z)))
/-- how many triples: the component counts in the given table, the reference in the stored one -/
theorem rn_cnt {t : Int32} {j : Nat} (hj : j < 6) (hT : T j = t) : ∀ d i, i + d = 8 → ∀ f : Int32, ∃ r : Int32, (∀ post : Int32 → Prop, post r → wX_triplesIn_4 post t (d + 1) f (nI i)) ∧ (∀ post : Int32 → SY → Prop, post r (nI n, nI c, T, A, R, X, Y, Z) → wY_define_71 post (nI j) (nI n) (nI c) T A R X Y Z (d + 1) f (nI i)) := by
  have e : (nI j).toNatClampNeg = j := nI_clamp (by omega)
  have hv : vp_in (nI j) 6 := vp_in_nI hj (by decide)
  intro d
  induction d with
  | zero =>
    intro i hi f
    have h : (8 : Int32) ≤ nI i := nI_le (a := 8) (by omega) (by omega)
    exact ⟨f, fun _ hp => br_t h hp, fun _ hp => br_t h hp⟩
  | succ d ih =>
    intro i hi f
    have h : ¬ (8 : Int32) ≤ nI i := nI_ge (b := 8) (by omega) (by decide)
    by_cases b : ((t >>> (nI i &&& 31)) &&& 1) = 1
    · obtain ⟨r, hX, hY⟩ := ih (i + 1) (by omega) (f + 1)
      refine ⟨r, fun post hp => br_f h (br_t b (rn_k1 (nm_e (nm_r (nI_1 i) (hX post hp))))), fun post hp => br_f h ⟨hv, ?_⟩⟩
      rw [e, hT]
      exact br_t b (rn_k1 (nm_e (nm_r (nI_1 i) (hY post hp))))
    · obtain ⟨r, hX, hY⟩ := ih (i + 1) (by omega) f
      refine ⟨r, fun post hp => br_f h (br_f b (rn_k0 (nm_r (nI_1 i) (hX post hp)))), fun post hp => br_f h ⟨hv, ?_⟩⟩
      rw [e, hT]
      exact br_f b (rn_k0 (nm_r (nI_1 i) (hY post hp)))
theorem rn_ret (q : Int32) (hc : c ≤ 20) : ∀ d j, j + 1 + d = c → ∀ R X Y Z : Nat → Int32, (∀ i, i < c → vp_in (R i) 6) → ∃ R' X' Y' Z' : Nat → Int32, (∀ i, i < c - 1 → vp_in (R' i) 6) ∧ (∀ post : Int32 → SX → Prop, post q (nI n, nI (2 ^ n), nI (c - 1), T, R', X', Y', Z', A) → wX_retract_21 post q (nI n) (nI (2 ^ n)) (nI c) (d + 1) (nI (j + 1)) T R X Y Z A) ∧ (∀ post : Int32 → SY → Prop, post q (nI n, nI (c - 1), T, A, R', X', Y', Z') → wY_retract_19 post q (nI n) (nI c) (d + 1) (nI j) T A R X Y Z) := by
  intro d
  induction d with
  | zero =>
    intro j hj R X Y Z hR
    have ec : nI c - 1 = nI (c - 1) := pk_sub (a := c) (b := 1) (by omega)
    have h1 : nI c ≤ nI (j + 1) := nI_le (by omega) (by omega)
    have h2 : nI c - 1 ≤ nI j := by rw [ec]; exact nI_le (by omega) (by omega)
    exact ⟨R, X, Y, Z, fun i hi => hR i (by omega), fun post hp => br_t h1 (nm_r ec hp), fun post hp => br_t h2 (nm_r ec hp)⟩
  | succ d ih =>
    intro j hj R X Y Z hR
    have ec : nI c - 1 = nI (c - 1) := pk_sub (a := c) (b := 1) (by omega)
    have h1 : ¬ nI c ≤ nI (j + 1) := nI_ge (by omega) (by omega)
    have h2 : ¬ nI c - 1 ≤ nI j := by rw [ec]; exact nI_ge (by omega) (by omega)
    have h3 : ¬ (19 : Int32) ≤ nI j := nI_ge (b := 19) (by omega) (by decide)
    have e0 : (nI j).toNatClampNeg = j := nI_clamp (by omega)
    have e1 : (nI (j + 1)).toNatClampNeg = j + 1 := nI_clamp (by omega)
    have ep : nI (j + 1) - 1 = nI j := nI_pred j
    have es : nI j + 1 = nI (j + 1) := nI_1 j
    have v0 : vp_in (nI j) 20 := vp_in_nI (by omega) (by decide)
    have v1 : vp_in (nI (j + 1)) 20 := vp_in_nI (by omega) (by decide)
    obtain ⟨R', X', Y', Z', hR', hX, hY⟩ := ih (j + 1) (by omega) (upd R j (R (j + 1))) (upd X j (X (j + 1))) (upd Y j (Y (j + 1))) (upd Z j (Z (j + 1))) (by
      intro i hi
      unfold upd
      by_cases z : i = j
      · rw [if_pos z]; exact hR (j + 1) (by omega)
      · rw [if_neg z]; exact hR i hi)
    refine ⟨R', X', Y', Z', hR', fun post hp => ?_, fun post hp => ?_⟩
    · refine br_f h1 ?_
      rw [ep, e0, e1]
      exact ⟨v1, v0, nm_e ⟨v1, v0, nm_e ⟨v1, v0, nm_e ⟨v1, v0, nm_e (nm_r (nI_1 (j + 1)) (hX post hp))⟩⟩⟩⟩
    · refine br_f h2 (br_f h3 ?_)
      rw [es, e0, e1]
      exact ⟨v1, v0, nm_e ⟨v1, v0, nm_e ⟨v1, v0, nm_e ⟨v1, v0, nm_e (nm_e (hY post hp))⟩⟩⟩⟩
end
