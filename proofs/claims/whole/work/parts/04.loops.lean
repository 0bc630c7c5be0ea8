/-! the loops over the assignments, both sides in lockstep -/
section
variable {n c : Nat} {T R X Y Z A : Nat → Int32}
theorem rn_yle {x : Int32} (hn : n ≤ 8) (h : nI (2 ^ n) ≤ x) : ((1 : Int32) <<< (nI n &&& 31)) ≤ x := by
  rw [rn_all2 n (by omega)]
  exact h
theorem rn_ynl {x : Int32} (hn : n ≤ 8) (h : ¬ nI (2 ^ n) ≤ x) : ¬ ((1 : Int32) <<< (nI n &&& 31)) ≤ x := by
  rw [rn_all2 n (by omega)]
  exact h
theorem rn_solu (hn : n ≤ 8) (hc : c ≤ 20) (hR : ∀ i, i < c → vp_in (R i) 6) : ∀ d m, m + d = 2 ^ n → ∀ f : Int32, ∃ r : Int32, (∀ post : Int32 → Prop, post r → wX_solutions_4 post (nI n) (nI (2 ^ n)) (nI c) T R X Y Z A (d + 1) f (nI m)) ∧ (∀ post : Int32 → Prop, post r → wY_solutions_4 post (nI n) (nI c) T A R X Y Z (d + 1) f (nI m)) := by
  have hN := rn_pw n (by omega)
  intro d
  induction d with
  | zero => exact fun m hm f => ⟨f, fun _ hp => br_t (nI_le (by omega) (by omega)) hp, fun _ hp => (br_t (rn_yle hn (nI_le (by omega) (by omega))) hp)⟩
  | succ d ih =>
    intro m hm f
    have hl : ¬ nI (2 ^ n) ≤ nI m := nI_ge (by omega) (by omega)
    by_cases s : rn_sl n c T R X Y Z A (nI m)
    · obtain ⟨r, hX, hY⟩ := ih (m + 1) (by omega) (f + 1)
      exact ⟨r, fun post hp => br_f hl (rn_xS1 hn hc hR s (rn_k1 (nm_e (nm_r (nI_1 m) (hX post hp))))), fun post hp => (br_f (rn_ynl hn hl) (rn_yS1 hn hc hR s (rn_k1 (nm_e (nm_r (nI_1 m) (hY post hp))))))⟩
    · obtain ⟨r, hX, hY⟩ := ih (m + 1) (by omega) f
      exact ⟨r, fun post hp => br_f hl (rn_xS0 hn hc hR s (rn_k0 (nm_r (nI_1 m) (hX post hp)))), fun post hp => (br_f (rn_ynl hn hl) (rn_yS0 hn hc hR s (rn_k0 (nm_r (nI_1 m) (hY post hp)))))⟩
/-- least and satisfiable: the component asks both of the first solution after -1 -/
theorem rn_first (hn : n ≤ 8) (hc : c ≤ 20) (hR : ∀ i, i < c → vp_in (R i) 6) : ∀ d m, m + d = 2 ^ n → ∃ r q : Int32, ((r < 0 ∧ q = 0) ∨ (¬ r < 0 ∧ q = 1)) ∧ (∀ post : Int32 → Prop, post r → wX_firstSolutionAfter_2 post (-1) (nI n) (nI (2 ^ n)) (nI c) T R X Y Z A (d + 1) (nI m)) ∧ (∀ post : Int32 → Prop, post r → wY_least_2 post (nI n) (nI c) T A R X Y Z (d + 1) (nI m)) ∧ (∀ post : Int32 → Prop, post q → wY_satisfiable_2 post (nI n) (nI c) T A R X Y Z (d + 1) (nI m)) := by
  have hN := rn_pw n (by omega)
  intro d
  induction d with
  | zero => exact fun m hm => ⟨-1, 0, Or.inl ⟨by decide, rfl⟩, fun _ hp => br_t (nI_le (by omega) (by omega)) hp, fun _ hp => (br_t (rn_yle hn (nI_le (by omega) (by omega))) hp), fun _ hp => (br_t (rn_yle hn (nI_le (by omega) (by omega))) hp)⟩
  | succ d ih =>
    intro m hm
    have hl : ¬ nI (2 ^ n) ≤ nI m := nI_ge (by omega) (by omega)
    have hm1 : ¬ nI m ≤ -1 := rn_lm1 (by omega)
    by_cases s : rn_sl n c T R X Y Z A (nI m)
    · exact ⟨nI m, 1, Or.inr ⟨nI_pos (by omega), rfl⟩, fun post hp => br_f hl (br_f hm1 (rn_xS1 hn hc hR s (rn_k1 hp))), fun post hp => (br_f (rn_ynl hn hl) (rn_yS1 hn hc hR s (rn_k1 hp))), fun post hp => (br_f (rn_ynl hn hl) (rn_yS1 hn hc hR s (rn_k1 hp)))⟩
    · obtain ⟨r, q, hq, hX, hY, hZ⟩ := ih (m + 1) (by omega)
      exact ⟨r, q, hq, fun post hp => br_f hl (br_f hm1 (rn_xS0 hn hc hR s (rn_k0 (nm_r (nI_1 m) (hX post hp))))), fun post hp => (br_f (rn_ynl hn hl) (rn_yS0 hn hc hR s (rn_k0 (nm_r (nI_1 m) (hY post hp))))), fun post hp => (br_f (rn_ynl hn hl) (rn_yS0 hn hc hR s (rn_k0 (nm_r (nI_1 m) (hZ post hp)))))⟩
theorem rn_next (a : Int32) (hn : n ≤ 8) (hc : c ≤ 20) (hR : ∀ i, i < c → vp_in (R i) 6) : ∀ d m, m + d = 2 ^ n → ∃ r : Int32, (∀ post : Int32 → Prop, post r → wX_firstSolutionAfter_2 post a (nI n) (nI (2 ^ n)) (nI c) T R X Y Z A (d + 1) (nI m)) ∧ (∀ post : Int32 → Prop, post r → wY_next_2 post a (nI n) (nI c) T A R X Y Z (d + 1) (nI m)) := by
  have hN := rn_pw n (by omega)
  intro d
  induction d with
  | zero => exact fun m hm => ⟨-1, fun _ hp => br_t (nI_le (by omega) (by omega)) hp, fun _ hp => (br_t (rn_yle hn (nI_le (by omega) (by omega))) hp)⟩
  | succ d ih =>
    intro m hm
    have hl : ¬ nI (2 ^ n) ≤ nI m := nI_ge (by omega) (by omega)
    obtain ⟨r, hX, hY⟩ := ih (m + 1) (by omega)
    by_cases ha : nI m ≤ a
    · exact ⟨r, fun post hp => br_f hl (br_t ha (nm_r (nI_1 m) (hX post hp))), fun post hp => (br_f (rn_ynl hn hl) (br_t ha (nm_r (nI_1 m) (hY post hp))))⟩
    · by_cases s : rn_sl n c T R X Y Z A (nI m)
      · exact ⟨nI m, fun post hp => br_f hl (br_f ha (rn_xS1 hn hc hR s (rn_k1 hp))), fun post hp => (br_f (rn_ynl hn hl) (br_f ha (rn_yS1 hn hc hR s (rn_k1 hp))))⟩
      · exact ⟨r, fun post hp => br_f hl (br_f ha (rn_xS0 hn hc hR s (rn_k0 (nm_r (nI_1 m) (hX post hp))))), fun post hp => (br_f (rn_ynl hn hl) (br_f ha (rn_yS0 hn hc hR s (rn_k0 (nm_r (nI_1 m) (hY post hp))))))⟩
theorem rn_poss (x y : Int32) (hn : n ≤ 8) (hc : c ≤ 20) (hR : ∀ i, i < c → vp_in (R i) 6) : ∀ d m, m + d = 2 ^ n → ∃ r : Int32, (∀ post : Int32 → Prop, post r → wX_possible_24 post x y (nI n) (nI (2 ^ n)) (nI c) T R X Y Z A (d + 1) (nI m)) ∧ (∀ post : Int32 → Prop, post r → wY_possible_24 post x y (nI n) (nI c) T A R X Y Z (d + 1) (nI m)) := by
  have hN := rn_pw n (by omega)
  intro d
  induction d with
  | zero => exact fun m hm => ⟨0, fun _ hp => br_t (nI_le (by omega) (by omega)) hp, fun _ hp => (br_t (rn_yle hn (nI_le (by omega) (by omega))) hp)⟩
  | succ d ih =>
    intro m hm
    have hl : ¬ nI (2 ^ n) ≤ nI m := nI_ge (by omega) (by omega)
    obtain ⟨r, hX, hY⟩ := ih (m + 1) (by omega)
    by_cases ha : ((nI m >>> (x &&& 31)) &&& 1) = y
    · by_cases s : rn_sl n c T R X Y Z A (nI m)
      · exact ⟨1, fun post hp => br_f hl (br_t ha (rn_xS1 hn hc hR s (rn_k1 hp))), fun post hp => (br_f (rn_ynl hn hl) (br_t ha (rn_yS1 hn hc hR s (rn_k1 hp))))⟩
      · exact ⟨r, fun post hp => br_f hl (br_t ha (rn_xS0 hn hc hR s (rn_k0 (nm_r (nI_1 m) (hX post hp))))), fun post hp => (br_f (rn_ynl hn hl) (br_t ha (rn_yS0 hn hc hR s (rn_k0 (nm_r (nI_1 m) (hY post hp))))))⟩
    · exact ⟨r, fun post hp => br_f hl (br_f ha (nm_r (nI_1 m) (hX post hp))), fun post hp => (br_f (rn_ynl hn hl) (br_f ha (nm_r (nI_1 m) (hY post hp))))⟩
theorem rn_ones (hn : n ≤ 8) (hc : c ≤ 20) (hR : ∀ i, i < c → vp_in (R i) 6) : ∀ d m, m + d = 2 ^ n → ∀ s f : Int32, ∃ r : Int32, (∀ post : Int32 → Prop, post r → wX_onesInEverySolution_12 post 0 (nI n) (nI (2 ^ n)) (nI c) T R X Y Z A (d + 1) s f (nI m)) ∧ (∀ post : Int32 → Prop, post r → wY_alwaysOne_11 post (nI n) (nI c) T A R X Y Z (d + 1) f s (nI m)) := by
  have hN := rn_pw n (by omega)
  intro d
  induction d with
  | zero =>
    intro m hm s f
    have hl : nI (2 ^ n) ≤ nI m := nI_le (by omega) (by omega)
    by_cases hf : f = 0
    · exact ⟨-1, fun _ hp => br_t hl (br_t hf hp), fun _ hp => (br_t (rn_yle hn hl) (br_t hf hp))⟩
    · exact ⟨s, fun _ hp => br_t hl (br_f hf hp), fun _ hp => (br_t (rn_yle hn hl) (br_f hf hp))⟩
  | succ d ih =>
    intro m hm s f
    have hl : ¬ nI (2 ^ n) ≤ nI m := nI_ge (by omega) (by omega)
    by_cases z : rn_sl n c T R X Y Z A (nI m)
    · obtain ⟨r, hX, hY⟩ := ih (m + 1) (by omega) (s &&& nI m) 1
      have e : s &&& (nI m ^^^ 0) = s &&& nI m := by rw [Int32.xor_zero]
      exact ⟨r, fun post hp => br_f hl (rn_xS1 hn hc hR z (rn_k1 (nm_r e (nm_r (nI_1 m) (hX post hp))))), fun post hp => (br_f (rn_ynl hn hl) (rn_yS1 hn hc hR z (rn_k1 (nm_e (nm_r (nI_1 m) (hY post hp))))))⟩
    · obtain ⟨r, hX, hY⟩ := ih (m + 1) (by omega) s f
      exact ⟨r, fun post hp => br_f hl (rn_xS0 hn hc hR z (rn_k0 (nm_r (nI_1 m) (hX post hp)))), fun post hp => (br_f (rn_ynl hn hl) (rn_yS0 hn hc hR z (rn_k0 (nm_r (nI_1 m) (hY post hp)))))⟩
theorem rn_flI {m : Nat} (hn : n ≤ 8) (hm : m < 2 ^ n) : nI m ^^^ (nI (2 ^ n) - 1) = (nI (2 ^ n) - 1) - nI m := by
  have hN := rn_pw n (by omega)
  have e : nI (2 ^ n) - 1 = nI (2 ^ n - 1) := pk_sub (a := 2 ^ n) (b := 1) (by omega)
  rw [e, nx_xor, pk_sub (by omega), rn_flip n m hm]
theorem rn_zers (hn : n ≤ 8) (hc : c ≤ 20) (hR : ∀ i, i < c → vp_in (R i) 6) : ∀ d m, m + d = 2 ^ n → ∀ s f : Int32, ∃ r : Int32, (∀ post : Int32 → Prop, post r → wX_onesInEverySolution_12 post (nI (2 ^ n) - 1) (nI n) (nI (2 ^ n)) (nI c) T R X Y Z A (d + 1) s f (nI m)) ∧ (∀ post : Int32 → Prop, post r → wY_alwaysZero_11 post (nI n) (nI c) T A R X Y Z (d + 1) f s (nI m)) := by
  have hN := rn_pw n (by omega)
  intro d
  induction d with
  | zero =>
    intro m hm s f
    have hl : nI (2 ^ n) ≤ nI m := nI_le (by omega) (by omega)
    by_cases hf : f = 0
    · exact ⟨-1, fun _ hp => br_t hl (br_t hf hp), fun _ hp => (br_t (rn_yle hn hl) (br_t hf hp))⟩
    · exact ⟨s, fun _ hp => br_t hl (br_f hf hp), fun _ hp => (br_t (rn_yle hn hl) (br_f hf hp))⟩
  | succ d ih =>
    intro m hm s f
    have hl : ¬ nI (2 ^ n) ≤ nI m := nI_ge (by omega) (by omega)
    by_cases z : rn_sl n c T R X Y Z A (nI m)
    · obtain ⟨r, hX, hY⟩ := ih (m + 1) (by omega) (s &&& ((nI (2 ^ n) - 1) - nI m)) 1
      have e : s &&& (nI m ^^^ (nI (2 ^ n) - 1)) = s &&& ((nI (2 ^ n) - 1) - nI m) := by rw [rn_flI hn (by omega)]
      exact ⟨r, fun post hp => br_f hl (rn_xS1 hn hc hR z (rn_k1 (nm_r e (nm_r (nI_1 m) (hX post hp))))), fun post hp => (br_f (rn_ynl hn hl) (rn_yS1 hn hc hR z (rn_k1 (rn_yall hn (nm_e (nm_r (nI_1 m) (hY post hp)))))))⟩
    · obtain ⟨r, hX, hY⟩ := ih (m + 1) (by omega) s f
      exact ⟨r, fun post hp => br_f hl (rn_xS0 hn hc hR z (rn_k0 (nm_r (nI_1 m) (hX post hp)))), fun post hp => (br_f (rn_ynl hn hl) (rn_yS0 hn hc hR z (rn_k0 (nm_r (nI_1 m) (hY post hp)))))⟩
theorem rn_pair (x y : Int32) (hn : n ≤ 8) (hc : c ≤ 20) (hR : ∀ i, i < c → vp_in (R i) 6) : ∀ d m, m + d = 2 ^ n → ∀ f : Int32, ∃ r : Int32, (∀ post : Int32 → Prop, post r → wX_pairs_23 post x y (nI n) (nI (2 ^ n)) (nI c) T R X Y Z A (d + 1) f (nI m)) ∧ (∀ post : Int32 → Prop, post r → wY_pairs_23 post x y (nI n) (nI c) T A R X Y Z (d + 1) f (nI m)) := by
  have hN := rn_pw n (by omega)
  intro d
  induction d with
  | zero => exact fun m hm f => ⟨f, fun _ hp => br_t (nI_le (by omega) (by omega)) hp, fun _ hp => (br_t (rn_yle hn (nI_le (by omega) (by omega))) hp)⟩
  | succ d ih =>
    intro m hm f
    have hl : ¬ nI (2 ^ n) ≤ nI m := nI_ge (by omega) (by omega)
    by_cases s : rn_sl n c T R X Y Z A (nI m)
    · obtain ⟨r, hX, hY⟩ := ih (m + 1) (by omega) (f ||| ((1 : Int32) <<< (((2 * ((nI m >>> (x &&& 31)) &&& 1)) + ((nI m >>> (y &&& 31)) &&& 1)) &&& 31)))
      refine ⟨r, fun post hp => br_f hl (rn_xS1 hn hc hR s (rn_k1 ?_)), fun post hp => (br_f (rn_ynl hn hl) (rn_yS1 hn hc hR s (rn_k1 ?_)))⟩
      · intro p ep
        subst ep
        exact nm_e (nm_r (nI_1 m) (hX post hp))
      · exact nm_e (P := fun q => ∀ b, b = nI m + 1 → wY_pairs_23 post x y (nI n) (nI c) T A R X Y Z (d + 1) q b) (nm_r (nI_1 m) (hY post hp))
    · obtain ⟨r, hX, hY⟩ := ih (m + 1) (by omega) f
      exact ⟨r, fun post hp => br_f hl (rn_xS0 hn hc hR s (rn_k0 (nm_r (nI_1 m) (hX post hp)))), fun post hp => (br_f (rn_ynl hn hl) (rn_yS0 hn hc hR s (rn_k0 (nm_r (nI_1 m) (hY post hp)))))⟩
theorem rn_ent {r0 x y z : Int32} (hr : vp_in r0 6) (hn : n ≤ 8) (hc : c ≤ 20) (hR : ∀ i, i < c → vp_in (R i) 6) : ∀ d m, m + d = 2 ^ n → ∃ r : Int32, (∀ post : Int32 → Prop, post r → wX_entails_27 post r0 x y z (nI n) (nI (2 ^ n)) (nI c) T R X Y Z A (d + 1) (nI m)) ∧ (∀ post : Int32 → Prop, post r → wY_entails_41 post r0 x y z (nI n) (nI c) T A R X Y Z (d + 1) (nI m)) := by
  have hN := rn_pw n (by omega)
  intro d
  induction d with
  | zero => exact fun m hm => ⟨1, fun _ hp => br_t (nI_le (by omega) (by omega)) hp, fun _ hp => (br_t (rn_yle hn (nI_le (by omega) (by omega))) hp)⟩
  | succ d ih =>
    intro m hm
    have hl : ¬ nI (2 ^ n) ≤ nI m := nI_ge (by omega) (by omega)
    obtain ⟨r, hX, hY⟩ := ih (m + 1) (by omega)
    by_cases t : rn_mt (T r0.toNatClampNeg) (nI m) x y z
    · have hX' : ∀ post : Int32 → Prop, post r → wX_entails_27 post r0 x y z (nI n) (nI (2 ^ n)) (nI c) T R X Y Z A (d + 2) (nI m) :=
        fun post hp => br_f hl (And.intro hr (br_t t (rn_k1 (nm_r (nI_1 m) (hX post hp)))))
      by_cases s : rn_sl n c T R X Y Z A (nI m)
      · exact ⟨r, hX', fun post hp => (br_f (rn_ynl hn hl) (rn_yS1 hn hc hR s (rn_k1 (rn_yM hr (fun _ => rn_k1 (nm_r (nI_1 m) (hY post hp))) (fun w => absurd t w)))))⟩
      · exact ⟨r, hX', fun post hp => (br_f (rn_ynl hn hl) (rn_yS0 hn hc hR s (rn_k0 (nm_r (nI_1 m) (hY post hp)))))⟩
    · by_cases s : rn_sl n c T R X Y Z A (nI m)
      · exact ⟨0, fun post hp => br_f hl (And.intro hr (br_f t (rn_k0 (rn_xS1 hn hc hR s (rn_k1 hp))))), fun post hp => (br_f (rn_ynl hn hl) (rn_yS1 hn hc hR s (rn_k1 (rn_yM hr (fun w => absurd w t) (fun _ => rn_k0 hp)))))⟩
      · exact ⟨r, fun post hp => br_f hl (And.intro hr (br_f t (rn_k0 (rn_xS0 hn hc hR s (rn_k0 (nm_r (nI_1 m) (hX post hp))))))), fun post hp => (br_f (rn_ynl hn hl) (rn_yS0 hn hc hR s (rn_k0 (nm_r (nI_1 m) (hY post hp)))))⟩
theorem rn_mai {i : Nat} {m : Int32} (hc : c ≤ 20) (hi : i < c) : rn_ma c T R X Y Z (-1) m ↔ rn_ma c T R X Y Z (nI i) m ∧ rn_at T R X Y Z i m := by
  constructor
  · intro h
    exact ⟨fun j hj => Or.inr ((h j hj).resolve_left (rn_m1 (by omega))), (h i hi).resolve_left (rn_m1 (by omega))⟩
  · rintro ⟨h, hi2⟩ j hj
    rcases h j hj with e | h2
    · rw [nI_eq (by omega) (by omega)] at e
      subst e
      exact Or.inr hi2
    · exact Or.inr h2
theorem rn_red {i : Nat} (hi : i < c) (hn : n ≤ 8) (hc : c ≤ 20) (hR : ∀ i, i < c → vp_in (R i) 6) : ∀ d m, m + d = 2 ^ n → ∃ r : Int32, (∀ post : Int32 → Prop, post r → wX_redundant_12 post (nI i) (nI n) (nI (2 ^ n)) (nI c) T R X Y Z A (d + 1) (nI m)) ∧ (∀ post : Int32 → Prop, post r → wY_redundant_12 post (nI i) (nI n) (nI c) T A R X Y Z (d + 1) (nI m)) := by
  have hN := rn_pw n (by omega)
  intro d
  induction d with
  | zero => exact fun m hm => ⟨1, fun _ hp => br_t (nI_le (by omega) (by omega)) hp, fun _ hp => (br_t (rn_yle hn (nI_le (by omega) (by omega))) hp)⟩
  | succ d ih =>
    intro m hm
    have hl : ¬ nI (2 ^ n) ≤ nI m := nI_ge (by omega) (by omega)
    have q := rn_mai (T := T) (R := R) (X := X) (Y := Y) (Z := Z) (m := nI m) hc hi
    obtain ⟨r, hX, hY⟩ := ih (m + 1) (by omega)
    by_cases kw : rn_ka n A (nI m) ∧ rn_ma c T R X Y Z (nI i) (nI m)
    · by_cases t : rn_at T R X Y Z i (nI m)
      · refine ⟨r, fun post hp => br_f hl (rn_xM hc hi (hR i hi) (fun _ => rn_k1 (nm_r (nI_1 m) (hX post hp))) (fun w => absurd t w)), fun post hp => (br_f (rn_ynl hn hl) ?_)⟩
        exact rn_yW hn hc hR (fun _ => rn_yW hn hc hR (fun _ => br_t rfl (nm_r (nI_1 m) (hY post hp))) (fun w => absurd kw w)) (fun w => absurd ⟨kw.1, q.2 ⟨kw.2, t⟩⟩ w)
      · refine ⟨0, fun post hp => br_f hl (rn_xM hc hi (hR i hi) (fun w => absurd w t) (fun _ => rn_k0 (rn_xK hn (fun _ => rn_k1 (rn_xB hc hR (fun _ => rn_k1 hp) (fun w => absurd kw.2 w))) (fun w => absurd kw.1 w)))), fun post hp => (br_f (rn_ynl hn hl) ?_)⟩
        exact rn_yW hn hc hR (fun w => absurd (q.1 w.2).2 t) (fun _ => rn_yW hn hc hR (fun _ => br_f (by decide) hp) (fun w => absurd kw w))
    · refine ⟨r, fun post hp => br_f hl (rn_xM hc hi (hR i hi) (fun _ => rn_k1 (nm_r (nI_1 m) (hX post hp))) (fun _ => rn_k0 (rn_xK hn (fun a => rn_k1 (rn_xB hc hR (fun b => absurd ⟨a, b⟩ kw) (fun _ => rn_k0 (nm_r (nI_1 m) (hX post hp))))) (fun _ => rn_k0 (nm_r (nI_1 m) (hX post hp)))))), fun post hp => (br_f (rn_ynl hn hl) ?_)⟩
      exact rn_yW hn hc hR (fun w => absurd ⟨w.1, (q.1 w.2).1⟩ kw) (fun _ => rn_yW hn hc hR (fun w => absurd w kw) (fun _ => br_t rfl (nm_r (nI_1 m) (hY post hp))))
end
/-- r is the number of the greatest below N of which S holds, or -1 -/
def rn_gr (S : Int32 → Prop) (N : Nat) (r : Int32) : Prop := (r = -1 ∧ ∀ j, j < N → ¬ S (nI j)) ∨ ∃ j, j < N ∧ r = nI j ∧ S (nI j) ∧ ∀ k, j < k → k < N → ¬ S (nI k)
theorem rn_gru {S : Int32 → Prop} {N : Nat} {r q : Int32} (hr : rn_gr S N r) (hq : rn_gr S N q) : q = r := by
  rcases hr with ⟨rfl, h⟩ | ⟨j, hj, rfl, hs, hg⟩
  · rcases hq with ⟨rfl, _⟩ | ⟨i, hi, _, hs, _⟩
    · rfl
    · exact absurd hs (h i hi)
  · rcases hq with ⟨_, h⟩ | ⟨i, hi, rfl, hs2, hg2⟩
    · exact absurd hs (h j hj)
    · rcases Nat.lt_trichotomy i j with z | z | z
      · exact absurd hs (hg2 j z hj)
      · rw [z]
      · exact absurd hs2 (hg i z hi)
section
variable {n c : Nat} {T R X Y Z A : Nat → Int32}
theorem rn_grX {post : Int32 → Prop} (hn : n ≤ 8) (hc : c ≤ 20) (hR : ∀ i, i < c → vp_in (R i) 6) (h : ∀ r, rn_gr (rn_sl n c T R X Y Z A) (2 ^ n) r → post r) : ∀ d, d ≤ 2 ^ n → (∀ j, d ≤ j → j < 2 ^ n → ¬ rn_sl n c T R X Y Z A (nI j)) → wX_greatest_7 post (nI n) (nI (2 ^ n)) (nI c) T R X Y Z A (d + 1) (nI d - 1) := by
  have hN := rn_pw n (by omega)
  intro d
  induction d with
  | zero => exact fun _ hz => br_t (by decide) (h (-1) (Or.inl ⟨rfl, fun j hj => hz j (by omega) hj⟩))
  | succ d ih =>
    intro hd hz
    have e : nI (d + 1) - 1 = nI d := nI_pred d
    rw [e]
    have e2 : nI d + (-1) = nI d - 1 := (Int32.sub_eq_add_neg _ _).symm
    by_cases s : rn_sl n c T R X Y Z A (nI d)
    · exact br_f (nI_pos (by omega)) (rn_xS1 hn hc hR s (rn_k1 (h (nI d) (Or.inr ⟨d, by omega, rfl, s, fun k hk hkN => hz k (by omega) hkN⟩))))
    · refine br_f (nI_pos (by omega)) (rn_xS0 hn hc hR s (rn_k0 (nm_r e2 (ih (by omega) fun j hj hjN => ?_))))
      by_cases z : j = d
      · rw [z]; exact s
      · exact hz j (by omega) hjN
theorem rn_grY {post : Int32 → Prop} (hn : n ≤ 8) (hc : c ≤ 20) (hR : ∀ i, i < c → vp_in (R i) 6) (h : ∀ r, rn_gr (rn_sl n c T R X Y Z A) (2 ^ n) r → post r) : ∀ d m, m + d = 2 ^ n → ∀ r, rn_gr (rn_sl n c T R X Y Z A) m r → wY_greatest_4 post (nI n) (nI c) T A R X Y Z (d + 1) r (nI m) := by
  have hN := rn_pw n (by omega)
  intro d
  induction d with
  | zero =>
    intro m hm r hr
    have em : m = 2 ^ n := by omega
    rw [em] at hr ⊢
    exact (br_t (rn_yle hn (nI_le (by omega) (by omega))) (h r hr))
  | succ d ih =>
    intro m hm r hr
    have hl : ¬ nI (2 ^ n) ≤ nI m := nI_ge (by omega) (by omega)
    by_cases s : rn_sl n c T R X Y Z A (nI m)
    · exact (br_f (rn_ynl hn hl) (rn_yS1 hn hc hR s (rn_k1 (nm_r (nI_1 m) (ih (m + 1) (by omega) (nI m) (Or.inr ⟨m, by omega, rfl, s, fun k hk hk2 => absurd hk (by omega)⟩))))))
    · refine (br_f (rn_ynl hn hl) (rn_yS0 hn hc hR s (rn_k0 (nm_r (nI_1 m) (ih (m + 1) (by omega) r ?_)))))
      rcases hr with ⟨e, hz⟩ | ⟨j, hj, e, hs, hg⟩
      · exact Or.inl ⟨e, lt_s hz s⟩
      · refine Or.inr ⟨j, by omega, e, hs, fun k hk hk2 => ?_⟩
        by_cases z : k = m
        · rw [z]; exact s
        · exact hg k hk (by omega)
end
