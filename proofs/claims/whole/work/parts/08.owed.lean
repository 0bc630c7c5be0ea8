/-! what is owed -/
theorem rn_lits (N : Nat) (hN : N + 1 < 2 ^ 31) {x : Int32} (h : nI (N + 1) ≤ x) : ¬ x ≤ nI N := by
  rw [Int32.le_iff_toInt_le] at h ⊢
  rw [nI_toInt (by omega)] at h ⊢
  omega
theorem i_vc0 (k0 : Int32) : wpX_init (fun u => wpY_init (fun v => i_Rel 1 u v) k0) k0 := by
  have J : ∀ (n : Nat) (T' A' : Nat → Int32), n ≤ 8 → i_Rel 1 (nI n, nI (2 ^ n), nI 0, T', (fun _ => 0), (fun _ => 0), (fun _ => 0), (fun _ => 0), A') (nI n, nI 0, T', A', (fun _ => 0), (fun _ => 0), (fun _ => 0), (fun _ => 0)) :=
    fun n T' A' hn => ⟨n, 0, T', _, _, _, _, A', rfl, rfl, hn, by omega, fun i hi => absurd hi (by omega)⟩
  by_cases h2 : 2 ≤ k0
  · by_cases h8 : k0 ≤ 8
    · have h0 : ¬ k0 < 0 := fun z => absurd (Int32.lt_of_le_of_lt h2 z) (by decide)
      obtain ⟨n, hn, rfl⟩ := nI_of2 (M := 8) (n := 8) (by decide) h0 h8
      obtain ⟨T', A', hX, hY⟩ := rn_init (T := fun _ => 0) (R := fun _ => 0) (X := fun _ => 0) (Y := fun _ => 0) (Z := fun _ => 0) (A := fun _ => 0) hn
      exact br_t h2 (br_t h8 (hX _ (br_t h2 (br_t h8 (hY _ (J n T' A' hn)))) 0 0 0))
    · obtain ⟨T', A', hX, hY⟩ := rn_init (n := 8) (T := fun _ => 0) (R := fun _ => 0) (X := fun _ => 0) (Y := fun _ => 0) (Z := fun _ => 0) (A := fun _ => 0) (by decide)
      exact br_t h2 (br_f h8 (hX _ (br_t h2 (br_f h8 (hY _ (J 8 T' A' (by decide))))) 0 0 0))
  · obtain ⟨T', A', hX, hY⟩ := rn_init (n := 2) (T := fun _ => 0) (R := fun _ => 0) (X := fun _ => 0) (Y := fun _ => 0) (Z := fun _ => 0) (A := fun _ => 0) (by decide)
    exact br_f h2 (hX _ (br_f h2 (hY _ (J 2 T' A' (by decide)))) 0 0 0)
theorem i_vc_define {k : Nat} {u : SX} {v : SY} (I : i_Rel k u v) (hk : k + 5 ≤ 2561) (v1 : Int32) (v2 : Int32) : wpX_define (fun r u' => wpY_define (fun r' v' => r' = r ∧ i_Rel (k + 5) u' v') v v1 v2) u v1 v2 := by
  have J : i_Rel (k + 5) u v := I
  obtain ⟨n, c, T, R, X, Y, Z, A, rfl, rfl, hn, hc, hR⟩ := I
  unfold wpX_define wpY_define
  dsimp only
  rcases rn_io 6 (by decide) v1 with ⟨j, hj, rfl⟩ | ho
  · have hv : vp_in (nI j) 6 := vp_in_nI hj (by decide)
    rcases rn_io 256 (by decide) v2 with ⟨t, ht, rfl⟩ | ho2
    · have p0 : ¬ nI t < 0 := nI_pos (by omega)
      have p1 : nI t ≤ 255 := nI_le (b := 255) (by omega) (by decide)
      by_cases hN : ∃ i, i < c ∧ R i = nI j
      · exact rn_xR1 hj (rn_k1 (br_f p0 (br_t p1 (rn_xN hc (fun _ => rn_k1 (rn_yR1 hj (rn_k0 (br_f p0 (br_t p1 ⟨c + 1, rn_yN_l hc (fun _ => ⟨rfl, J⟩) (fun z => absurd hN fun ⟨i, hi, e⟩ => z i hi e) c 0 (by omega) lt_0⟩))))) (fun z => absurd hN fun ⟨i, hi, e⟩ => z i hi e)))))
      · have hT : upd T (nI j).toNatClampNeg (nI t) j = nI t := by
          rw [nI_clamp (by omega)]
          exact pk_us
        obtain ⟨r, hX, hY⟩ := rn_cnt (n := n) (c := c) (T := upd T (nI j).toNatClampNeg (nI t)) (R := R) (X := X) (Y := Y) (Z := Z) (A := A) hj hT 8 0 (by omega) 0
        have J2 : i_Rel (k + 5) (nI n, nI (2 ^ n), nI c, upd T (nI j).toNatClampNeg (nI t), R, X, Y, Z, A) (nI n, nI c, upd T (nI j).toNatClampNeg (nI t), A, R, X, Y, Z) := ⟨n, c, _, R, X, Y, Z, A, rfl, rfl, hn, hc, hR⟩
        refine rn_xR1 hj (rn_k1 (br_f p0 (br_t p1 (rn_xN hc (fun z => absurd z hN) (fun _ => rn_k0 ⟨hv, nm_e ⟨9, hX _ (rn_yR1 hj (rn_k0 (br_f p0 (br_t p1 ⟨c + 1, ?_⟩))))⟩⟩)))))
        exact rn_yN_l hc (fun z => absurd z hN) (fun _ => And.intro hv (nm_e ⟨9, hY _ ⟨rfl, J2⟩⟩)) c 0 (by omega) lt_0
    · by_cases h0 : v2 < 0
      · exact rn_xR1 hj (rn_k1 (br_t h0 (rn_yR1 hj (rn_k0 (br_t h0 ⟨rfl, J⟩)))))
      · have h1 : ¬ v2 ≤ 255 := rn_lits 255 (by decide) (ho2.resolve_left h0)
        exact rn_xR1 hj (rn_k1 (br_f h0 (br_f h1 (rn_yR1 hj (rn_k0 (br_f h0 (br_f h1 ⟨rfl, J⟩)))))))
  · exact rn_xR0 ho (rn_k0 (rn_yR0 ho (rn_k1 ⟨rfl, J⟩)))
theorem i_vc_require {k : Nat} {u : SX} {v : SY} (I : i_Rel k u v) (hk : k + 5 ≤ 2561) (v1 : Int32) (v2 : Int32) (v3 : Int32) (v4 : Int32) : wpX_require (fun r u' => wpY_require (fun r' v' => r' = r ∧ i_Rel (k + 5) u' v') v v1 v2 v3 v4) u v1 v2 v3 v4 := by
  have J : i_Rel (k + 5) u v := I
  obtain ⟨n, c, T, R, X, Y, Z, A, rfl, rfl, hn, hc, hR⟩ := I
  unfold wpX_require wpY_require
  dsimp only
  rcases rn_io 6 (by decide) v1 with ⟨j, hj, rfl⟩ | ho
  · by_cases h3 : (∃ j : Nat, j < n ∧ v2 = nI j) ∧ (∃ j : Nat, j < n ∧ v3 = nI j) ∧ (∃ j : Nat, j < n ∧ v4 = nI j)
    · obtain ⟨⟨a, ha, rfl⟩, ⟨b, hb, rfl⟩, ⟨d, hd, rfl⟩⟩ := h3
      by_cases h20 : c < 20
      · have hv : vp_in (nI c) 20 := vp_in_nI h20 (by decide)
        have hl : nI c < 20 := nI_lt (b := 20) h20 (by decide)
        have J2 : i_Rel (k + 5) (nI n, nI (2 ^ n), nI (c + 1), T, upd R (nI c).toNatClampNeg (nI j), upd X (nI c).toNatClampNeg (nI a), upd Y (nI c).toNatClampNeg (nI b), upd Z (nI c).toNatClampNeg (nI d), A) (nI n, nI (c + 1), T, A, upd R (nI c).toNatClampNeg (nI j), upd X (nI c).toNatClampNeg (nI a), upd Y (nI c).toNatClampNeg (nI b), upd Z (nI c).toNatClampNeg (nI d)) := by
          refine ⟨n, c + 1, T, _, _, _, _, A, rfl, rfl, hn, by omega, fun i hi => ?_⟩
          rw [nI_clamp (by omega)]
          unfold upd
          by_cases z : i = c
          · rw [if_pos z]
            exact vp_in_nI hj (by decide)
          · rw [if_neg z]
            exact hR i (by omega)
        exact rn_xR1 hj (rn_k1 (rn_xA1 hn ha hb hd (rn_k1 (br_t hl ⟨hv, nm_e ⟨hv, nm_e ⟨hv, nm_e ⟨hv, nm_e (nm_r (nI_1 c) (rn_yR1 hj (rn_k0 (rn_y31 hn ha hb hd (br_t hl ⟨hv, nm_e ⟨hv, nm_e ⟨hv, nm_e ⟨hv, nm_e (nm_r (nI_1 c) ⟨nI_pred c, J2⟩)⟩⟩⟩⟩)))))⟩⟩⟩⟩))))
      · have hl : ¬ nI c < 20 := nI_nlt (b := 20) (by omega) (by omega)
        exact rn_xR1 hj (rn_k1 (rn_xA1 hn ha hb hd (rn_k1 (br_f hl (rn_yR1 hj (rn_k0 (rn_y31 hn ha hb hd (br_f hl ⟨rfl, J⟩))))))))
    · exact rn_xR1 hj (rn_k1 (rn_xA0 hn h3 (rn_k0 (rn_yR1 hj (rn_k0 (rn_y30 hn h3 ⟨rfl, J⟩))))))
  · exact rn_xR0 ho (rn_k0 (rn_yR0 ho (rn_k1 ⟨rfl, J⟩)))
theorem i_vc_retract {k : Nat} {u : SX} {v : SY} (I : i_Rel k u v) (hk : k + 5 ≤ 2561) (v1 : Int32) : wpX_retract (fun r u' => wpY_retract (fun r' v' => r' = r ∧ i_Rel (k + 5) u' v') v v1) u v1 := by
  have J : i_Rel (k + 5) u v := I
  obtain ⟨n, c, T, R, X, Y, Z, A, rfl, rfl, hn, hc, hR⟩ := I
  unfold wpX_retract wpY_retract
  dsimp only
  rcases rn_io c (by omega) v1 with ⟨j, hj, rfl⟩ | ho
  · have hv : vp_in (nI j) 20 := vp_in_nI (by omega) (by decide)
    obtain ⟨R', X', Y', Z', hR', hX, hY⟩ := rn_ret (n := n) (T := T) (A := A) (R (nI j).toNatClampNeg) hc (c - (j + 1)) j (by omega) R X Y Z hR
    have J2 : i_Rel (k + 5) (nI n, nI (2 ^ n), nI (c - 1), T, R', X', Y', Z', A) (nI n, nI (c - 1), T, A, R', X', Y', Z') := ⟨n, c - 1, T, R', X', Y', Z', A, rfl, rfl, hn, by omega, hR'⟩
    exact rn_xP1 hc hj (rn_k1 ⟨hv, nm_e (nm_r (nI_1 j) ⟨c - (j + 1) + 1, hX _ (rn_yP1 hc hj (rn_k0 ⟨hv, nm_e ⟨c - (j + 1) + 1, hY _ ⟨rfl, J2⟩⟩⟩))⟩)⟩)
  · exact rn_xP0 ho (rn_k0 (rn_yP0 ho (rn_k1 ⟨rfl, J⟩)))
theorem i_vc_assume {k : Nat} {u : SX} {v : SY} (I : i_Rel k u v) (hk : k + 5 ≤ 2561) (v1 : Int32) (v2 : Int32) : wpX_assume (fun r u' => wpY_assume (fun r' v' => r' = r ∧ i_Rel (k + 5) u' v') v v1 v2) u v1 v2 := by
  have J : i_Rel (k + 5) u v := I
  obtain ⟨n, c, T, R, X, Y, Z, A, rfl, rfl, hn, hc, hR⟩ := I
  unfold wpX_assume wpY_assume
  dsimp only
  rcases rn_io n (by omega) v1 with ⟨j, hj, rfl⟩ | ho
  · have hv : vp_in (nI j) 8 := vp_in_nI (by omega) (by decide)
    by_cases h0 : v2 < 0
    · exact rn_xV1 hn hj (rn_k1 (br_t h0 (rn_yV1 hn hj (rn_k0 (br_t h0 ⟨rfl, J⟩)))))
    · by_cases h1 : v2 ≤ 2
      · have J2 : i_Rel (k + 5) (nI n, nI (2 ^ n), nI c, T, R, X, Y, Z, upd A (nI j).toNatClampNeg v2) (nI n, nI c, T, upd A (nI j).toNatClampNeg v2, R, X, Y, Z) := ⟨n, c, T, R, X, Y, Z, _, rfl, rfl, hn, hc, hR⟩
        exact rn_xV1 hn hj (rn_k1 (br_f h0 (br_t h1 ⟨hv, nm_e ⟨hv, nm_e (rn_yV1 hn hj (rn_k0 (br_f h0 (br_t h1 ⟨hv, nm_e ⟨hv, nm_e ⟨rfl, J2⟩⟩⟩))))⟩⟩)))
      · exact rn_xV1 hn hj (rn_k1 (br_f h0 (br_f h1 (rn_yV1 hn hj (rn_k0 (br_f h0 (br_f h1 ⟨rfl, J⟩)))))))
  · exact rn_xV0 ho (rn_k0 (rn_yV0 ho (rn_k1 ⟨rfl, J⟩)))
theorem i_vc_size {k : Nat} {u : SX} {v : SY} (I : i_Rel k u v) (hk : k + 5 ≤ 2561) : wpX_size (fun r => wpY_size (fun r' => r' = r ∧ i_Rel (k + 5) u v) v) u := by
  have J : i_Rel (k + 5) u v := I
  obtain ⟨n, c, T, R, X, Y, Z, A, rfl, rfl, hn, hc, hR⟩ := I
  exact And.intro rfl J
theorem i_vc_table {k : Nat} {u : SX} {v : SY} (I : i_Rel k u v) (hk : k + 5 ≤ 2561) (v1 : Int32) : wpX_table (fun r => wpY_table (fun r' => r' = r ∧ i_Rel (k + 5) u v) v v1) u v1 := by
  have J : i_Rel (k + 5) u v := I
  obtain ⟨n, c, T, R, X, Y, Z, A, rfl, rfl, hn, hc, hR⟩ := I
  unfold wpX_table wpY_table
  dsimp only
  rcases rn_io 6 (by decide) v1 with ⟨j, hj, rfl⟩ | ho
  · have hv : vp_in (nI j) 6 := vp_in_nI hj (by decide)
    exact rn_xR1 hj (rn_k1 ⟨hv, rn_yR1 hj (rn_k0 ⟨hv, rfl, J⟩)⟩)
  · exact rn_xR0 ho (rn_k0 (rn_yR0 ho (rn_k1 ⟨rfl, J⟩)))
theorem i_vc_traits {k : Nat} {u : SX} {v : SY} (I : i_Rel k u v) (hk : k + 5 ≤ 2561) (v1 : Int32) : wpX_traits (fun r => wpY_traits (fun r' => r' = r ∧ i_Rel (k + 5) u v) v v1) u v1 := by
  have J : i_Rel (k + 5) u v := I
  obtain ⟨n, c, T, R, X, Y, Z, A, rfl, rfl, hn, hc, hR⟩ := I
  unfold wpX_traits
  dsimp only
  rcases rn_io 6 (by decide) v1 with ⟨j, hj, rfl⟩ | ho
  · have hv : vp_in (nI j) 6 := vp_in_nI hj (by decide)
    obtain ⟨z, o, m, i, a, p, f, F⟩ := rn_flE (T (nI j).toNatClampNeg)
    exact rn_xR1 hj (rn_k1 ⟨hv, rn_xT F (rn_yT hv F ⟨rfl, J⟩)⟩)
  · unfold wpY_traits
    dsimp only
    exact rn_xR0 ho (rn_k0 (rn_yR0 ho (rn_k1 ⟨rfl, J⟩)))
theorem i_vc_netTraits {k : Nat} {u : SX} {v : SY} (I : i_Rel k u v) (hk : k + 5 ≤ 2561) : wpX_netTraits (fun r => wpY_netTraits (fun r' => r' = r ∧ i_Rel (k + 5) u v) v) u := by
  have J : i_Rel (k + 5) u v := I
  obtain ⟨n, c, T, R, X, Y, Z, A, rfl, rfl, hn, hc, hR⟩ := I
  obtain ⟨r, hX, hY⟩ := rn_net (T := T) (X := X) (Y := Y) (Z := Z) (A := A) hn hc hR c 0 (by omega) 127
  exact ⟨c + 1, hX _ ⟨c + 1, hY _ ⟨rfl, J⟩⟩⟩
theorem i_vc_satisfiable {k : Nat} {u : SX} {v : SY} (I : i_Rel k u v) (hk : k + 5 ≤ 2561) : wpX_satisfiable (fun r => wpY_satisfiable (fun r' => r' = r ∧ i_Rel (k + 5) u v) v) u := by
  have J : i_Rel (k + 5) u v := I
  obtain ⟨n, c, T, R, X, Y, Z, A, rfl, rfl, hn, hc, hR⟩ := I
  obtain ⟨r, q, hq, hX, _, hZ⟩ := rn_first (T := T) (X := X) (Y := Y) (Z := Z) (A := A) hn hc hR (2 ^ n) 0 (by omega)
  unfold wpX_satisfiable
  dsimp only
  refine ⟨2 ^ n + 1, hX _ ?_⟩
  rcases hq with ⟨hr, rfl⟩ | ⟨hr, rfl⟩
  · exact br_t hr ⟨2 ^ n + 1, hZ _ ⟨rfl, J⟩⟩
  · exact br_f hr ⟨2 ^ n + 1, hZ _ ⟨rfl, J⟩⟩
theorem i_vc_solutions {k : Nat} {u : SX} {v : SY} (I : i_Rel k u v) (hk : k + 5 ≤ 2561) : wpX_solutions (fun r => wpY_solutions (fun r' => r' = r ∧ i_Rel (k + 5) u v) v) u := by
  have J : i_Rel (k + 5) u v := I
  obtain ⟨n, c, T, R, X, Y, Z, A, rfl, rfl, hn, hc, hR⟩ := I
  obtain ⟨r, hX, hY⟩ := rn_solu (T := T) (X := X) (Y := Y) (Z := Z) (A := A) hn hc hR (2 ^ n) 0 (by omega) 0
  exact ⟨2 ^ n + 1, hX _ ⟨2 ^ n + 1, hY _ ⟨rfl, J⟩⟩⟩
theorem i_vc_least {k : Nat} {u : SX} {v : SY} (I : i_Rel k u v) (hk : k + 5 ≤ 2561) : wpX_least (fun r => wpY_least (fun r' => r' = r ∧ i_Rel (k + 5) u v) v) u := by
  have J : i_Rel (k + 5) u v := I
  obtain ⟨n, c, T, R, X, Y, Z, A, rfl, rfl, hn, hc, hR⟩ := I
  obtain ⟨r, q, _, hX, hY, _⟩ := rn_first (T := T) (X := X) (Y := Y) (Z := Z) (A := A) hn hc hR (2 ^ n) 0 (by omega)
  unfold wpX_least
  dsimp only
  exact ⟨2 ^ n + 1, hX _ ⟨2 ^ n + 1, hY _ ⟨rfl, J⟩⟩⟩
theorem i_vc_greatest {k : Nat} {u : SX} {v : SY} (I : i_Rel k u v) (hk : k + 5 ≤ 2561) : wpX_greatest (fun r => wpY_greatest (fun r' => r' = r ∧ i_Rel (k + 5) u v) v) u := by
  have J : i_Rel (k + 5) u v := I
  obtain ⟨n, c, T, R, X, Y, Z, A, rfl, rfl, hn, hc, hR⟩ := I
  unfold wpX_greatest
  dsimp only
  intro x ex
  subst ex
  exact ⟨2 ^ n + 1, rn_grX hn hc hR (fun r hr => ⟨2 ^ n + 1, rn_grY hn hc hR (fun q hq => ⟨rn_gru hr hq, J⟩) (2 ^ n) 0 (by omega) (-1) (Or.inl ⟨rfl, fun j hj => absurd hj (by omega)⟩)⟩) (2 ^ n) (Nat.le_refl _) (fun j h1 h2 => absurd h1 (by omega))⟩
theorem i_vc_next {k : Nat} {u : SX} {v : SY} (I : i_Rel k u v) (hk : k + 5 ≤ 2561) (v1 : Int32) : wpX_next (fun r => wpY_next (fun r' => r' = r ∧ i_Rel (k + 5) u v) v v1) u v1 := by
  have J : i_Rel (k + 5) u v := I
  obtain ⟨n, c, T, R, X, Y, Z, A, rfl, rfl, hn, hc, hR⟩ := I
  obtain ⟨r, hX, hY⟩ := rn_next v1 (T := T) (X := X) (Y := Y) (Z := Z) (A := A) hn hc hR (2 ^ n) 0 (by omega)
  unfold wpX_next
  dsimp only
  exact ⟨2 ^ n + 1, hX _ ⟨2 ^ n + 1, hY _ ⟨rfl, J⟩⟩⟩
theorem i_vc_possible {k : Nat} {u : SX} {v : SY} (I : i_Rel k u v) (hk : k + 5 ≤ 2561) (v1 : Int32) (v2 : Int32) : wpX_possible (fun r => wpY_possible (fun r' => r' = r ∧ i_Rel (k + 5) u v) v v1 v2) u v1 v2 := by
  have J : i_Rel (k + 5) u v := I
  obtain ⟨n, c, T, R, X, Y, Z, A, rfl, rfl, hn, hc, hR⟩ := I
  unfold wpX_possible wpY_possible
  dsimp only
  rcases rn_io n (by omega) v1 with ⟨j, hj, rfl⟩ | ho
  · rcases rn_io 2 (by decide) v2 with ⟨b, hb, rfl⟩ | ho2
    · obtain ⟨r, hX, hY⟩ := rn_poss (nI j) (nI b) (T := T) (X := X) (Y := Y) (Z := Z) (A := A) hn hc hR (2 ^ n) 0 (by omega)
      refine rn_xV1 hn hj (rn_k1 (br_f (nI_pos (by omega)) (br_t (nI_le (b := 1) (by omega) (by decide)) ⟨2 ^ n + 1, hX _ (rn_yV1 hn hj (rn_k0 ?_))⟩)))
      have hb2 : b = 0 ∨ b = 1 := by omega
      rcases hb2 with rfl | rfl
      · exact br_t rfl ⟨2 ^ n + 1, hY _ ⟨rfl, J⟩⟩
      · exact br_f (by decide) (br_t rfl ⟨2 ^ n + 1, hY _ ⟨rfl, J⟩⟩)
    · have h0 : ¬ v2 = 0 := fun e => absurd (e ▸ ho2) (by decide)
      have h1 : ¬ v2 = 1 := fun e => absurd (e ▸ ho2) (by decide)
      have P : wpY_badVar (fun r_1 => (r_1 = 0 → (v2 = 0 → ∃ n24, wY_possible_24 (fun r' => r' = -2 ∧ i_Rel (k + 5) (nI n, nI (2 ^ n), nI c, T, R, X, Y, Z, A) (nI n, nI c, T, A, R, X, Y, Z)) (nI j) v2 (nI n) (nI c) T A R X Y Z n24 0) ∧ (¬ v2 = 0 → (v2 = 1 → ∃ n24, wY_possible_24 (fun r' => r' = -2 ∧ i_Rel (k + 5) (nI n, nI (2 ^ n), nI c, T, R, X, Y, Z, A) (nI n, nI c, T, A, R, X, Y, Z)) (nI j) v2 (nI n) (nI c) T A R X Y Z n24 0) ∧ (¬ v2 = 1 → (-2 : Int32) = -2 ∧ i_Rel (k + 5) (nI n, nI (2 ^ n), nI c, T, R, X, Y, Z, A) (nI n, nI c, T, A, R, X, Y, Z)))) ∧ (¬ r_1 = 0 → (-1 : Int32) = -2 ∧ i_Rel (k + 5) (nI n, nI (2 ^ n), nI c, T, R, X, Y, Z, A) (nI n, nI c, T, A, R, X, Y, Z))) (nI n, nI c, T, A, R, X, Y, Z) (nI j) :=
        rn_yV1 hn hj (rn_k0 (br_f h0 (br_f h1 ⟨rfl, J⟩)))
      exact rn_xV1 hn hj (rn_k1 (rn_cut (K := True) ho2 P (fun h => br_f (rn_lits 1 (by decide) h) P) id))
  · exact rn_xV0 ho (rn_k0 (rn_yV0 ho (rn_k1 ⟨rfl, J⟩)))
theorem i_vc_alwaysOne {k : Nat} {u : SX} {v : SY} (I : i_Rel k u v) (hk : k + 5 ≤ 2561) : wpX_alwaysOne (fun r => wpY_alwaysOne (fun r' => r' = r ∧ i_Rel (k + 5) u v) v) u := by
  have J : i_Rel (k + 5) u v := I
  obtain ⟨n, c, T, R, X, Y, Z, A, rfl, rfl, hn, hc, hR⟩ := I
  obtain ⟨r, hX, hY⟩ := rn_ones (T := T) (X := X) (Y := Y) (Z := Z) (A := A) hn hc hR (2 ^ n) 0 (by omega) (nI (2 ^ n) - 1) 0
  unfold wpX_alwaysOne wpX_onesInEverySolution wpY_alwaysOne
  dsimp only
  intro x ex
  subst ex
  refine ⟨2 ^ n + 1, hX _ (rn_yall hn ?_)⟩
  intro y ey
  subst ey
  exact ⟨2 ^ n + 1, hY _ ⟨rfl, J⟩⟩
theorem i_vc_alwaysZero {k : Nat} {u : SX} {v : SY} (I : i_Rel k u v) (hk : k + 5 ≤ 2561) : wpX_alwaysZero (fun r => wpY_alwaysZero (fun r' => r' = r ∧ i_Rel (k + 5) u v) v) u := by
  have J : i_Rel (k + 5) u v := I
  obtain ⟨n, c, T, R, X, Y, Z, A, rfl, rfl, hn, hc, hR⟩ := I
  obtain ⟨r, hX, hY⟩ := rn_zers (T := T) (X := X) (Y := Y) (Z := Z) (A := A) hn hc hR (2 ^ n) 0 (by omega) (nI (2 ^ n) - 1) 0
  unfold wpX_alwaysZero wpX_onesInEverySolution wpY_alwaysZero
  dsimp only
  intro x ex
  subst ex
  refine ⟨2 ^ n + 1, hX _ (rn_yall hn ?_)⟩
  intro y ey
  subst ey
  exact ⟨2 ^ n + 1, hY _ ⟨rfl, J⟩⟩
theorem i_vc_pairs {k : Nat} {u : SX} {v : SY} (I : i_Rel k u v) (hk : k + 5 ≤ 2561) (v1 : Int32) (v2 : Int32) : wpX_pairs (fun r => wpY_pairs (fun r' => r' = r ∧ i_Rel (k + 5) u v) v v1 v2) u v1 v2 := by
  have J : i_Rel (k + 5) u v := I
  obtain ⟨n, c, T, R, X, Y, Z, A, rfl, rfl, hn, hc, hR⟩ := I
  unfold wpX_pairs wpY_pairs
  dsimp only
  rcases rn_io n (by omega) v1 with ⟨j, hj, rfl⟩ | ho
  · rcases rn_io n (by omega) v2 with ⟨b, hb, rfl⟩ | ho2
    · obtain ⟨r, hX, hY⟩ := rn_pair (nI j) (nI b) (T := T) (X := X) (Y := Y) (Z := Z) (A := A) hn hc hR (2 ^ n) 0 (by omega) 0
      exact rn_xV1 hn hj (rn_k1 (rn_xV1 hn hb (rn_k1 ⟨2 ^ n + 1, hX _ (rn_yV1 hn hj (rn_k0 (rn_yV1 hn hb (rn_k0 ⟨2 ^ n + 1, hY _ ⟨rfl, J⟩⟩))))⟩)))
    · exact rn_xV1 hn hj (rn_k1 (rn_xV0 ho2 (rn_k0 (rn_yV1 hn hj (rn_k0 (rn_yV0 ho2 (rn_k1 ⟨rfl, J⟩)))))))
  · exact rn_xV0 ho (rn_k0 (rn_yV0 ho (rn_k1 ⟨rfl, J⟩)))
theorem i_vc_entails {k : Nat} {u : SX} {v : SY} (I : i_Rel k u v) (hk : k + 5 ≤ 2561) (v1 : Int32) (v2 : Int32) (v3 : Int32) (v4 : Int32) : wpX_entails (fun r => wpY_entails (fun r' => r' = r ∧ i_Rel (k + 5) u v) v v1 v2 v3 v4) u v1 v2 v3 v4 := by
  have J : i_Rel (k + 5) u v := I
  obtain ⟨n, c, T, R, X, Y, Z, A, rfl, rfl, hn, hc, hR⟩ := I
  unfold wpX_entails wpY_entails
  dsimp only
  rcases rn_io 6 (by decide) v1 with ⟨j, hj, rfl⟩ | ho
  · by_cases h3 : (∃ j : Nat, j < n ∧ v2 = nI j) ∧ (∃ j : Nat, j < n ∧ v3 = nI j) ∧ (∃ j : Nat, j < n ∧ v4 = nI j)
    · obtain ⟨⟨a, ha, rfl⟩, ⟨b, hb, rfl⟩, ⟨d, hd, rfl⟩⟩ := h3
      have hv : vp_in (nI j) 6 := vp_in_nI hj (by decide)
      obtain ⟨r, hX, hY⟩ := rn_ent (r0 := nI j) (x := nI a) (y := nI b) (z := nI d) hv (T := T) (X := X) (Y := Y) (Z := Z) (A := A) hn hc hR (2 ^ n) 0 (by omega)
      exact rn_xR1 hj (rn_k1 (rn_xA1 hn ha hb hd (rn_k1 ⟨2 ^ n + 1, hX _ (rn_yR1 hj (rn_k0 (rn_y31 hn ha hb hd ⟨2 ^ n + 1, hY _ ⟨rfl, J⟩⟩)))⟩)))
    · exact rn_xR1 hj (rn_k1 (rn_xA0 hn h3 (rn_k0 (rn_yR1 hj (rn_k0 (rn_y30 hn h3 ⟨rfl, J⟩))))))
  · exact rn_xR0 ho (rn_k0 (rn_yR0 ho (rn_k1 ⟨rfl, J⟩)))
theorem i_vc_redundant {k : Nat} {u : SX} {v : SY} (I : i_Rel k u v) (hk : k + 5 ≤ 2561) (v1 : Int32) : wpX_redundant (fun r => wpY_redundant (fun r' => r' = r ∧ i_Rel (k + 5) u v) v v1) u v1 := by
  have J : i_Rel (k + 5) u v := I
  obtain ⟨n, c, T, R, X, Y, Z, A, rfl, rfl, hn, hc, hR⟩ := I
  unfold wpX_redundant wpY_redundant
  dsimp only
  rcases rn_io c (by omega) v1 with ⟨j, hj, rfl⟩ | ho
  · obtain ⟨r, hX, hY⟩ := rn_red hj (T := T) (X := X) (Y := Y) (Z := Z) (A := A) hn hc hR (2 ^ n) 0 (by omega)
    exact rn_xP1 hc hj (rn_k1 ⟨2 ^ n + 1, hX _ (rn_yP1 hc hj (rn_k0 ⟨2 ^ n + 1, hY _ ⟨rfl, J⟩⟩))⟩)
  · exact rn_xP0 ho (rn_k0 (rn_yP0 ho (rn_k1 ⟨rfl, J⟩)))
