/-! the reference's traits, and netTraits -/
def rn_gA (s t _ : Nat) : Nat := rn_fA s t
def rn_gO (s t _ : Nat) : Nat := rn_fO s t
def rn_gF (s _ _ : Nat) : Nat := rn_fF s
theorem rn_exS {b : Nat → Prop} {f : Nat → Nat → Nat → Nat} {t : Nat} {c e : Bool} (h3 : b (t % 8) ∧ b (t / 8 % 8) ∧ b (t / 64 % 8)) (he : e = true ↔ b (f (t % 8) (t / 8 % 8) (t / 64 % 8))) (hc : c = true ↔ ∃ k, k < t ∧ rn_ls b f k) : (!e || c) = true ↔ ∃ k, k < t + 1 ∧ rn_ls b f k := by
  cases e with
  | true =>
    show c = true ↔ _
    constructor
    · intro z
      obtain ⟨k, hk, hl⟩ := hc.1 z
      exact ⟨k, by omega, hl⟩
    · rintro ⟨k, hk, hl⟩
      by_cases z : k = t
      · subst z
        exact absurd (he.1 rfl) hl.2
      · exact hc.2 ⟨k, by omega, hl⟩
  | false => exact ⟨fun _ => ⟨t, by omega, h3, fun z => absurd (he.2 z) (by decide)⟩, fun _ => rfl⟩
theorem rn_ex0 {b : Nat → Prop} {f : Nat → Nat → Nat → Nat} {t : Nat} {c : Bool} (h3 : ¬ (b (t % 8) ∧ b (t / 8 % 8) ∧ b (t / 64 % 8))) (hc : c = true ↔ ∃ k, k < t ∧ rn_ls b f k) : c = true ↔ ∃ k, k < t + 1 ∧ rn_ls b f k := by
  constructor
  · intro z
    obtain ⟨k, hk, hl⟩ := hc.1 z
    exact ⟨k, by omega, hl⟩
  · rintro ⟨k, hk, hl⟩
    by_cases z : k = t
    · subst z
      exact absurd hl.1 h3
    · exact hc.2 ⟨k, by omega, hl⟩
theorem rn_cm {b : Nat → Prop} {f : Nat → Nat → Nat → Nat} {c m : Bool} {P : Prop} (hc : c = true ↔ ∃ k, k < 512 ∧ rn_ls b f k) (hm : m = true ↔ P) (hP : rn_c3 b f ↔ P) : c = !m := by
  have h := hc.trans (rn_lk3 b f)
  by_cases hp : P
  · have em : m = true := hm.2 hp
    have ec : c = false := by
      cases c with
      | false => rfl
      | true => exact absurd (hP.2 hp) (h.1 rfl)
    rw [em, ec]
    rfl
  · have em : m = false := by
      cases m with
      | false => rfl
      | true => exact absurd (hm.1 rfl) hp
    have ec : c = true := h.2 (fun z => hp (hP.1 z))
    rw [em, ec]
    rfl
/-- what is lost before the reference's round t -/
def rn_iv (B : Int32) (t : Nat) (c1 c2 c3 c4 c5 : Bool) : Prop := (c1 = true ↔ ∃ k, k < t ∧ rn_ls (rn_mb B) rn_gA k) ∧ (c2 = true ↔ ∃ k, k < t ∧ rn_ls (rn_mb B) rn_gO k) ∧ (c3 = true ↔ ∃ k, k < t ∧ rn_ls (rn_mb B) rn_fM k) ∧ (c4 = true ↔ ∃ k, k < t ∧ rn_ls (rn_mb B) rn_fP k) ∧ (c5 = true ↔ ∃ k, k < t ∧ rn_ls (rn_mb B) rn_gF k)
theorem rn_iv0 {B : Int32} {t : Nat} {c1 c2 c3 c4 c5 : Bool} (h3 : ¬ (rn_mb B (t % 8) ∧ rn_mb B (t / 8 % 8) ∧ rn_mb B (t / 64 % 8))) (I : rn_iv B t c1 c2 c3 c4 c5) : rn_iv B (t + 1) c1 c2 c3 c4 c5 :=
  ⟨rn_ex0 h3 I.1, rn_ex0 h3 I.2.1, rn_ex0 h3 I.2.2.1, rn_ex0 h3 I.2.2.2.1, rn_ex0 h3 I.2.2.2.2⟩
theorem rn_ivz (B : Int32) : rn_iv B 0 false false false false false := by
  have h : ∀ P : Nat → Prop, (false = true ↔ ∃ k, k < 0 ∧ P k) := fun P => ⟨fun z => absurd z (by decide), fun ⟨k, hk, _⟩ => absurd hk (by omega)⟩
  exact ⟨h _, h _, h _, h _, h _⟩
theorem rn_val : ∀ z o m j a p f : Bool, nI (124 + rn_bf z 1 + rn_bf o 2) - nI (rn_bf (!m) 4 + rn_bf (!j) 8 + rn_bf (!a) 16 + rn_bf (!p) 32 + rn_bf (!f) 64) = nI (rn_sm z o m j a p f) := by decide +kernel
theorem rn_e25 : ∀ z : Bool, nI (126 + rn_bf z 1) + (-2) = nI (124 + rn_bf z 1 + rn_bf false 2) := by decide +kernel
theorem rn_e25s : ∀ z : Bool, nI (126 + rn_bf z 1) = nI (124 + rn_bf z 1 + rn_bf true 2) := by decide +kernel
theorem rn_e127 : (127 : Int32) + (-1) = nI (126 + rn_bf false 1) := by decide +kernel
theorem rn_e127s : (127 : Int32) = nI (126 + rn_bf true 1) := by decide +kernel
theorem rn_sA (t : Nat) (ht : t < 512) : nI t &&& 7 = nI (t % 8) := pk_andN (by omega) (m := 7) 3 (by decide)
theorem rn_sB (t : Nat) (ht : t < 512) : (nI t >>> ((3 : Int32) &&& 31)) &&& 7 = nI (t / 8 % 8) := by
  rw [pk_shrN (by omega) _ 3 (by decide)]
  exact pk_andN (by omega) (m := 7) 3 (by decide)
theorem rn_sC (t : Nat) (ht : t < 512) : (nI t >>> ((6 : Int32) &&& 31)) &&& 7 = nI (t / 64 % 8) := by
  rw [pk_shrN (by omega) _ 6 (by decide)]
  exact pk_andN (by omega) (m := 7) 3 (by decide)
section
variable {n c : Nat} {T R X Y Z A : Nat → Int32}
theorem rn_mem1 {post : Int32 → Prop} {r x B : Int32} (hv : vp_in r 6) (hB : T r.toNatClampNeg = B) (hm : ((B >>> (x &&& 31)) &&& 1) = 1) (h : post 1) : wpY_member post (nI n, nI c, T, A, R, X, Y, Z) r x :=
  rn_mem (e := true) hv hB ⟨fun _ => hm, fun _ => rfl⟩ h
theorem rn_mem0 {post : Int32 → Prop} {r x B : Int32} (hv : vp_in r 6) (hB : T r.toNatClampNeg = B) (hm : ¬ ((B >>> (x &&& 31)) &&& 1) = 1) (h : post 0) : wpY_member post (nI n, nI c, T, A, R, X, Y, Z) r x :=
  rn_mem (e := false) hv hB ⟨fun z => absurd z (by decide), fun z => absurd z hm⟩ h
theorem rn_y68 {post : Int32 → Prop} {J : Int32 → Int32 → Prop} {r x2 x4 x5 x6 x7 B : Int32} {c1 c2 c3 c4 c5 e : Bool} (hv : vp_in r 6) (hB : T r.toNatClampNeg = B) (he : e = true ↔ ((B >>> ((x5 &&& x6) &&& 31)) &&& 1) = 1)
    (h : wY_traits_124 post J r x2 (nI (rn_bf (!e || c1) 4 + rn_bf c2 8 + rn_bf c3 16 + rn_bf c4 32 + rn_bf c5 64)) x4 x5 x6 x7 (nI n) (nI c) T A R X Y Z) :
    wpY_member (fun q => (q = 0 → ∀ x3, x3 = nI (rn_bf c1 4 + rn_bf c2 8 + rn_bf c3 16 + rn_bf c4 32 + rn_bf c5 64) ||| 4 → wY_traits_124 post J r x2 x3 x4 x5 x6 x7 (nI n) (nI c) T A R X Y Z) ∧ (¬ q = 0 → wY_traits_124 post J r x2 (nI (rn_bf c1 4 + rn_bf c2 8 + rn_bf c3 16 + rn_bf c4 32 + rn_bf c5 64)) x4 x5 x6 x7 (nI n) (nI c) T A R X Y Z)) (nI n, nI c, T, A, R, X, Y, Z) r (x5 &&& x6) := by
  refine rn_mem hv hB he ?_
  cases e with
  | true => exact rn_k1 h
  | false => exact rn_k0 (nm_r (rn_or4 c1 c2 c3 c4 c5) h)
theorem rn_yTl {post : Int32 → Prop} {r x2 B : Int32} (hv : vp_in r 6) (hB : T r.toNatClampNeg = B) (h : ∀ c1 c2 c3 c4 c5 : Bool, rn_iv B 512 c1 c2 c3 c4 c5 → post (x2 - nI (rn_bf c1 4 + rn_bf c2 8 + rn_bf c3 16 + rn_bf c4 32 + rn_bf c5 64))) :
    ∀ d t, t + d = 512 → ∀ c1 c2 c3 c4 c5 : Bool, rn_iv B t c1 c2 c3 c4 c5 → wY_traits_43 post r x2 (nI n) (nI c) T A R X Y Z (d + 1) (nI (rn_bf c1 4 + rn_bf c2 8 + rn_bf c3 16 + rn_bf c4 32 + rn_bf c5 64)) (nI t) := by
  intro d
  induction d with
  | zero =>
    intro t ht c1 c2 c3 c4 c5 I
    have et : t = 512 := by omega
    subst et
    exact br_t (nI_le (a := 512) (by omega) (by omega)) (h c1 c2 c3 c4 c5 I)
  | succ d ih =>
    intro t ht c1 c2 c3 c4 c5 I
    refine br_f (nI_ge (b := 512) (by omega) (by decide)) (nm_r (rn_sA t (by omega)) (nm_r (rn_sB t (by omega)) (nm_r (rn_sC t (by omega)) ?_)))
    have go0 : ¬ (rn_mb B (t % 8) ∧ rn_mb B (t / 8 % 8) ∧ rn_mb B (t / 64 % 8)) → ∀ x, x = nI t + 1 → wY_traits_43 post r x2 (nI n) (nI c) T A R X Y Z (d + 1) (nI (rn_bf c1 4 + rn_bf c2 8 + rn_bf c3 16 + rn_bf c4 32 + rn_bf c5 64)) x :=
      fun z => nm_r (nI_1 t) (ih (t + 1) (by omega) c1 c2 c3 c4 c5 (rn_iv0 z I))
    by_cases h1 : rn_mb B (t % 8)
    · by_cases h2 : rn_mb B (t / 8 % 8)
      · by_cases h3 : rn_mb B (t / 64 % 8)
        · refine rn_mem1 hv hB h1 (rn_k1 (rn_mem1 hv hB h2 (rn_k1 (rn_mem1 hv hB h3 (rn_k1 ?_)))))
          obtain ⟨e1, g1⟩ := rn_b (P := rn_mb B (rn_fA (t % 8) (t / 8 % 8)))
          obtain ⟨e2, g2⟩ := rn_b (P := rn_mb B (rn_fO (t % 8) (t / 8 % 8)))
          obtain ⟨e3, g3⟩ := rn_b (P := rn_mb B (rn_fM (t % 8) (t / 8 % 8) (t / 64 % 8)))
          obtain ⟨e4, g4⟩ := rn_b (P := rn_mb B (rn_fP (t % 8) (t / 8 % 8) (t / 64 % 8)))
          obtain ⟨e5, g5⟩ := rn_b (P := rn_mb B (rn_fF (t % 8)))
          have q1 : e1 = true ↔ ((B >>> ((nI (t % 8) &&& nI (t / 8 % 8)) &&& 31)) &&& 1) = 1 := by rw [nx_and]; exact g1
          have q2 : e2 = true ↔ ((B >>> ((nI (t % 8) ||| nI (t / 8 % 8)) &&& 31)) &&& 1) = 1 := by rw [rn_or]; exact g2
          have q3 : e3 = true ↔ ((B >>> ((((nI (t % 8) &&& nI (t / 8 % 8)) ||| (nI (t % 8) &&& nI (t / 64 % 8))) ||| (nI (t / 8 % 8) &&& nI (t / 64 % 8))) &&& 31)) &&& 1) = 1 := by rw [rn_eM]; exact g3
          have q4 : e4 = true ↔ ((B >>> (((nI (t % 8) ^^^ nI (t / 8 % 8)) ^^^ nI (t / 64 % 8)) &&& 31)) &&& 1) = 1 := by rw [rn_eP]; exact g4
          have e7 : (7 : Int32) - nI (t % 8) = nI (rn_fF (t % 8)) := by
            have z : (7 : Int32) - nI (t % 8) = nI (7 - t % 8) := pk_sub (a := 7) (by omega)
            rw [z, rn_x7 (t % 8) (by omega)]
            rfl
          have q5 : e5 = true ↔ ((B >>> (((7 : Int32) - nI (t % 8)) &&& 31)) &&& 1) = 1 := by rw [e7]; exact g5
          have b3 := And.intro h1 (And.intro h2 h3)
          refine rn_y68 hv hB q1 (rn_y124 hv hB q2 (rn_y142 hv hB q3 (rn_y172 hv hB q4 (rn_y193 hv hB q5 ?_))))
          rw [nI_1 t]
          exact ih (t + 1) (by omega) _ _ _ _ _ ⟨rn_exS b3 g1 I.1, rn_exS b3 g2 I.2.1, rn_exS b3 g3 I.2.2.1, rn_exS b3 g4 I.2.2.2.1, rn_exS b3 g5 I.2.2.2.2⟩
        · exact rn_mem1 hv hB h1 (rn_k1 (rn_mem1 hv hB h2 (rn_k1 (rn_mem0 hv hB h3 (rn_k0 (go0 fun z => h3 z.2.2))))))
      · exact rn_mem1 hv hB h1 (rn_k1 (rn_mem0 hv hB h2 (rn_k0 (go0 fun z => h2 z.2.1))))
    · exact rn_mem0 hv hB h1 (rn_k0 (go0 fun z => h1 z.1))
theorem rn_y25 {post : Int32 → Prop} {r B : Int32} {z o : Bool} (hv : vp_in r 6) (hB : T r.toNatClampNeg = B) (ho : o = true ↔ rn_mb B 7) (h : ∃ k, wY_traits_43 post r (nI (124 + rn_bf z 1 + rn_bf o 2)) (nI n) (nI c) T A R X Y Z k 0 0) : wY_traits_25 post r (nI (126 + rn_bf z 1)) (nI n) (nI c) T A R X Y Z := by
  unfold wY_traits_25
  refine rn_mem hv hB ho ?_
  cases o with
  | true => rw [rn_e25s z]; exact rn_k1 h
  | false => exact rn_k0 (nm_r (rn_e25 z) h)
theorem rn_yT {post : Int32 → Prop} {r : Int32} {z o m j a p f : Bool} (hr : vp_in r 6) (F : rn_fl (T r.toNatClampNeg) z o m j a p f) (h : post (nI (rn_sm z o m j a p f))) : wpY_traits post (nI n, nI c, T, A, R, X, Y, Z) r := by
  obtain ⟨i, hi, rfl⟩ := vp_in_of hr (by decide)
  obtain ⟨Fz, Fo, Fm, Fj, Fa, Fp, Ff⟩ := F
  have K : ∃ k, wY_traits_43 post (nI i) (nI (124 + rn_bf z 1 + rn_bf o 2)) (nI n) (nI c) T A R X Y Z k 0 0 := by
    refine ⟨512 + 1, rn_yTl hr rfl (fun c1 c2 c3 c4 c5 I => ?_) 512 0 (by omega) false false false false false (rn_ivz _)⟩
    obtain ⟨I1, I2, I3, I4, I5⟩ := I
    rw [rn_cm I1 Fm (rn_c32 _ rn_fA), rn_cm I2 Fj (rn_c32 _ rn_fO), rn_cm I3 Fa Iff.rfl, rn_cm I4 Fp Iff.rfl, rn_cm I5 Ff (rn_c31 _ rn_fF), rn_val]
    exact h
  have K2 := rn_y25 (z := z) hr rfl Fo K
  unfold wpY_traits
  dsimp only
  refine rn_yR1 hi (rn_k0 (rn_mem hr rfl Fz ?_))
  cases z with
  | true => rw [rn_e127s]; exact rn_k1 K2
  | false => exact rn_k0 (nm_r rn_e127 K2)
theorem rn_net (hn : n ≤ 8) (hc : c ≤ 20) (hR : ∀ i, i < c → vp_in (R i) 6) : ∀ d i, i + d = c → ∀ g : Int32, ∃ r : Int32, (∀ post : Int32 → Prop, post r → wX_netTraits_5 post (nI n) (nI (2 ^ n)) (nI c) T R X Y Z A (d + 1) g (nI i)) ∧ (∀ post : Int32 → Prop, post r → wY_netTraits_5 post (nI n) (nI c) T A R X Y Z (d + 1) g (nI i)) := by
  intro d
  induction d with
  | zero =>
    intro i hi g
    have h : nI c ≤ nI i := nI_le (by omega) (by omega)
    exact ⟨g, fun _ hp => br_t h hp, fun _ hp => br_t h hp⟩
  | succ d ih =>
    intro i hi g
    have h : ¬ nI c ≤ nI i := nI_ge (by omega) (by omega)
    have h20 : ¬ (20 : Int32) ≤ nI i := nI_ge (b := 20) (by omega) (by decide)
    have e : (nI i).toNatClampNeg = i := nI_clamp (by omega)
    have hv : vp_in (nI i) 20 := vp_in_nI (by omega) (by decide)
    have hr := hR i (by omega)
    obtain ⟨z, o, m, j, a, p, f, F⟩ := rn_flE (T (R i).toNatClampNeg)
    obtain ⟨r, hX, hY⟩ := ih (i + 1) (by omega) (g &&& nI (rn_sm z o m j a p f))
    refine ⟨r, fun post hp => br_f h ⟨hv, ?_⟩, fun post hp => br_f h (br_f h20 ⟨hv, ?_⟩)⟩
    · rw [e]
      exact ⟨hr, nm_e (rn_xT F (nm_e (nm_r (nI_1 i) (hX post hp))))⟩
    · rw [e]
      exact rn_yT hr F (nm_e (nm_r (nI_1 i) (hY post hp)))
end
