/-! the traits: the component's nested loops and the reference's 512 rounds against the same seven flags -/
theorem rn_3t {T : Int32} {post : Int32 → Prop} {s t u : Nat} (h1 : rn_mb T s → rn_mb T t → rn_mb T u → post 1) (h0 : ¬ (rn_mb T s ∧ rn_mb T t ∧ rn_mb T u) → post 0) : wpX_hasAllThree post T (nI s) (nI t) (nI u) :=
  br_c (fun a => rn_k1 (br_c (fun b => rn_k1 (br_c (fun d => rn_k1 (h1 a b d)) (fun d => rn_k0 (h0 fun z => d z.2.2)))) (fun b => rn_k0 (h0 fun z => b z.2.1)))) (fun a => rn_k0 (h0 fun z => a z.1))
theorem rn_eM (s t u : Nat) : ((nI s &&& nI t) ||| (nI s &&& nI u)) ||| (nI t &&& nI u) = nI (rn_fM s t u) := by
  rw [nx_and, nx_and, nx_and, rn_or, rn_or]
  rfl
theorem rn_eP (s t u : Nat) : (nI s ^^^ nI t) ^^^ nI u = nI (rn_fP s t u) := by
  rw [nx_xor, nx_xor]
  rfl
theorem rn_Meet_i {T : Int32} {post J : Int32 → Prop} {s : Nat} (hs : s < 8) (hJ : (∀ t, t < 8 → rn_mb T s → rn_mb T t → rn_mb T (rn_fA s t)) → J (nI (s + 1))) (h0 : ¬ rn_c2 (rn_mb T) rn_fA → post 0) :
    ∀ d t, t + d = 8 → (∀ k, k < t → rn_mb T s → rn_mb T k → rn_mb T (rn_fA s k)) → wX_isMeetClosed_10 post J T (nI s) (d + 1) (nI t) := by
  intro d
  induction d with
  | zero => exact fun t ht ok => br_t (nI_le (a := 8) (by omega) (by omega)) (nm_r (nI_1 s) (hJ fun k hk => ok k (by omega)))
  | succ d ih =>
    intro t ht ok
    have go : (rn_mb T s → rn_mb T t → rn_mb T (rn_fA s t)) → ∀ x, x = nI t + 1 → wX_isMeetClosed_10 post J T (nI s) (d + 1) x :=
      fun hx => nm_r (nI_1 t) (ih (t + 1) (by omega) (lt_s ok hx))
    have e : nI s &&& nI t = nI (rn_fA s t) := nx_and s t
    refine br_f (nI_ge (b := 8) (by omega) (by decide)) (br_c (fun a => rn_k1 (br_c (fun b => rn_k1 ?_) (fun b => rn_k0 (go fun _ z => absurd z b)))) (fun a => rn_k0 (go fun z => absurd z a)))
    rw [e]
    exact br_c (fun m => rn_k1 (go fun _ _ => m)) (fun m => rn_k0 (h0 fun all => m (all s hs t (by omega) a b)))
theorem rn_Meet_o {T : Int32} {post : Int32 → Prop} (h1 : rn_c2 (rn_mb T) rn_fA → post 1) (h0 : ¬ rn_c2 (rn_mb T) rn_fA → post 0) :
    ∀ d s, s + d = 8 → (∀ k, k < s → ∀ t, t < 8 → rn_mb T k → rn_mb T t → rn_mb T (rn_fA k t)) → wX_isMeetClosed_2 post T (d + 1) (nI s) := by
  intro d
  induction d with
  | zero => exact fun s hs ok => br_t (nI_le (a := 8) (by omega) (by omega)) (h1 fun k hk => ok k (by omega))
  | succ d ih =>
    intro s hs ok
    exact br_f (nI_ge (b := 8) (by omega) (by decide)) ⟨9, rn_Meet_i (by omega) (fun hx => ih (s + 1) (by omega) (lt_s ok hx)) h0 8 0 (by omega) lt_0⟩
theorem rn_Meet {T : Int32} {post : Int32 → Prop} (h1 : rn_c2 (rn_mb T) rn_fA → post 1) (h0 : ¬ rn_c2 (rn_mb T) rn_fA → post 0) : wpX_isMeetClosed post T :=
  ⟨9, rn_Meet_o h1 h0 8 0 (by omega) lt_0⟩
theorem rn_Join_i {T : Int32} {post J : Int32 → Prop} {s : Nat} (hs : s < 8) (hJ : (∀ t, t < 8 → rn_mb T s → rn_mb T t → rn_mb T (rn_fO s t)) → J (nI (s + 1))) (h0 : ¬ rn_c2 (rn_mb T) rn_fO → post 0) :
    ∀ d t, t + d = 8 → (∀ k, k < t → rn_mb T s → rn_mb T k → rn_mb T (rn_fO s k)) → wX_isJoinClosed_10 post J T (nI s) (d + 1) (nI t) := by
  intro d
  induction d with
  | zero => exact fun t ht ok => br_t (nI_le (a := 8) (by omega) (by omega)) (nm_r (nI_1 s) (hJ fun k hk => ok k (by omega)))
  | succ d ih =>
    intro t ht ok
    have go : (rn_mb T s → rn_mb T t → rn_mb T (rn_fO s t)) → ∀ x, x = nI t + 1 → wX_isJoinClosed_10 post J T (nI s) (d + 1) x :=
      fun hx => nm_r (nI_1 t) (ih (t + 1) (by omega) (lt_s ok hx))
    have e : nI s ||| nI t = nI (rn_fO s t) := rn_or s t
    refine br_f (nI_ge (b := 8) (by omega) (by decide)) (br_c (fun a => rn_k1 (br_c (fun b => rn_k1 ?_) (fun b => rn_k0 (go fun _ z => absurd z b)))) (fun a => rn_k0 (go fun z => absurd z a)))
    rw [e]
    exact br_c (fun m => rn_k1 (go fun _ _ => m)) (fun m => rn_k0 (h0 fun all => m (all s hs t (by omega) a b)))
theorem rn_Join_o {T : Int32} {post : Int32 → Prop} (h1 : rn_c2 (rn_mb T) rn_fO → post 1) (h0 : ¬ rn_c2 (rn_mb T) rn_fO → post 0) :
    ∀ d s, s + d = 8 → (∀ k, k < s → ∀ t, t < 8 → rn_mb T k → rn_mb T t → rn_mb T (rn_fO k t)) → wX_isJoinClosed_2 post T (d + 1) (nI s) := by
  intro d
  induction d with
  | zero => exact fun s hs ok => br_t (nI_le (a := 8) (by omega) (by omega)) (h1 fun k hk => ok k (by omega))
  | succ d ih =>
    intro s hs ok
    exact br_f (nI_ge (b := 8) (by omega) (by decide)) ⟨9, rn_Join_i (by omega) (fun hx => ih (s + 1) (by omega) (lt_s ok hx)) h0 8 0 (by omega) lt_0⟩
theorem rn_Join {T : Int32} {post : Int32 → Prop} (h1 : rn_c2 (rn_mb T) rn_fO → post 1) (h0 : ¬ rn_c2 (rn_mb T) rn_fO → post 0) : wpX_isJoinClosed post T :=
  ⟨9, rn_Join_o h1 h0 8 0 (by omega) lt_0⟩
theorem rn_Majority_i {T : Int32} {post J K : Int32 → Prop} {s t : Nat} (hs : s < 8) (ht : t < 8) (hJ : (∀ u, u < 8 → rn_mb T s → rn_mb T t → rn_mb T u → rn_mb T (rn_fM s t u)) → K (nI (t + 1))) (h0 : ¬ rn_c3 (rn_mb T) rn_fM → post 0) :
    ∀ d u, u + d = 8 → (∀ k, k < u → rn_mb T s → rn_mb T t → rn_mb T k → rn_mb T (rn_fM s t k)) → wX_isMajorityClosed_18 post J K T (nI s) (nI t) (d + 1) (nI u) := by
  intro d
  induction d with
  | zero => exact fun u hu ok => br_t (nI_le (a := 8) (by omega) (by omega)) (nm_r (nI_1 t) (hJ fun k hk => ok k (by omega)))
  | succ d ih =>
    intro u hu ok
    have go : (rn_mb T s → rn_mb T t → rn_mb T u → rn_mb T (rn_fM s t u)) → ∀ x, x = nI u + 1 → wX_isMajorityClosed_18 post J K T (nI s) (nI t) (d + 1) x :=
      fun hx => nm_r (nI_1 u) (ih (u + 1) (by omega) (lt_s ok hx))
    exact br_f (nI_ge (b := 8) (by omega) (by decide)) (nm_r (rn_eM s t u) (rn_3t (fun a b d => rn_k1 (br_c (fun m => rn_k1 (go fun _ _ _ => m)) (fun m => rn_k0 (h0 fun all => m (all s hs t ht u (by omega) a b d))))) (fun z => rn_k0 (go fun a b d => absurd ⟨a, b, d⟩ z))))
theorem rn_Majority_m {T : Int32} {post J : Int32 → Prop} {s : Nat} (hs : s < 8) (hJ : (∀ t, t < 8 → ∀ u, u < 8 → rn_mb T s → rn_mb T t → rn_mb T u → rn_mb T (rn_fM s t u)) → J (nI (s + 1))) (h0 : ¬ rn_c3 (rn_mb T) rn_fM → post 0) :
    ∀ d t, t + d = 8 → (∀ k, k < t → ∀ u, u < 8 → rn_mb T s → rn_mb T k → rn_mb T u → rn_mb T (rn_fM s k u)) → wX_isMajorityClosed_10 post J T (nI s) (d + 1) (nI t) := by
  intro d
  induction d with
  | zero => exact fun t ht ok => br_t (nI_le (a := 8) (by omega) (by omega)) (nm_r (nI_1 s) (hJ fun k hk => ok k (by omega)))
  | succ d ih =>
    intro t ht ok
    exact br_f (nI_ge (b := 8) (by omega) (by decide)) ⟨9, rn_Majority_i hs (by omega) (fun hx => ih (t + 1) (by omega) (lt_s ok hx)) h0 8 0 (by omega) lt_0⟩
theorem rn_Majority_o {T : Int32} {post : Int32 → Prop} (h1 : rn_c3 (rn_mb T) rn_fM → post 1) (h0 : ¬ rn_c3 (rn_mb T) rn_fM → post 0) :
    ∀ d s, s + d = 8 → (∀ k, k < s → ∀ t, t < 8 → ∀ u, u < 8 → rn_mb T k → rn_mb T t → rn_mb T u → rn_mb T (rn_fM k t u)) → wX_isMajorityClosed_2 post T (d + 1) (nI s) := by
  intro d
  induction d with
  | zero => exact fun s hs ok => br_t (nI_le (a := 8) (by omega) (by omega)) (h1 fun k hk => ok k (by omega))
  | succ d ih =>
    intro s hs ok
    exact br_f (nI_ge (b := 8) (by omega) (by decide)) ⟨9, rn_Majority_m (by omega) (fun hx => ih (s + 1) (by omega) (lt_s ok hx)) h0 8 0 (by omega) lt_0⟩
theorem rn_Majority {T : Int32} {post : Int32 → Prop} (h1 : rn_c3 (rn_mb T) rn_fM → post 1) (h0 : ¬ rn_c3 (rn_mb T) rn_fM → post 0) : wpX_isMajorityClosed post T :=
  ⟨9, rn_Majority_o h1 h0 8 0 (by omega) lt_0⟩
theorem rn_Parity_i {T : Int32} {post J K : Int32 → Prop} {s t : Nat} (hs : s < 8) (ht : t < 8) (hJ : (∀ u, u < 8 → rn_mb T s → rn_mb T t → rn_mb T u → rn_mb T (rn_fP s t u)) → K (nI (t + 1))) (h0 : ¬ rn_c3 (rn_mb T) rn_fP → post 0) :
    ∀ d u, u + d = 8 → (∀ k, k < u → rn_mb T s → rn_mb T t → rn_mb T k → rn_mb T (rn_fP s t k)) → wX_isParityClosed_18 post J K T (nI s) (nI t) (d + 1) (nI u) := by
  intro d
  induction d with
  | zero => exact fun u hu ok => br_t (nI_le (a := 8) (by omega) (by omega)) (nm_r (nI_1 t) (hJ fun k hk => ok k (by omega)))
  | succ d ih =>
    intro u hu ok
    have go : (rn_mb T s → rn_mb T t → rn_mb T u → rn_mb T (rn_fP s t u)) → ∀ x, x = nI u + 1 → wX_isParityClosed_18 post J K T (nI s) (nI t) (d + 1) x :=
      fun hx => nm_r (nI_1 u) (ih (u + 1) (by omega) (lt_s ok hx))
    exact br_f (nI_ge (b := 8) (by omega) (by decide)) (nm_r (rn_eP s t u) (rn_3t (fun a b d => rn_k1 (br_c (fun m => rn_k1 (go fun _ _ _ => m)) (fun m => rn_k0 (h0 fun all => m (all s hs t ht u (by omega) a b d))))) (fun z => rn_k0 (go fun a b d => absurd ⟨a, b, d⟩ z))))
theorem rn_Parity_m {T : Int32} {post J : Int32 → Prop} {s : Nat} (hs : s < 8) (hJ : (∀ t, t < 8 → ∀ u, u < 8 → rn_mb T s → rn_mb T t → rn_mb T u → rn_mb T (rn_fP s t u)) → J (nI (s + 1))) (h0 : ¬ rn_c3 (rn_mb T) rn_fP → post 0) :
    ∀ d t, t + d = 8 → (∀ k, k < t → ∀ u, u < 8 → rn_mb T s → rn_mb T k → rn_mb T u → rn_mb T (rn_fP s k u)) → wX_isParityClosed_10 post J T (nI s) (d + 1) (nI t) := by
  intro d
  induction d with
  | zero => exact fun t ht ok => br_t (nI_le (a := 8) (by omega) (by omega)) (nm_r (nI_1 s) (hJ fun k hk => ok k (by omega)))
  | succ d ih =>
    intro t ht ok
    exact br_f (nI_ge (b := 8) (by omega) (by decide)) ⟨9, rn_Parity_i hs (by omega) (fun hx => ih (t + 1) (by omega) (lt_s ok hx)) h0 8 0 (by omega) lt_0⟩
theorem rn_Parity_o {T : Int32} {post : Int32 → Prop} (h1 : rn_c3 (rn_mb T) rn_fP → post 1) (h0 : ¬ rn_c3 (rn_mb T) rn_fP → post 0) :
    ∀ d s, s + d = 8 → (∀ k, k < s → ∀ t, t < 8 → ∀ u, u < 8 → rn_mb T k → rn_mb T t → rn_mb T u → rn_mb T (rn_fP k t u)) → wX_isParityClosed_2 post T (d + 1) (nI s) := by
  intro d
  induction d with
  | zero => exact fun s hs ok => br_t (nI_le (a := 8) (by omega) (by omega)) (h1 fun k hk => ok k (by omega))
  | succ d ih =>
    intro s hs ok
    exact br_f (nI_ge (b := 8) (by omega) (by decide)) ⟨9, rn_Parity_m (by omega) (fun hx => ih (s + 1) (by omega) (lt_s ok hx)) h0 8 0 (by omega) lt_0⟩
theorem rn_Parity {T : Int32} {post : Int32 → Prop} (h1 : rn_c3 (rn_mb T) rn_fP → post 1) (h0 : ¬ rn_c3 (rn_mb T) rn_fP → post 0) : wpX_isParityClosed post T :=
  ⟨9, rn_Parity_o h1 h0 8 0 (by omega) lt_0⟩
theorem rn_Flip_o {T : Int32} {post : Int32 → Prop} (h1 : rn_c1 (rn_mb T) rn_fF → post 1) (h0 : ¬ rn_c1 (rn_mb T) rn_fF → post 0) :
    ∀ d s, s + d = 8 → (∀ k, k < s → rn_mb T k → rn_mb T (rn_fF k)) → wX_isFlipClosed_2 post T (d + 1) (nI s) := by
  intro d
  induction d with
  | zero => exact fun s hs ok => br_t (nI_le (a := 8) (by omega) (by omega)) (h1 fun k hk => ok k (by omega))
  | succ d ih =>
    intro s hs ok
    have go : (rn_mb T s → rn_mb T (rn_fF s)) → ∀ x, x = nI s + 1 → wX_isFlipClosed_2 post T (d + 1) x :=
      fun hx => nm_r (nI_1 s) (ih (s + 1) (by omega) (lt_s ok hx))
    have e : nI s ^^^ 7 = nI (rn_fF s) := nx_xor s 7
    refine br_f (nI_ge (b := 8) (by omega) (by decide)) (br_c (fun a => rn_k1 ?_) (fun a => rn_k0 (go fun z => absurd z a)))
    rw [e]
    exact br_c (fun m => rn_k1 (go fun _ => m)) (fun m => rn_k0 (h0 fun all => m (all s (by omega) a)))
theorem rn_Flip {T : Int32} {post : Int32 → Prop} (h1 : rn_c1 (rn_mb T) rn_fF → post 1) (h0 : ¬ rn_c1 (rn_mb T) rn_fF → post 0) : wpX_isFlipClosed post T :=
  ⟨9, rn_Flip_o h1 h0 8 0 (by omega) lt_0⟩
theorem rn_t65 {T : Int32} {post : Int32 → Prop} {k : Nat} {f : Bool} (hf : f = true ↔ rn_c1 (rn_mb T) rn_fF) (h : post (nI (k + rn_bf f 64))) : wX_traitsOf_65 post T (nI k) := by
  unfold wX_traitsOf_65
  cases f with
  | true => exact rn_Flip (fun _ => rn_k1 (nm_r (nI_add k 64) h)) (fun z => absurd (hf.1 rfl) z)
  | false => exact rn_Flip (fun z => absurd (hf.2 z) (by decide)) (fun _ => rn_k0 h)
theorem rn_t55 {T : Int32} {post : Int32 → Prop} {k : Nat} {f : Bool} (hf : f = true ↔ rn_c3 (rn_mb T) rn_fP) (h : wX_traitsOf_65 post T (nI (k + rn_bf f 32))) : wX_traitsOf_55 post T (nI k) := by
  unfold wX_traitsOf_55
  cases f with
  | true => exact rn_Parity (fun _ => rn_k1 (nm_r (nI_add k 32) h)) (fun z => absurd (hf.1 rfl) z)
  | false => exact rn_Parity (fun z => absurd (hf.2 z) (by decide)) (fun _ => rn_k0 h)
theorem rn_t45 {T : Int32} {post : Int32 → Prop} {k : Nat} {f : Bool} (hf : f = true ↔ rn_c3 (rn_mb T) rn_fM) (h : wX_traitsOf_55 post T (nI (k + rn_bf f 16))) : wX_traitsOf_45 post T (nI k) := by
  unfold wX_traitsOf_45
  cases f with
  | true => exact rn_Majority (fun _ => rn_k1 (nm_r (nI_add k 16) h)) (fun z => absurd (hf.1 rfl) z)
  | false => exact rn_Majority (fun z => absurd (hf.2 z) (by decide)) (fun _ => rn_k0 h)
theorem rn_t35 {T : Int32} {post : Int32 → Prop} {k : Nat} {f : Bool} (hf : f = true ↔ rn_c2 (rn_mb T) rn_fO) (h : wX_traitsOf_45 post T (nI (k + rn_bf f 8))) : wX_traitsOf_35 post T (nI k) := by
  unfold wX_traitsOf_35
  cases f with
  | true => exact rn_Join (fun _ => rn_k1 (nm_r (nI_add k 8) h)) (fun z => absurd (hf.1 rfl) z)
  | false => exact rn_Join (fun z => absurd (hf.2 z) (by decide)) (fun _ => rn_k0 h)
theorem rn_t25 {T : Int32} {post : Int32 → Prop} {k : Nat} {f : Bool} (hf : f = true ↔ rn_c2 (rn_mb T) rn_fA) (h : wX_traitsOf_35 post T (nI (k + rn_bf f 4))) : wX_traitsOf_25 post T (nI k) := by
  unfold wX_traitsOf_25
  cases f with
  | true => exact rn_Meet (fun _ => rn_k1 (nm_r (nI_add k 4) h)) (fun z => absurd (hf.1 rfl) z)
  | false => exact rn_Meet (fun z => absurd (hf.2 z) (by decide)) (fun _ => rn_k0 h)
theorem rn_t13 {T : Int32} {post : Int32 → Prop} {k : Nat} {f : Bool} (hf : f = true ↔ rn_mb T 7) (h : wX_traitsOf_25 post T (nI (k + rn_bf f 2))) : wX_traitsOf_13 post T (nI k) := by
  unfold wX_traitsOf_13
  cases f with
  | true => exact br_t (hf.1 rfl) (rn_k1 (nm_r (nI_add k 2) h))
  | false => exact br_f (fun z => absurd (hf.2 z) (by decide)) (rn_k0 h)
theorem rn_t1 {T : Int32} {post : Int32 → Prop} {f : Bool} (hf : f = true ↔ rn_mb T 0) (h : wX_traitsOf_13 post T (nI (0 + rn_bf f 1))) : wpX_traitsOf post T := by
  unfold wpX_traitsOf
  cases f with
  | true => exact br_t (hf.1 rfl) (rn_k1 (nm_r (nI_add 0 1) h))
  | false => exact br_f (fun z => absurd (hf.2 z) (by decide)) (rn_k0 h)
/-- the seven flags of a table -/
def rn_fl (T : Int32) (z o m j a p f : Bool) : Prop := (z = true ↔ rn_mb T 0) ∧ (o = true ↔ rn_mb T 7) ∧ (m = true ↔ rn_c2 (rn_mb T) rn_fA) ∧ (j = true ↔ rn_c2 (rn_mb T) rn_fO) ∧ (a = true ↔ rn_c3 (rn_mb T) rn_fM) ∧ (p = true ↔ rn_c3 (rn_mb T) rn_fP) ∧ (f = true ↔ rn_c1 (rn_mb T) rn_fF)
theorem rn_flE (T : Int32) : ∃ z o m j a p f : Bool, rn_fl T z o m j a p f := by
  obtain ⟨z, hz⟩ := rn_b (P := rn_mb T 0)
  obtain ⟨o, ho⟩ := rn_b (P := rn_mb T 7)
  obtain ⟨m, hm⟩ := rn_b (P := rn_c2 (rn_mb T) rn_fA)
  obtain ⟨j, hj⟩ := rn_b (P := rn_c2 (rn_mb T) rn_fO)
  obtain ⟨a, ha⟩ := rn_b (P := rn_c3 (rn_mb T) rn_fM)
  obtain ⟨p, hp⟩ := rn_b (P := rn_c3 (rn_mb T) rn_fP)
  obtain ⟨f, hf⟩ := rn_b (P := rn_c1 (rn_mb T) rn_fF)
  exact ⟨z, o, m, j, a, p, f, hz, ho, hm, hj, ha, hp, hf⟩
def rn_sm (z o m j a p f : Bool) : Nat := 0 + rn_bf z 1 + rn_bf o 2 + rn_bf m 4 + rn_bf j 8 + rn_bf a 16 + rn_bf p 32 + rn_bf f 64
theorem rn_xT {T : Int32} {post : Int32 → Prop} {z o m j a p f : Bool} (F : rn_fl T z o m j a p f) (h : post (nI (rn_sm z o m j a p f))) : wpX_traitsOf post T :=
  rn_t1 F.1 (rn_t13 F.2.1 (rn_t25 F.2.2.1 (rn_t35 F.2.2.2.1 (rn_t45 F.2.2.2.2.1 (rn_t55 F.2.2.2.2.2.1 (rn_t65 F.2.2.2.2.2.2 h))))))
section
variable {n c : Nat} {T R X Y Z A : Nat → Int32}
theorem rn_mem {post : Int32 → Prop} {r x : Int32} {B : Int32} (hv : vp_in r 6) (hB : T r.toNatClampNeg = B) {e : Bool} (he : e = true ↔ ((B >>> (x &&& 31)) &&& 1) = 1) (h : post (cond e 1 0)) : wpY_member post (nI n, nI c, T, A, R, X, Y, Z) r x := by
  refine ⟨hv, ?_⟩
  rw [hB]
  cases e with
  | true => exact br_t (he.1 rfl) h
  | false => exact br_f (fun z => absurd (he.2 z) (by decide)) h
theorem rn_y193 {post : Int32 → Prop} {J : Int32 → Int32 → Prop} {r x2 x4 x5 B : Int32} {c1 c2 c3 c4 c5 e : Bool} (hv : vp_in r 6) (hB : T r.toNatClampNeg = B) (he : e = true ↔ ((B >>> ((7 - x5) &&& 31)) &&& 1) = 1) (h : J (nI (rn_bf c1 4 + rn_bf c2 8 + rn_bf c3 16 + rn_bf c4 32 + rn_bf (!e || c5) 64)) (x4 + 1)) : wY_traits_193 post J r x2 (nI (rn_bf c1 4 + rn_bf c2 8 + rn_bf c3 16 + rn_bf c4 32 + rn_bf c5 64)) x4 x5 (nI n) (nI c) T A R X Y Z := by
  unfold wY_traits_193
  refine rn_mem hv hB he ?_
  cases e with
  | true => exact rn_k1 (nm_e h)
  | false => exact rn_k0 (nm_r (rn_or64 c1 c2 c3 c4 c5) (nm_e h))
theorem rn_y172 {post : Int32 → Prop} {J : Int32 → Int32 → Prop} {r x2 x4 x5 x6 x7 B : Int32} {c1 c2 c3 c4 c5 e : Bool} (hv : vp_in r 6) (hB : T r.toNatClampNeg = B) (he : e = true ↔ ((B >>> (((x5 ^^^ x6) ^^^ x7) &&& 31)) &&& 1) = 1) (h : wY_traits_193 post J r x2 (nI (rn_bf c1 4 + rn_bf c2 8 + rn_bf c3 16 + rn_bf (!e || c4) 32 + rn_bf c5 64)) x4 x5 (nI n) (nI c) T A R X Y Z) : wY_traits_172 post J r x2 (nI (rn_bf c1 4 + rn_bf c2 8 + rn_bf c3 16 + rn_bf c4 32 + rn_bf c5 64)) x4 x5 x6 x7 (nI n) (nI c) T A R X Y Z := by
  unfold wY_traits_172
  refine rn_mem hv hB he ?_
  cases e with
  | true => exact rn_k1 (h)
  | false => exact rn_k0 (nm_r (rn_or32 c1 c2 c3 c4 c5) (h))
theorem rn_y142 {post : Int32 → Prop} {J : Int32 → Int32 → Prop} {r x2 x4 x5 x6 x7 B : Int32} {c1 c2 c3 c4 c5 e : Bool} (hv : vp_in r 6) (hB : T r.toNatClampNeg = B) (he : e = true ↔ ((B >>> ((((x5 &&& x6) ||| (x5 &&& x7)) ||| (x6 &&& x7)) &&& 31)) &&& 1) = 1) (h : wY_traits_172 post J r x2 (nI (rn_bf c1 4 + rn_bf c2 8 + rn_bf (!e || c3) 16 + rn_bf c4 32 + rn_bf c5 64)) x4 x5 x6 x7 (nI n) (nI c) T A R X Y Z) : wY_traits_142 post J r x2 (nI (rn_bf c1 4 + rn_bf c2 8 + rn_bf c3 16 + rn_bf c4 32 + rn_bf c5 64)) x4 x5 x6 x7 (nI n) (nI c) T A R X Y Z := by
  unfold wY_traits_142
  refine rn_mem hv hB he ?_
  cases e with
  | true => exact rn_k1 (h)
  | false => exact rn_k0 (nm_r (rn_or16 c1 c2 c3 c4 c5) (h))
theorem rn_y124 {post : Int32 → Prop} {J : Int32 → Int32 → Prop} {r x2 x4 x5 x6 x7 B : Int32} {c1 c2 c3 c4 c5 e : Bool} (hv : vp_in r 6) (hB : T r.toNatClampNeg = B) (he : e = true ↔ ((B >>> ((x5 ||| x6) &&& 31)) &&& 1) = 1) (h : wY_traits_142 post J r x2 (nI (rn_bf c1 4 + rn_bf (!e || c2) 8 + rn_bf c3 16 + rn_bf c4 32 + rn_bf c5 64)) x4 x5 x6 x7 (nI n) (nI c) T A R X Y Z) : wY_traits_124 post J r x2 (nI (rn_bf c1 4 + rn_bf c2 8 + rn_bf c3 16 + rn_bf c4 32 + rn_bf c5 64)) x4 x5 x6 x7 (nI n) (nI c) T A R X Y Z := by
  unfold wY_traits_124
  refine rn_mem hv hB he ?_
  cases e with
  | true => exact rn_k1 (h)
  | false => exact rn_k0 (nm_r (rn_or8 c1 c2 c3 c4 c5) (h))
end
