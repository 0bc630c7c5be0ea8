section
theorem pk_us {f : Nat → Int32} {k : Nat} {x : Int32} : upd f k x k = x := if_pos rfl
theorem pk_un {f : Nat → Int32} {k j : Nat} {x : Int32} (h : j ≠ k) : upd f k x j = f j := if_neg h
theorem pk_sub {a b : Nat} (h : b ≤ a) : nI a - nI b = nI (a - b) := by
  obtain ⟨c, rfl⟩ : ∃ c, a = c + b := ⟨a - b, by omega⟩
  rw [← nI_add, Int32.add_sub_cancel, Nat.add_sub_cancel]
theorem pk_m1 (n : Nat) : nI (n + 1) + (-1) = nI n := by
  rw [← nI_1, Int32.add_assoc, show (1 : Int32) + (-1) = 0 from rfl, Int32.add_zero]
theorem pk_mul (a b : Nat) : nI a * nI b = nI (a * b) := (Int32.ofNat_mul a b).symm
theorem pk_ix (x : Int32) {n : Nat} (hn : n < 2 ^ 31) : x < 0 ∨ nI n ≤ x ∨ ∃ j : Nat, j < n ∧ x = nI j := by
  by_cases h : x < 0
  · exact Or.inl h
  · obtain ⟨j, hj, rfl⟩ := nI_of h
    by_cases h2 : j < n
    · exact Or.inr (Or.inr ⟨j, h2, rfl⟩)
    · exact Or.inr (Or.inl (nI_le (by omega) hj))
theorem pk_le {x y : Int32} {A B : Prop} (a b : Nat) (f : a ≤ b → A) (g : b < a → B) (hx : x = nI a := by rfl) (hy : y = nI b := by rfl) (ha : a < 2 ^ 31 := by omega) (hb : b < 2 ^ 31 := by omega) : (x ≤ y → A) ∧ (¬ x ≤ y → B) := by
  subst hx hy
  rw [nI_leI ha hb]
  exact ⟨f, fun z => g (by omega)⟩
theorem pk_lt {x y : Int32} {A B : Prop} (a b : Nat) (f : a < b → A) (g : b ≤ a → B) (hx : x = nI a := by rfl) (hy : y = nI b := by rfl) (ha : a < 2 ^ 31 := by omega) (hb : b < 2 ^ 31 := by omega) : (x < y → A) ∧ (¬ x < y → B) := by
  subst hx hy
  rw [nI_ltI ha hb]
  exact ⟨f, fun z => g (by omega)⟩
theorem pk_eq {x y : Int32} {A B : Prop} (a b : Nat) (f : a = b → A) (g : a ≠ b → B) (hx : x = nI a := by rfl) (hy : y = nI b := by rfl) (ha : a < 2 ^ 31 := by omega) (hb : b < 2 ^ 31 := by omega) : (x = y → A) ∧ (¬ x = y → B) := by
  subst hx hy
  rw [nI_eq ha hb]
  exact ⟨f, g⟩
theorem pk_in {x : Int32} (n N : Nat) (h : n < N) (hx : x = nI n := by rfl) (hN : N < 2 ^ 31 := by omega) : vp_in x N := by
  subst hx
  exact vp_in_nI h hN
theorem pk_cl {x : Int32} (n : Nat) (hx : x = nI n := by rfl) (h : n < 2 ^ 31 := by omega) : x.toNatClampNeg = n := by
  subst hx
  exact nI_clamp h
theorem pk_tn {n : Nat} (h : n < 2 ^ 32) : (nI n).toBitVec.toNat = n := Nat.mod_eq_of_lt h
theorem pk_and (x : Int32) {m : Int32} (k : Nat) (hm : m.toBitVec.toNat = 2 ^ k - 1) : x &&& m = nI (x.toBitVec.toNat % 2 ^ k) := by
  apply Int32.toBitVec_inj.mp
  apply BitVec.eq_of_toNat_eq
  rw [Int32.toBitVec_and, BitVec.toNat_and, hm, Nat.and_two_pow_sub_one_eq_mod]
  show _ = (BitVec.ofNat 32 _).toNat
  rw [BitVec.toNat_ofNat]
  exact (Nat.mod_eq_of_lt (Nat.lt_of_le_of_lt (Nat.mod_le _ _) x.toBitVec.isLt)).symm
theorem pk_andN {n : Nat} (h : n < 2 ^ 32) {m : Int32} (k : Nat) (hm : m.toBitVec.toNat = 2 ^ k - 1) : nI n &&& m = nI (n % 2 ^ k) := by
  rw [pk_and _ k hm, pk_tn h]
theorem pk_shl (a s : Int32) (k : Nat) (hs : (s.toBitVec.smod 32).toNat = k) : (a <<< s).toBitVec.toNat = a.toBitVec.toNat * 2 ^ k % 2 ^ 32 := by
  show (a.toBitVec <<< (s.toBitVec.smod 32).toNat).toNat = _
  rw [hs, BitVec.toNat_shiftLeft, Nat.shiftLeft_eq]
theorem pk_shlN {n : Nat} (s : Int32) (k : Nat) (hs : (s.toBitVec.smod 32).toNat = k) (h : n * 2 ^ k < 2 ^ 32) : nI n <<< s = nI (n * 2 ^ k) := by
  apply Int32.toBitVec_inj.mp
  apply BitVec.eq_of_toNat_eq
  have hn : n < 2 ^ 32 := Nat.lt_of_le_of_lt (Nat.le_mul_of_pos_right n (Nat.two_pow_pos k)) h
  rw [pk_shl _ _ k hs, pk_tn hn, pk_tn h, Nat.mod_eq_of_lt h]
theorem pk_shr (a s : Int32) (k : Nat) (hs : (s.toBitVec.smod 32).toNat = k) : (a >>> s).toInt = a.toInt >>> k := by
  show (a.toBitVec.sshiftRight (s.toBitVec.smod 32).toNat).toInt = _
  rw [hs, BitVec.toInt_sshiftRight]
  rfl
theorem pk_shrN {n : Nat} (h : n < 2 ^ 31) (s : Int32) (k : Nat) (hs : (s.toBitVec.smod 32).toNat = k) : nI n >>> s = nI (n / 2 ^ k) := by
  apply Int32.toInt_inj.mp
  have h2 : n / 2 ^ k ≤ n := Nat.div_le_self _ _
  rw [pk_shr _ _ k hs, nI_toInt h, nI_toInt (by omega), Int.shiftRight_eq_div_pow]
  rfl
theorem pk_loop {σ : Type} (W : Nat → Nat → σ → Prop) (I : Nat → σ → Prop) (e i0 : Nat) (s : σ) (hi : i0 ≤ e) (h0 : I i0 s) (hx : ∀ n s, I e s → W (n + 1) e s)
    (hs : ∀ n i s, i < e → I i s → (∀ s', I (i + 1) s' → W n (i + 1) s') → W (n + 1) i s) : ∃ n, W n i0 s :=
  ⟨e + 1, loop_i W I e hx hs (e + 1) i0 s hi (by omega) h0⟩
theorem pk_loopD {σ : Type} (W : Nat → Nat → σ → Prop) (I : Nat → σ → Prop) (hx : ∀ n s, I 0 s → W (n + 1) 0 s)
    (hs : ∀ n i s, I (i + 1) s → (∀ s', I i s' → W n i s') → W (n + 1) (i + 1) s) : ∀ (e : Nat) (s : σ), I e s → W (e + 1) e s := by
  intro e
  induction e with
  | zero => exact fun s h => hx 0 s h
  | succ e ih => exact fun s h => hs (e + 1) e s h (fun s' h' => ih s' h')
theorem s_l : ∀ n, n < 32 → ((nI n &&& 31).toBitVec.smod 32).toNat = n := by decide +kernel
theorem nx_and (a b : Nat) : nI a &&& nI b = nI (a &&& b) := by
  apply Int32.toBitVec_inj.1
  show BitVec.ofNat 32 a &&& BitVec.ofNat 32 b = BitVec.ofNat 32 (a &&& b)
  apply BitVec.eq_of_getLsbD_eq
  intro i hi
  simp [hi]
theorem nx_xor (a b : Nat) : nI a ^^^ nI b = nI (a ^^^ b) := by
  apply Int32.toBitVec_inj.1
  show BitVec.ofNat 32 a ^^^ BitVec.ofNat 32 b = BitVec.ofNat 32 (a ^^^ b)
  apply BitVec.eq_of_getLsbD_eq
  intro i hi
  simp [hi]
end
section
/-! numbers, membership, the seven traits: nothing of the printed walks -/
theorem rn_or (a b : Nat) : nI a ||| nI b = nI (a ||| b) := by
  apply Int32.toBitVec_inj.1
  show BitVec.ofNat 32 a ||| BitVec.ofNat 32 b = BitVec.ofNat 32 (a ||| b)
  apply BitVec.eq_of_getLsbD_eq
  intro i hi
  simp [hi]
theorem rn_all2 : ∀ n, n < 9 → (1 : Int32) <<< (nI n &&& 31) = nI (2 ^ n) := by decide +kernel
theorem rn_pw : ∀ n, n < 9 → 0 < 2 ^ n ∧ 2 ^ n < 257 := by decide +kernel
theorem rn_b {P : Prop} : ∃ c : Bool, (c = true ↔ P) := by
  by_cases h : P
  · exact ⟨true, by simp [h]⟩
  · exact ⟨false, by simp [h]⟩
theorem rn_ba {a : Nat} {b : Nat} (ha : a < 8) (hb : b < 8) : a &&& b < 8 := Nat.and_lt_two_pow (n := 3) a hb
theorem rn_bo {a : Nat} {b : Nat} (ha : a < 8) (hb : b < 8) : a ||| b < 8 := Nat.or_lt_two_pow (n := 3) ha hb
theorem rn_bx {a : Nat} {b : Nat} (ha : a < 8) (hb : b < 8) : a ^^^ b < 8 := Nat.xor_lt_two_pow (n := 3) ha hb
/-- the triple t belongs to the table T -/
def rn_mb (T : Int32) (t : Nat) : Prop := (T >>> (nI t &&& 31)) &&& 1 = 1
def rn_c2 (b : Nat → Prop) (f : Nat → Nat → Nat) : Prop := ∀ s, s < 8 → ∀ t, t < 8 → b s → b t → b (f s t)
def rn_c3 (b : Nat → Prop) (f : Nat → Nat → Nat → Nat) : Prop := ∀ s, s < 8 → ∀ t, t < 8 → ∀ u, u < 8 → b s → b t → b u → b (f s t u)
def rn_c1 (b : Nat → Prop) (f : Nat → Nat) : Prop := ∀ t, t < 8 → b t → b (f t)
def rn_fA (s t : Nat) : Nat := s &&& t
def rn_fO (s t : Nat) : Nat := s ||| t
def rn_fM (s t u : Nat) : Nat := ((s &&& t) ||| (s &&& u)) ||| (t &&& u)
def rn_fP (s t u : Nat) : Nat := (s ^^^ t) ^^^ u
def rn_fF (t : Nat) : Nat := t ^^^ 7
/-- the reference's number t below 512 is a triple of triples that f leads out of the relation -/
def rn_ls (b : Nat → Prop) (f : Nat → Nat → Nat → Nat) (t : Nat) : Prop := (b (t % 8) ∧ b (t / 8 % 8) ∧ b (t / 64 % 8)) ∧ ¬ b (f (t % 8) (t / 8 % 8) (t / 64 % 8))
theorem rn_lk3 (b : Nat → Prop) (f : Nat → Nat → Nat → Nat) : (∃ t, t < 512 ∧ rn_ls b f t) ↔ ¬ rn_c3 b f := by
  constructor
  · rintro ⟨t, ht, ⟨h1, h2, h3⟩, h4⟩ h
    exact h4 (h _ (by omega) _ (by omega) _ (by omega) h1 h2 h3)
  · intro h
    apply Classical.byContradiction
    intro hn
    apply h
    intro s hs t ht u hu bs bt bu
    apply Classical.byContradiction
    intro hb
    apply hn
    refine ⟨s + 8 * t + 64 * u, by omega, ?_⟩
    have e1 : (s + 8 * t + 64 * u) % 8 = s := by omega
    have e2 : (s + 8 * t + 64 * u) / 8 % 8 = t := by omega
    have e3 : (s + 8 * t + 64 * u) / 64 % 8 = u := by omega
    unfold rn_ls
    rw [e1, e2, e3]
    exact ⟨⟨bs, bt, bu⟩, hb⟩
theorem rn_c32 (b : Nat → Prop) (f : Nat → Nat → Nat) : rn_c3 b (fun s t _ => f s t) ↔ rn_c2 b f :=
  ⟨fun h s hs t ht bs bt => h s hs t ht t ht bs bt bt, fun h s hs t ht _ _ bs bt _ => h s hs t ht bs bt⟩
theorem rn_c31 (b : Nat → Prop) (f : Nat → Nat) : rn_c3 b (fun s _ _ => f s) ↔ rn_c1 b f :=
  ⟨fun h s hs bs => h s hs s hs s hs bs bs bs, fun h s hs _ _ _ _ bs _ _ => h s hs bs⟩
theorem rn_x7 : ∀ t, t < 8 → 7 - t = t ^^^ 7 := by decide
/-- a flag's worth -/
def rn_bf (c : Bool) (k : Nat) : Nat := cond c k 0
theorem rn_or4 : ∀ c1 c2 c3 c4 c5 : Bool, nI (rn_bf c1 4 + rn_bf c2 8 + rn_bf c3 16 + rn_bf c4 32 + rn_bf c5 64) ||| 4 = nI (rn_bf true 4 + rn_bf c2 8 + rn_bf c3 16 + rn_bf c4 32 + rn_bf c5 64) := by decide +kernel
theorem rn_or8 : ∀ c1 c2 c3 c4 c5 : Bool, nI (rn_bf c1 4 + rn_bf c2 8 + rn_bf c3 16 + rn_bf c4 32 + rn_bf c5 64) ||| 8 = nI (rn_bf c1 4 + rn_bf true 8 + rn_bf c3 16 + rn_bf c4 32 + rn_bf c5 64) := by decide +kernel
theorem rn_or16 : ∀ c1 c2 c3 c4 c5 : Bool, nI (rn_bf c1 4 + rn_bf c2 8 + rn_bf c3 16 + rn_bf c4 32 + rn_bf c5 64) ||| 16 = nI (rn_bf c1 4 + rn_bf c2 8 + rn_bf true 16 + rn_bf c4 32 + rn_bf c5 64) := by decide +kernel
theorem rn_or32 : ∀ c1 c2 c3 c4 c5 : Bool, nI (rn_bf c1 4 + rn_bf c2 8 + rn_bf c3 16 + rn_bf c4 32 + rn_bf c5 64) ||| 32 = nI (rn_bf c1 4 + rn_bf c2 8 + rn_bf c3 16 + rn_bf true 32 + rn_bf c5 64) := by decide +kernel
theorem rn_or64 : ∀ c1 c2 c3 c4 c5 : Bool, nI (rn_bf c1 4 + rn_bf c2 8 + rn_bf c3 16 + rn_bf c4 32 + rn_bf c5 64) ||| 64 = nI (rn_bf c1 4 + rn_bf c2 8 + rn_bf c3 16 + rn_bf c4 32 + rn_bf true 64) := by decide +kernel
/-- what the reference takes away from 127 leaves what the component adds up -/
theorem rn_bfn (c : Bool) (k : Nat) : rn_bf c k + rn_bf (!c) k = k := by cases c <;> simp [rn_bf]
/-- alwaysZero: the reference's all - 1 - m is the component's m flipped -/
theorem rn_flip : ∀ n m, m < 2 ^ n → 2 ^ n - 1 - m = m ^^^ (2 ^ n - 1) := by
  intro n m hm
  have e : 2 ^ n - 1 - m = 2 ^ n - (m + 1) := by omega
  rw [e]
  apply Nat.eq_of_testBit_eq
  intro i
  rw [Nat.testBit_two_pow_sub_succ hm, Nat.testBit_xor, Nat.testBit_two_pow_sub_one]
  by_cases h : i < n
  · simp [h]
  · have : m.testBit i = false := Nat.testBit_lt_two_pow (Nat.lt_of_lt_of_le hm (Nat.pow_le_pow_right (by decide) (by omega)))
    simp [h, this]
end
section
/-! the relation, the refusals' tests, membership, what a solution is -/
def i_Rel (_ : Nat) (u : SX) (v : SY) : Prop := ∃ (n c : Nat) (T R X Y Z A : Nat → Int32), u = (nI n, nI (2 ^ n), nI c, T, R, X, Y, Z, A) ∧ v = (nI n, nI c, T, A, R, X, Y, Z) ∧ n ≤ 8 ∧ c ≤ 20 ∧ ∀ i, i < c → vp_in (R i) 6
theorem i_up {k : Nat} {u : SX} {v : SY} (h : i_Rel k u v) : i_Rel (k + 5) u v := h
theorem rn_k1 {P Q : Prop} (b : Q) : ((1 : Int32) = 0 → P) ∧ (¬ (1 : Int32) = 0 → Q) := ⟨fun h => absurd h (by decide), fun _ => b⟩
theorem rn_k0 {P Q : Prop} (a : P) : ((0 : Int32) = 0 → P) ∧ (¬ (0 : Int32) = 0 → Q) := ⟨fun _ => a, fun h => absurd rfl h⟩
theorem rn_io (N : Nat) (hN : N < 2 ^ 31) (x : Int32) : (∃ j : Nat, j < N ∧ x = nI j) ∨ (x < 0 ∨ nI N ≤ x) := by
  rcases pk_ix x hN with h | h | h
  · exact Or.inr (Or.inl h)
  · exact Or.inr (Or.inr h)
  · exact Or.inl h
theorem rn_le5 {x : Int32} (h : nI 6 ≤ x) : ¬ x ≤ 5 := by
  rw [Int32.le_iff_toInt_le] at h ⊢
  have h1 : (nI 6).toInt = 6 := by decide
  have h2 : (5 : Int32).toInt = 5 := by decide
  omega
theorem rn_cut {x : Int32} {P Q K : Prop} {N : Nat} (ho : x < 0 ∨ nI N ≤ x) (a : P) (b : nI N ≤ x → Q) (_ : K → K) : (x < 0 → P) ∧ (¬ x < 0 → Q) := by
  by_cases h : x < 0
  · exact br_t h a
  · exact br_f h (b (ho.resolve_left h))
section
variable {n c : Nat} {T R X Y Z A : Nat → Int32}
theorem rn_xR1 {post : Int32 → Prop} {j : Nat} (hj : j < 6) (h : post 1) : wpX_isRelation post (nI n, nI (2 ^ n), nI c, T, R, X, Y, Z, A) (nI j) :=
  br_f (nI_pos (by omega)) (br_f (nI_ge (b := 6) hj (by decide)) h)
theorem rn_xR0 {post : Int32 → Prop} {x : Int32} (ho : x < 0 ∨ nI 6 ≤ x) (h : post 0) : wpX_isRelation post (nI n, nI (2 ^ n), nI c, T, R, X, Y, Z, A) x :=
  rn_cut (K := True) ho h (fun h6 => br_t h6 h) id
theorem rn_yR1 {post : Int32 → Prop} {j : Nat} (hj : j < 6) (h : post 0) : wpY_badRel post (nI n, nI c, T, A, R, X, Y, Z) (nI j) :=
  br_f (nI_pos (by omega)) (br_t (nI_le (b := 5) (by omega) (by decide)) h)
theorem rn_yR0 {post : Int32 → Prop} {x : Int32} (ho : x < 0 ∨ nI 6 ≤ x) (h : post 1) : wpY_badRel post (nI n, nI c, T, A, R, X, Y, Z) x :=
  rn_cut (K := True) ho h (fun h6 => br_f (rn_le5 h6) h) id
theorem rn_xV1 {post : Int32 → Prop} {j : Nat} (hn : n ≤ 8) (hj : j < n) (h : post 1) : wpX_isVariable post (nI n, nI (2 ^ n), nI c, T, R, X, Y, Z, A) (nI j) :=
  br_f (nI_pos (by omega)) (br_f (nI_ge hj (by omega)) h)
theorem rn_xV0 {post : Int32 → Prop} {x : Int32} (ho : x < 0 ∨ nI n ≤ x) (h : post 0) : wpX_isVariable post (nI n, nI (2 ^ n), nI c, T, R, X, Y, Z, A) x :=
  rn_cut (K := True) ho h (fun h6 => br_t h6 h) id
theorem rn_yV1 {post : Int32 → Prop} {j : Nat} (hn : n ≤ 8) (hj : j < n) (h : post 0) : wpY_badVar post (nI n, nI c, T, A, R, X, Y, Z) (nI j) :=
  br_f (nI_pos (by omega)) (br_f (nI_ge hj (by omega)) (br_t (nI_lt (b := 8) (by omega) (by decide)) h))
theorem rn_yV0 {post : Int32 → Prop} {x : Int32} (ho : x < 0 ∨ nI n ≤ x) (h : post 1) : wpY_badVar post (nI n, nI c, T, A, R, X, Y, Z) x :=
  rn_cut (K := True) ho h (fun h6 => br_t h6 h) id
theorem rn_xP1 {post : Int32 → Prop} {j : Nat} (hc : c ≤ 20) (hj : j < c) (h : post 1) : wpX_isPosition post (nI n, nI (2 ^ n), nI c, T, R, X, Y, Z, A) (nI j) :=
  br_f (nI_pos (by omega)) (br_f (nI_ge hj (by omega)) h)
theorem rn_xP0 {post : Int32 → Prop} {x : Int32} (ho : x < 0 ∨ nI c ≤ x) (h : post 0) : wpX_isPosition post (nI n, nI (2 ^ n), nI c, T, R, X, Y, Z, A) x :=
  rn_cut (K := True) ho h (fun h6 => br_t h6 h) id
theorem rn_yP1 {post : Int32 → Prop} {j : Nat} (hc : c ≤ 20) (hj : j < c) (h : post 0) : wpY_badPos post (nI n, nI c, T, A, R, X, Y, Z) (nI j) :=
  br_f (nI_pos (by omega)) (br_f (nI_ge hj (by omega)) (br_t (nI_lt (b := 20) (by omega) (by decide)) h))
theorem rn_yP0 {post : Int32 → Prop} {x : Int32} (ho : x < 0 ∨ nI c ≤ x) (h : post 1) : wpY_badPos post (nI n, nI c, T, A, R, X, Y, Z) x :=
  rn_cut (K := True) ho h (fun h6 => br_t h6 h) id
theorem rn_xA1 {post : Int32 → Prop} {a b d : Nat} (hn : n ≤ 8) (ha : a < n) (hb : b < n) (hd : d < n) (h : post 1) : wpX_areVariables post (nI n, nI (2 ^ n), nI c, T, R, X, Y, Z, A) (nI a) (nI b) (nI d) := by
  unfold wpX_areVariables
  dsimp only
  exact rn_xV1 hn ha (rn_k1 (rn_xV1 hn hb (rn_k1 (rn_xV1 hn hd (rn_k1 h)))))
theorem rn_xA0 {post : Int32 → Prop} {x y z : Int32} (hn : n ≤ 8) (ho : ¬ ((∃ j : Nat, j < n ∧ x = nI j) ∧ (∃ j : Nat, j < n ∧ y = nI j) ∧ (∃ j : Nat, j < n ∧ z = nI j))) (h : post 0) : wpX_areVariables post (nI n, nI (2 ^ n), nI c, T, R, X, Y, Z, A) x y z := by
  unfold wpX_areVariables
  dsimp only
  rcases rn_io n (by omega) x with ⟨a, ha, rfl⟩ | hx
  · rcases rn_io n (by omega) y with ⟨b, hb, rfl⟩ | hy
    · rcases rn_io n (by omega) z with ⟨d, hd, rfl⟩ | hz
      · exact absurd ⟨⟨a, ha, rfl⟩, ⟨b, hb, rfl⟩, ⟨d, hd, rfl⟩⟩ ho
      · exact rn_xV1 hn ha (rn_k1 (rn_xV1 hn hb (rn_k1 (rn_xV0 hz (rn_k0 h)))))
    · exact rn_xV1 hn ha (rn_k1 (rn_xV0 hy (rn_k0 h)))
  · exact rn_xV0 hx (rn_k0 h)
/-- the reference's chain of three tests -/
theorem rn_y31 {K F : Prop} {a b d : Nat} (hn : n ≤ 8) (ha : a < n) (hb : b < n) (hd : d < n) (h : K) :
    wpY_badVar (fun r => (r = 0 → wpY_badVar (fun r => (r = 0 → wpY_badVar (fun r => (r = 0 → K) ∧ (¬ r = 0 → F)) (nI n, nI c, T, A, R, X, Y, Z) (nI d)) ∧ (¬ r = 0 → F)) (nI n, nI c, T, A, R, X, Y, Z) (nI b)) ∧ (¬ r = 0 → F)) (nI n, nI c, T, A, R, X, Y, Z) (nI a) :=
  rn_yV1 hn ha (rn_k0 (rn_yV1 hn hb (rn_k0 (rn_yV1 hn hd (rn_k0 h)))))
theorem rn_y30 {K F : Prop} {x y z : Int32} (hn : n ≤ 8) (ho : ¬ ((∃ j : Nat, j < n ∧ x = nI j) ∧ (∃ j : Nat, j < n ∧ y = nI j) ∧ (∃ j : Nat, j < n ∧ z = nI j))) (h : F) :
    wpY_badVar (fun r => (r = 0 → wpY_badVar (fun r => (r = 0 → wpY_badVar (fun r => (r = 0 → K) ∧ (¬ r = 0 → F)) (nI n, nI c, T, A, R, X, Y, Z) z) ∧ (¬ r = 0 → F)) (nI n, nI c, T, A, R, X, Y, Z) y) ∧ (¬ r = 0 → F)) (nI n, nI c, T, A, R, X, Y, Z) x := by
  rcases rn_io n (by omega) x with ⟨a, ha, rfl⟩ | hx
  · rcases rn_io n (by omega) y with ⟨b, hb, rfl⟩ | hy
    · rcases rn_io n (by omega) z with ⟨d, hd, rfl⟩ | hz
      · exact absurd ⟨⟨a, ha, rfl⟩, ⟨b, hb, rfl⟩, ⟨d, hd, rfl⟩⟩ ho
      · exact rn_yV1 hn ha (rn_k0 (rn_yV1 hn hb (rn_k0 (rn_yV0 hz (rn_k1 h)))))
    · exact rn_yV1 hn ha (rn_k0 (rn_yV0 hy (rn_k1 h)))
  · exact rn_yV0 hx (rn_k1 h)
theorem rn_yall {post : Int32 → Prop} (hn : n ≤ 8) (h : post (nI (2 ^ n))) : wpY_all post (nI n, nI c, T, A, R, X, Y, Z) := by
  show post ((1 : Int32) <<< (nI n &&& 31))
  rw [rn_all2 n (by omega)]
  exact h
end
/-- the number of the triple that m gives to x, y, z; whether it belongs to the table t -/
def rn_tr (m x y z : Int32) : Int32 := ((4 * ((m >>> (x &&& 31)) &&& 1)) + (2 * ((m >>> (y &&& 31)) &&& 1))) + ((m >>> (z &&& 31)) &&& 1)
def rn_mt (t m x y z : Int32) : Prop := ((t >>> (rn_tr m x y z &&& 31)) &&& 1) = 1
def rn_at (T R X Y Z : Nat → Int32) (i : Nat) (m : Int32) : Prop := rn_mt (T (R i).toNatClampNeg) m (X i) (Y i) (Z i)
def rn_ka (n : Nat) (A : Nat → Int32) (m : Int32) : Prop := ∀ v, v < n → A v = 2 ∨ A v = ((m >>> (nI v &&& 31)) &&& 1)
def rn_ma (c : Nat) (T R X Y Z : Nat → Int32) (w m : Int32) : Prop := ∀ i, i < c → nI i = w ∨ rn_at T R X Y Z i m
def rn_sl (n c : Nat) (T R X Y Z A : Nat → Int32) (m : Int32) : Prop := rn_ka n A m ∧ rn_ma c T R X Y Z (-1) m
theorem rn_m1 {j : Nat} (hj : j < 2 ^ 31) : ¬ nI j = -1 := by
  intro h
  have h2 := congrArg Int32.toInt h
  rw [nI_toInt hj, show (-1 : Int32).toInt = -1 from by decide] at h2
  omega
theorem rn_lm1 {j : Nat} (hj : j < 2 ^ 31) : ¬ nI j ≤ -1 := by
  rw [Int32.le_iff_toInt_le, nI_toInt hj, show (-1 : Int32).toInt = -1 from by decide]
  omega
section
variable {n c : Nat} {T R X Y Z A : Nat → Int32}
theorem rn_xM {post : Int32 → Prop} {i : Nat} {m : Int32} (hc : c ≤ 20) (hi : i < c) (hR : vp_in (R i) 6) (h1 : rn_at T R X Y Z i m → post 1) (h0 : ¬ rn_at T R X Y Z i m → post 0) : wpX_isMet post (nI n, nI (2 ^ n), nI c, T, R, X, Y, Z, A) (nI i) m := by
  have e : (nI i).toNatClampNeg = i := nI_clamp (by omega)
  have hv : vp_in (nI i) 20 := vp_in_nI (by omega) (by decide)
  refine ⟨hv, hv, hv, ?_⟩
  show vp_in (nI i) 20 ∧ (vp_in (R (nI i).toNatClampNeg) 6 ∧ _)
  refine ⟨hv, by rw [e]; exact hR, ?_⟩
  rw [e]
  exact br_c (fun h => ⟨rfl, h1 h⟩) (fun h => ⟨rfl, h0 h⟩)
theorem rn_yM {post : Int32 → Prop} {r x y z m : Int32} (hr : vp_in r 6) (h1 : rn_mt (T r.toNatClampNeg) m x y z → post 1) (h0 : ¬ rn_mt (T r.toNatClampNeg) m x y z → post 0) : wpY_met post (nI n, nI c, T, A, R, X, Y, Z) r x y z m :=
  show vp_in r 6 ∧ _ from ⟨hr, br_c (fun h => ⟨rfl, h1 h⟩) (fun h => ⟨rfl, h0 h⟩)⟩
theorem rn_xK_l {post : Int32 → Prop} {m : Int32} (hn : n ≤ 8) (h1 : rn_ka n A m → post 1) (h0 : ¬ rn_ka n A m → post 0) :
    ∀ d v, v + d = n → (∀ j, j < v → A j = 2 ∨ A j = ((m >>> (nI j &&& 31)) &&& 1)) → wX_keepsAssumed_2 post m (nI n) (nI (2 ^ n)) (nI c) T R X Y Z A (d + 1) (nI v) := by
  intro d
  induction d with
  | zero => exact fun v hv ok => br_t (nI_le (by omega) (by omega)) (h1 fun j hj => ok j (by omega))
  | succ d ih =>
    intro v hv ok
    have e : (nI v).toNatClampNeg = v := nI_clamp (by omega)
    have hi : vp_in (nI v) 8 := vp_in_nI (by omega) (by decide)
    have go : (A v = 2 ∨ A v = ((m >>> (nI v &&& 31)) &&& 1)) → wX_keepsAssumed_2 post m (nI n) (nI (2 ^ n)) (nI c) T R X Y Z A (d + 1) (nI (v + 1)) :=
      fun hx => ih (v + 1) (by omega) (lt_s ok hx)
    refine br_f (nI_ge (by omega) (by omega)) ⟨hi, ?_⟩
    rw [e]
    exact br_c (fun z => nm_r (nI_1 v) (go (Or.inl z))) (fun z => ⟨hi, br_c (fun z2 => nm_r (nI_1 v) (go (Or.inr z2))) (fun z2 => h0 fun all => (all v (by omega)).elim z z2)⟩)
theorem rn_xK {post : Int32 → Prop} {m : Int32} (hn : n ≤ 8) (h1 : rn_ka n A m → post 1) (h0 : ¬ rn_ka n A m → post 0) : wpX_keepsAssumed post (nI n, nI (2 ^ n), nI c, T, R, X, Y, Z, A) m :=
  ⟨n + 1, rn_xK_l hn h1 h0 n 0 (by omega) lt_0⟩
theorem rn_xB_l {post : Int32 → Prop} {w m : Int32} (hc : c ≤ 20) (hR : ∀ i, i < c → vp_in (R i) 6) (h1 : rn_ma c T R X Y Z w m → post 1) (h0 : ¬ rn_ma c T R X Y Z w m → post 0) :
    ∀ d i, i + d = c → (∀ j, j < i → nI j = w ∨ rn_at T R X Y Z j m) → wX_meetsAllBut_2 post w m (nI n) (nI (2 ^ n)) (nI c) T R X Y Z A (d + 1) (nI i) := by
  intro d
  induction d with
  | zero => exact fun i hi ok => br_t (nI_le (by omega) (by omega)) (h1 fun j hj => ok j (by omega))
  | succ d ih =>
    intro i hi ok
    have go : (nI i = w ∨ rn_at T R X Y Z i m) → wX_meetsAllBut_2 post w m (nI n) (nI (2 ^ n)) (nI c) T R X Y Z A (d + 1) (nI (i + 1)) :=
      fun hx => ih (i + 1) (by omega) (lt_s ok hx)
    exact br_f (nI_ge (by omega) (by omega)) (br_c (fun z => nm_r (nI_1 i) (go (Or.inl z))) (fun z => rn_xM hc (by omega) (hR i (by omega)) (fun h => rn_k1 (nm_r (nI_1 i) (go (Or.inr h)))) (fun h => rn_k0 (h0 fun all => (all i (by omega)).elim z h))))
theorem rn_xB {post : Int32 → Prop} {w m : Int32} (hc : c ≤ 20) (hR : ∀ i, i < c → vp_in (R i) 6) (h1 : rn_ma c T R X Y Z w m → post 1) (h0 : ¬ rn_ma c T R X Y Z w m → post 0) : wpX_meetsAllBut post (nI n, nI (2 ^ n), nI c, T, R, X, Y, Z, A) w m :=
  ⟨c + 1, rn_xB_l hc hR h1 h0 c 0 (by omega) lt_0⟩
theorem rn_xS {post : Int32 → Prop} {m : Int32} (hn : n ≤ 8) (hc : c ≤ 20) (hR : ∀ i, i < c → vp_in (R i) 6) (h1 : rn_sl n c T R X Y Z A m → post 1) (h0 : ¬ rn_sl n c T R X Y Z A m → post 0) : wpX_isSolution post (nI n, nI (2 ^ n), nI c, T, R, X, Y, Z, A) m :=
  rn_xK (post := fun r => (r = 0 → post 0) ∧ (¬ r = 0 → wpX_meetsAllBut (fun r => (r = 0 → post 0) ∧ (¬ r = 0 → post 1)) (nI n, nI (2 ^ n), nI c, T, R, X, Y, Z, A) (-1) m)) hn (fun a => rn_k1 (rn_xB hc hR (fun b => rn_k1 (h1 ⟨a, b⟩)) (fun b => rn_k0 (h0 fun s => b s.2)))) (fun a => rn_k0 (h0 fun s => a s.1))
theorem rn_yB_l {post : Int32 → Prop} {w m : Int32} (hc : c ≤ 20) (hR : ∀ i, i < c → vp_in (R i) 6) (h1 : rn_ma c T R X Y Z w m → post 1) (h0 : ¬ rn_ma c T R X Y Z w m → post 0) :
    ∀ d i, i + d = c → (∀ j, j < i → nI j = w ∨ rn_at T R X Y Z j m) → wY_solves_51 post m w (nI n) (nI c) T A R X Y Z (d + 1) (nI i) := by
  intro d
  induction d with
  | zero => exact fun i hi ok => br_t (nI_le (by omega) (by omega)) (h1 fun j hj => ok j (by omega))
  | succ d ih =>
    intro i hi ok
    have e : (nI i).toNatClampNeg = i := nI_clamp (by omega)
    have hv : vp_in (nI i) 20 := vp_in_nI (by omega) (by decide)
    have go : (nI i = w ∨ rn_at T R X Y Z i m) → wY_solves_51 post m w (nI n) (nI c) T A R X Y Z (d + 1) (nI (i + 1)) :=
      fun hx => ih (i + 1) (by omega) (lt_s ok hx)
    refine br_f (nI_ge (by omega) (by omega)) (br_f (nI_ge (b := 20) (by omega) (by decide)) (br_c (fun z => nm_r (nI_1 i) (go (Or.inl z))) (fun z => ⟨hv, hv, hv, hv, ?_⟩)))
    rw [e]
    exact rn_yM (hR i (by omega)) (fun h => rn_k1 (nm_r (nI_1 i) (go (Or.inr h)))) (fun h => rn_k0 (h0 fun all => (all i (by omega)).elim z h))
theorem rn_yK_l {post : Int32 → Prop} {w m : Int32} (hn : n ≤ 8) (h1 : rn_ka n A m → ∃ k, wY_solves_51 post m w (nI n) (nI c) T A R X Y Z k 0) (h0 : ¬ rn_ka n A m → post 0) :
    ∀ d v, v + d = n → (∀ j, j < v → A j = 2 ∨ A j = ((m >>> (nI j &&& 31)) &&& 1)) → wY_solves_2 post m w (nI n) (nI c) T A R X Y Z (d + 1) (nI v) := by
  intro d
  induction d with
  | zero => exact fun v hv ok => br_t (nI_le (by omega) (by omega)) (h1 fun j hj => ok j (by omega))
  | succ d ih =>
    intro v hv ok
    have e : (nI v).toNatClampNeg = v := nI_clamp (by omega)
    have hi : vp_in (nI v) 8 := vp_in_nI (by omega) (by decide)
    have go : (A v = 2 ∨ A v = ((m >>> (nI v &&& 31)) &&& 1)) → wY_solves_2 post m w (nI n) (nI c) T A R X Y Z (d + 1) (nI (v + 1)) :=
      fun hx => ih (v + 1) (by omega) (lt_s ok hx)
    refine br_f (nI_ge (by omega) (by omega)) (br_f (nI_ge (b := 8) (by omega) (by decide)) ⟨hi, ?_⟩)
    rw [e]
    exact br_c (fun z => nm_r (nI_1 v) (go (Or.inl z))) (fun z => ⟨hi, br_c (fun z2 => nm_r (nI_1 v) (go (Or.inr z2))) (fun z2 => h0 fun all => (all v (by omega)).elim z z2)⟩)
theorem rn_yW {post : Int32 → Prop} {w m : Int32} (hn : n ≤ 8) (hc : c ≤ 20) (hR : ∀ i, i < c → vp_in (R i) 6) (h1 : rn_ka n A m ∧ rn_ma c T R X Y Z w m → post 1) (h0 : ¬ (rn_ka n A m ∧ rn_ma c T R X Y Z w m) → post 0) : wpY_solves post (nI n, nI c, T, A, R, X, Y, Z) m w :=
  ⟨n + 1, rn_yK_l hn (fun a => ⟨c + 1, rn_yB_l hc hR (fun b => h1 ⟨a, b⟩) (fun b => h0 fun s => b s.2) c 0 (by omega) lt_0⟩) (fun a => h0 fun s => a s.1) n 0 (by omega) lt_0⟩
theorem rn_yS {post : Int32 → Prop} {m : Int32} (hn : n ≤ 8) (hc : c ≤ 20) (hR : ∀ i, i < c → vp_in (R i) 6) (h1 : rn_sl n c T R X Y Z A m → post 1) (h0 : ¬ rn_sl n c T R X Y Z A m → post 0) : wpY_solution post (nI n, nI c, T, A, R, X, Y, Z) m :=
  rn_yW (post := fun r => narrow .boolean (.int r) = .int r ∧ post r) hn hc hR (fun s => ⟨rfl, h1 s⟩) (fun s => ⟨rfl, h0 s⟩)
theorem rn_xS1 {post : Int32 → Prop} {m : Int32} (hn : n ≤ 8) (hc : c ≤ 20) (hR : ∀ i, i < c → vp_in (R i) 6) (s : rn_sl n c T R X Y Z A m) (h : post 1) : wpX_isSolution post (nI n, nI (2 ^ n), nI c, T, R, X, Y, Z, A) m := rn_xS hn hc hR (fun _ => h) (fun z => absurd s z)
theorem rn_xS0 {post : Int32 → Prop} {m : Int32} (hn : n ≤ 8) (hc : c ≤ 20) (hR : ∀ i, i < c → vp_in (R i) 6) (s : ¬ rn_sl n c T R X Y Z A m) (h : post 0) : wpX_isSolution post (nI n, nI (2 ^ n), nI c, T, R, X, Y, Z, A) m := rn_xS hn hc hR (fun z => absurd z s) (fun _ => h)
theorem rn_yS1 {post : Int32 → Prop} {m : Int32} (hn : n ≤ 8) (hc : c ≤ 20) (hR : ∀ i, i < c → vp_in (R i) 6) (s : rn_sl n c T R X Y Z A m) (h : post 1) : wpY_solution post (nI n, nI c, T, A, R, X, Y, Z) m := rn_yS hn hc hR (fun _ => h) (fun z => absurd s z)
theorem rn_yS0 {post : Int32 → Prop} {m : Int32} (hn : n ≤ 8) (hc : c ≤ 20) (hR : ∀ i, i < c → vp_in (R i) 6) (s : ¬ rn_sl n c T R X Y Z A m) (h : post 0) : wpY_solution post (nI n, nI c, T, A, R, X, Y, Z) m := rn_yS hn hc hR (fun z => absurd z s) (fun _ => h)
end
end
section
/-! the loops over the assignments, both sides in lockstep -/
section
variable {n c : Nat} {T R X Y Z A : Nat → Int32}
theorem rn_yle {x : Int32} (hn : n ≤ 8) (h : nI (2 ^ n) ≤ x) : ((1 : Int32) <<< (nI n &&& 31)) ≤ x := by
  rw [rn_all2 n (by omega)]
  exact h
theorem rn_ynl {x : Int32} (hn : n ≤ 8) (h : ¬ nI (2 ^ n) ≤ x) : ¬ ((1 : Int32) <<< (nI n &&& 31)) ≤ x := by
  rw [rn_all2 n (by omega)]
  exact h
theorem rn_solu (hn : n ≤ 8) (hc : c ≤ 20) (hR : ∀ i, i < c → vp_in (R i) 6) : ∀ d m, m + d = 2 ^ n → ∀ f : Int32, ∃ r : Int32, (∀ post : Int32 → Prop, post r → wX_solutions_4 post (nI n) (nI (2 ^ n)) (nI c) T R X Y Z A (d + 1) f (nI m)) ∧ (∀ post : Int32 → Prop, post r → wY_solutions_4 post (nI n) (nI c) T A R X Y Z (d + 1) f (nI m)) := by
  have hN := rn_pw n (by omega)
  intro d
  induction d with
  | zero => exact fun m hm f => ⟨f, fun _ hp => br_t (nI_le (by omega) (by omega)) hp, fun _ hp => (br_t (rn_yle hn (nI_le (by omega) (by omega))) hp)⟩
  | succ d ih =>
    intro m hm f
    have hl : ¬ nI (2 ^ n) ≤ nI m := nI_ge (by omega) (by omega)
    by_cases s : rn_sl n c T R X Y Z A (nI m)
    · obtain ⟨r, hX, hY⟩ := ih (m + 1) (by omega) (f + 1)
      exact ⟨r, fun post hp => br_f hl (rn_xS1 hn hc hR s (rn_k1 (nm_e (nm_r (nI_1 m) (hX post hp))))), fun post hp => (br_f (rn_ynl hn hl) (rn_yS1 hn hc hR s (rn_k1 (nm_e (nm_r (nI_1 m) (hY post hp))))))⟩
    · obtain ⟨r, hX, hY⟩ := ih (m + 1) (by omega) f
      exact ⟨r, fun post hp => br_f hl (rn_xS0 hn hc hR s (rn_k0 (nm_r (nI_1 m) (hX post hp)))), fun post hp => (br_f (rn_ynl hn hl) (rn_yS0 hn hc hR s (rn_k0 (nm_r (nI_1 m) (hY post hp)))))⟩
/-- least and satisfiable: the component asks both of the first solution after -1 -/
theorem rn_first (hn : n ≤ 8) (hc : c ≤ 20) (hR : ∀ i, i < c → vp_in (R i) 6) : ∀ d m, m + d = 2 ^ n → ∃ r q : Int32, ((r < 0 ∧ q = 0) ∨ (¬ r < 0 ∧ q = 1)) ∧ (∀ post : Int32 → Prop, post r → wX_firstSolutionAfter_2 post (-1) (nI n) (nI (2 ^ n)) (nI c) T R X Y Z A (d + 1) (nI m)) ∧ (∀ post : Int32 → Prop, post r → wY_least_2 post (nI n) (nI c) T A R X Y Z (d + 1) (nI m)) ∧ (∀ post : Int32 → Prop, post q → wY_satisfiable_2 post (nI n) (nI c) T A R X Y Z (d + 1) (nI m)) := by
  have hN := rn_pw n (by omega)
  intro d
  induction d with
  | zero => exact fun m hm => ⟨-1, 0, Or.inl ⟨by decide, rfl⟩, fun _ hp => br_t (nI_le (by omega) (by omega)) hp, fun _ hp => (br_t (rn_yle hn (nI_le (by omega) (by omega))) hp), fun _ hp => (br_t (rn_yle hn (nI_le (by omega) (by omega))) hp)⟩
  | succ d ih =>
    intro m hm
    have hl : ¬ nI (2 ^ n) ≤ nI m := nI_ge (by omega) (by omega)
    have hm1 : ¬ nI m ≤ -1 := rn_lm1 (by omega)
    by_cases s : rn_sl n c T R X Y Z A (nI m)
    · exact ⟨nI m, 1, Or.inr ⟨nI_pos (by omega), rfl⟩, fun post hp => br_f hl (br_f hm1 (rn_xS1 hn hc hR s (rn_k1 hp))), fun post hp => (br_f (rn_ynl hn hl) (rn_yS1 hn hc hR s (rn_k1 hp))), fun post hp => (br_f (rn_ynl hn hl) (rn_yS1 hn hc hR s (rn_k1 hp)))⟩
    · obtain ⟨r, q, hq, hX, hY, hZ⟩ := ih (m + 1) (by omega)
      exact ⟨r, q, hq, fun post hp => br_f hl (br_f hm1 (rn_xS0 hn hc hR s (rn_k0 (nm_r (nI_1 m) (hX post hp))))), fun post hp => (br_f (rn_ynl hn hl) (rn_yS0 hn hc hR s (rn_k0 (nm_r (nI_1 m) (hY post hp))))), fun post hp => (br_f (rn_ynl hn hl) (rn_yS0 hn hc hR s (rn_k0 (nm_r (nI_1 m) (hZ post hp)))))⟩
theorem rn_next (a : Int32) (hn : n ≤ 8) (hc : c ≤ 20) (hR : ∀ i, i < c → vp_in (R i) 6) : ∀ d m, m + d = 2 ^ n → ∃ r : Int32, (∀ post : Int32 → Prop, post r → wX_firstSolutionAfter_2 post a (nI n) (nI (2 ^ n)) (nI c) T R X Y Z A (d + 1) (nI m)) ∧ (∀ post : Int32 → Prop, post r → wY_next_2 post a (nI n) (nI c) T A R X Y Z (d + 1) (nI m)) := by
  have hN := rn_pw n (by omega)
  intro d
  induction d with
  | zero => exact fun m hm => ⟨-1, fun _ hp => br_t (nI_le (by omega) (by omega)) hp, fun _ hp => (br_t (rn_yle hn (nI_le (by omega) (by omega))) hp)⟩
  | succ d ih =>
    intro m hm
    have hl : ¬ nI (2 ^ n) ≤ nI m := nI_ge (by omega) (by omega)
    obtain ⟨r, hX, hY⟩ := ih (m + 1) (by omega)
    by_cases ha : nI m ≤ a
    · exact ⟨r, fun post hp => br_f hl (br_t ha (nm_r (nI_1 m) (hX post hp))), fun post hp => (br_f (rn_ynl hn hl) (br_t ha (nm_r (nI_1 m) (hY post hp))))⟩
    · by_cases s : rn_sl n c T R X Y Z A (nI m)
      · exact ⟨nI m, fun post hp => br_f hl (br_f ha (rn_xS1 hn hc hR s (rn_k1 hp))), fun post hp => (br_f (rn_ynl hn hl) (br_f ha (rn_yS1 hn hc hR s (rn_k1 hp))))⟩
      · exact ⟨r, fun post hp => br_f hl (br_f ha (rn_xS0 hn hc hR s (rn_k0 (nm_r (nI_1 m) (hX post hp))))), fun post hp => (br_f (rn_ynl hn hl) (br_f ha (rn_yS0 hn hc hR s (rn_k0 (nm_r (nI_1 m) (hY post hp))))))⟩
theorem rn_poss (x y : Int32) (hn : n ≤ 8) (hc : c ≤ 20) (hR : ∀ i, i < c → vp_in (R i) 6) : ∀ d m, m + d = 2 ^ n → ∃ r : Int32, (∀ post : Int32 → Prop, post r → wX_possible_24 post x y (nI n) (nI (2 ^ n)) (nI c) T R X Y Z A (d + 1) (nI m)) ∧ (∀ post : Int32 → Prop, post r → wY_possible_24 post x y (nI n) (nI c) T A R X Y Z (d + 1) (nI m)) := by
  have hN := rn_pw n (by omega)
  intro d
  induction d with
  | zero => exact fun m hm => ⟨0, fun _ hp => br_t (nI_le (by omega) (by omega)) hp, fun _ hp => (br_t (rn_yle hn (nI_le (by omega) (by omega))) hp)⟩
  | succ d ih =>
    intro m hm
    have hl : ¬ nI (2 ^ n) ≤ nI m := nI_ge (by omega) (by omega)
    obtain ⟨r, hX, hY⟩ := ih (m + 1) (by omega)
    by_cases ha : ((nI m >>> (x &&& 31)) &&& 1) = y
    · by_cases s : rn_sl n c T R X Y Z A (nI m)
      · exact ⟨1, fun post hp => br_f hl (br_t ha (rn_xS1 hn hc hR s (rn_k1 hp))), fun post hp => (br_f (rn_ynl hn hl) (br_t ha (rn_yS1 hn hc hR s (rn_k1 hp))))⟩
      · exact ⟨r, fun post hp => br_f hl (br_t ha (rn_xS0 hn hc hR s (rn_k0 (nm_r (nI_1 m) (hX post hp))))), fun post hp => (br_f (rn_ynl hn hl) (br_t ha (rn_yS0 hn hc hR s (rn_k0 (nm_r (nI_1 m) (hY post hp))))))⟩
    · exact ⟨r, fun post hp => br_f hl (br_f ha (nm_r (nI_1 m) (hX post hp))), fun post hp => (br_f (rn_ynl hn hl) (br_f ha (nm_r (nI_1 m) (hY post hp))))⟩
theorem rn_ones (hn : n ≤ 8) (hc : c ≤ 20) (hR : ∀ i, i < c → vp_in (R i) 6) : ∀ d m, m + d = 2 ^ n → ∀ s f : Int32, ∃ r : Int32, (∀ post : Int32 → Prop, post r → wX_onesInEverySolution_12 post 0 (nI n) (nI (2 ^ n)) (nI c) T R X Y Z A (d + 1) s f (nI m)) ∧ (∀ post : Int32 → Prop, post r → wY_alwaysOne_11 post (nI n) (nI c) T A R X Y Z (d + 1) f s (nI m)) := by
  have hN := rn_pw n (by omega)
  intro d
  induction d with
  | zero =>
    intro m hm s f
    have hl : nI (2 ^ n) ≤ nI m := nI_le (by omega) (by omega)
    by_cases hf : f = 0
    · exact ⟨-1, fun _ hp => br_t hl (br_t hf hp), fun _ hp => (br_t (rn_yle hn hl) (br_t hf hp))⟩
    · exact ⟨s, fun _ hp => br_t hl (br_f hf hp), fun _ hp => (br_t (rn_yle hn hl) (br_f hf hp))⟩
  | succ d ih =>
    intro m hm s f
    have hl : ¬ nI (2 ^ n) ≤ nI m := nI_ge (by omega) (by omega)
    by_cases z : rn_sl n c T R X Y Z A (nI m)
    · obtain ⟨r, hX, hY⟩ := ih (m + 1) (by omega) (s &&& nI m) 1
      have e : s &&& (nI m ^^^ 0) = s &&& nI m := by rw [Int32.xor_zero]
      exact ⟨r, fun post hp => br_f hl (rn_xS1 hn hc hR z (rn_k1 (nm_r e (nm_r (nI_1 m) (hX post hp))))), fun post hp => (br_f (rn_ynl hn hl) (rn_yS1 hn hc hR z (rn_k1 (nm_e (nm_r (nI_1 m) (hY post hp))))))⟩
    · obtain ⟨r, hX, hY⟩ := ih (m + 1) (by omega) s f
      exact ⟨r, fun post hp => br_f hl (rn_xS0 hn hc hR z (rn_k0 (nm_r (nI_1 m) (hX post hp)))), fun post hp => (br_f (rn_ynl hn hl) (rn_yS0 hn hc hR z (rn_k0 (nm_r (nI_1 m) (hY post hp)))))⟩
theorem rn_flI {m : Nat} (hn : n ≤ 8) (hm : m < 2 ^ n) : nI m ^^^ (nI (2 ^ n) - 1) = (nI (2 ^ n) - 1) - nI m := by
  have hN := rn_pw n (by omega)
  have e : nI (2 ^ n) - 1 = nI (2 ^ n - 1) := pk_sub (a := 2 ^ n) (b := 1) (by omega)
  rw [e, nx_xor, pk_sub (by omega), rn_flip n m hm]
theorem rn_zers (hn : n ≤ 8) (hc : c ≤ 20) (hR : ∀ i, i < c → vp_in (R i) 6) : ∀ d m, m + d = 2 ^ n → ∀ s f : Int32, ∃ r : Int32, (∀ post : Int32 → Prop, post r → wX_onesInEverySolution_12 post (nI (2 ^ n) - 1) (nI n) (nI (2 ^ n)) (nI c) T R X Y Z A (d + 1) s f (nI m)) ∧ (∀ post : Int32 → Prop, post r → wY_alwaysZero_11 post (nI n) (nI c) T A R X Y Z (d + 1) f s (nI m)) := by
  have hN := rn_pw n (by omega)
  intro d
  induction d with
  | zero =>
    intro m hm s f
    have hl : nI (2 ^ n) ≤ nI m := nI_le (by omega) (by omega)
    by_cases hf : f = 0
    · exact ⟨-1, fun _ hp => br_t hl (br_t hf hp), fun _ hp => (br_t (rn_yle hn hl) (br_t hf hp))⟩
    · exact ⟨s, fun _ hp => br_t hl (br_f hf hp), fun _ hp => (br_t (rn_yle hn hl) (br_f hf hp))⟩
  | succ d ih =>
    intro m hm s f
    have hl : ¬ nI (2 ^ n) ≤ nI m := nI_ge (by omega) (by omega)
    by_cases z : rn_sl n c T R X Y Z A (nI m)
    · obtain ⟨r, hX, hY⟩ := ih (m + 1) (by omega) (s &&& ((nI (2 ^ n) - 1) - nI m)) 1
      have e : s &&& (nI m ^^^ (nI (2 ^ n) - 1)) = s &&& ((nI (2 ^ n) - 1) - nI m) := by rw [rn_flI hn (by omega)]
      exact ⟨r, fun post hp => br_f hl (rn_xS1 hn hc hR z (rn_k1 (nm_r e (nm_r (nI_1 m) (hX post hp))))), fun post hp => (br_f (rn_ynl hn hl) (rn_yS1 hn hc hR z (rn_k1 (rn_yall hn (nm_e (nm_r (nI_1 m) (hY post hp)))))))⟩
    · obtain ⟨r, hX, hY⟩ := ih (m + 1) (by omega) s f
      exact ⟨r, fun post hp => br_f hl (rn_xS0 hn hc hR z (rn_k0 (nm_r (nI_1 m) (hX post hp)))), fun post hp => (br_f (rn_ynl hn hl) (rn_yS0 hn hc hR z (rn_k0 (nm_r (nI_1 m) (hY post hp)))))⟩
theorem rn_pair (x y : Int32) (hn : n ≤ 8) (hc : c ≤ 20) (hR : ∀ i, i < c → vp_in (R i) 6) : ∀ d m, m + d = 2 ^ n → ∀ f : Int32, ∃ r : Int32, (∀ post : Int32 → Prop, post r → wX_pairs_23 post x y (nI n) (nI (2 ^ n)) (nI c) T R X Y Z A (d + 1) f (nI m)) ∧ (∀ post : Int32 → Prop, post r → wY_pairs_23 post x y (nI n) (nI c) T A R X Y Z (d + 1) f (nI m)) := by
  have hN := rn_pw n (by omega)
  intro d
  induction d with
  | zero => exact fun m hm f => ⟨f, fun _ hp => br_t (nI_le (by omega) (by omega)) hp, fun _ hp => (br_t (rn_yle hn (nI_le (by omega) (by omega))) hp)⟩
  | succ d ih =>
    intro m hm f
    have hl : ¬ nI (2 ^ n) ≤ nI m := nI_ge (by omega) (by omega)
    by_cases s : rn_sl n c T R X Y Z A (nI m)
    · obtain ⟨r, hX, hY⟩ := ih (m + 1) (by omega) (f ||| ((1 : Int32) <<< (((2 * ((nI m >>> (x &&& 31)) &&& 1)) + ((nI m >>> (y &&& 31)) &&& 1)) &&& 31)))
      refine ⟨r, fun post hp => br_f hl (rn_xS1 hn hc hR s (rn_k1 ?_)), fun post hp => (br_f (rn_ynl hn hl) (rn_yS1 hn hc hR s (rn_k1 ?_)))⟩
      · intro p ep
        subst ep
        exact nm_e (nm_r (nI_1 m) (hX post hp))
      · exact nm_e (P := fun q => ∀ b, b = nI m + 1 → wY_pairs_23 post x y (nI n) (nI c) T A R X Y Z (d + 1) q b) (nm_r (nI_1 m) (hY post hp))
    · obtain ⟨r, hX, hY⟩ := ih (m + 1) (by omega) f
      exact ⟨r, fun post hp => br_f hl (rn_xS0 hn hc hR s (rn_k0 (nm_r (nI_1 m) (hX post hp)))), fun post hp => (br_f (rn_ynl hn hl) (rn_yS0 hn hc hR s (rn_k0 (nm_r (nI_1 m) (hY post hp)))))⟩
theorem rn_ent {r0 x y z : Int32} (hr : vp_in r0 6) (hn : n ≤ 8) (hc : c ≤ 20) (hR : ∀ i, i < c → vp_in (R i) 6) : ∀ d m, m + d = 2 ^ n → ∃ r : Int32, (∀ post : Int32 → Prop, post r → wX_entails_27 post r0 x y z (nI n) (nI (2 ^ n)) (nI c) T R X Y Z A (d + 1) (nI m)) ∧ (∀ post : Int32 → Prop, post r → wY_entails_41 post r0 x y z (nI n) (nI c) T A R X Y Z (d + 1) (nI m)) := by
  have hN := rn_pw n (by omega)
  intro d
  induction d with
  | zero => exact fun m hm => ⟨1, fun _ hp => br_t (nI_le (by omega) (by omega)) hp, fun _ hp => (br_t (rn_yle hn (nI_le (by omega) (by omega))) hp)⟩
  | succ d ih =>
    intro m hm
    have hl : ¬ nI (2 ^ n) ≤ nI m := nI_ge (by omega) (by omega)
    obtain ⟨r, hX, hY⟩ := ih (m + 1) (by omega)
    by_cases t : rn_mt (T r0.toNatClampNeg) (nI m) x y z
    · have hX' : ∀ post : Int32 → Prop, post r → wX_entails_27 post r0 x y z (nI n) (nI (2 ^ n)) (nI c) T R X Y Z A (d + 2) (nI m) :=
        fun post hp => br_f hl (And.intro hr (br_t t (rn_k1 (nm_r (nI_1 m) (hX post hp)))))
      by_cases s : rn_sl n c T R X Y Z A (nI m)
      · exact ⟨r, hX', fun post hp => (br_f (rn_ynl hn hl) (rn_yS1 hn hc hR s (rn_k1 (rn_yM hr (fun _ => rn_k1 (nm_r (nI_1 m) (hY post hp))) (fun w => absurd t w)))))⟩
      · exact ⟨r, hX', fun post hp => (br_f (rn_ynl hn hl) (rn_yS0 hn hc hR s (rn_k0 (nm_r (nI_1 m) (hY post hp)))))⟩
    · by_cases s : rn_sl n c T R X Y Z A (nI m)
      · exact ⟨0, fun post hp => br_f hl (And.intro hr (br_f t (rn_k0 (rn_xS1 hn hc hR s (rn_k1 hp))))), fun post hp => (br_f (rn_ynl hn hl) (rn_yS1 hn hc hR s (rn_k1 (rn_yM hr (fun w => absurd w t) (fun _ => rn_k0 hp)))))⟩
      · exact ⟨r, fun post hp => br_f hl (And.intro hr (br_f t (rn_k0 (rn_xS0 hn hc hR s (rn_k0 (nm_r (nI_1 m) (hX post hp))))))), fun post hp => (br_f (rn_ynl hn hl) (rn_yS0 hn hc hR s (rn_k0 (nm_r (nI_1 m) (hY post hp)))))⟩
theorem rn_mai {i : Nat} {m : Int32} (hc : c ≤ 20) (hi : i < c) : rn_ma c T R X Y Z (-1) m ↔ rn_ma c T R X Y Z (nI i) m ∧ rn_at T R X Y Z i m := by
  constructor
  · intro h
    exact ⟨fun j hj => Or.inr ((h j hj).resolve_left (rn_m1 (by omega))), (h i hi).resolve_left (rn_m1 (by omega))⟩
  · rintro ⟨h, hi2⟩ j hj
    rcases h j hj with e | h2
    · rw [nI_eq (by omega) (by omega)] at e
      subst e
      exact Or.inr hi2
    · exact Or.inr h2
theorem rn_red {i : Nat} (hi : i < c) (hn : n ≤ 8) (hc : c ≤ 20) (hR : ∀ i, i < c → vp_in (R i) 6) : ∀ d m, m + d = 2 ^ n → ∃ r : Int32, (∀ post : Int32 → Prop, post r → wX_redundant_12 post (nI i) (nI n) (nI (2 ^ n)) (nI c) T R X Y Z A (d + 1) (nI m)) ∧ (∀ post : Int32 → Prop, post r → wY_redundant_12 post (nI i) (nI n) (nI c) T A R X Y Z (d + 1) (nI m)) := by
  have hN := rn_pw n (by omega)
  intro d
  induction d with
  | zero => exact fun m hm => ⟨1, fun _ hp => br_t (nI_le (by omega) (by omega)) hp, fun _ hp => (br_t (rn_yle hn (nI_le (by omega) (by omega))) hp)⟩
  | succ d ih =>
    intro m hm
    have hl : ¬ nI (2 ^ n) ≤ nI m := nI_ge (by omega) (by omega)
    have q := rn_mai (T := T) (R := R) (X := X) (Y := Y) (Z := Z) (m := nI m) hc hi
    obtain ⟨r, hX, hY⟩ := ih (m + 1) (by omega)
    by_cases kw : rn_ka n A (nI m) ∧ rn_ma c T R X Y Z (nI i) (nI m)
    · by_cases t : rn_at T R X Y Z i (nI m)
      · refine ⟨r, fun post hp => br_f hl (rn_xM hc hi (hR i hi) (fun _ => rn_k1 (nm_r (nI_1 m) (hX post hp))) (fun w => absurd t w)), fun post hp => (br_f (rn_ynl hn hl) ?_)⟩
        exact rn_yW hn hc hR (fun _ => rn_yW hn hc hR (fun _ => br_t rfl (nm_r (nI_1 m) (hY post hp))) (fun w => absurd kw w)) (fun w => absurd ⟨kw.1, q.2 ⟨kw.2, t⟩⟩ w)
      · refine ⟨0, fun post hp => br_f hl (rn_xM hc hi (hR i hi) (fun w => absurd w t) (fun _ => rn_k0 (rn_xK hn (fun _ => rn_k1 (rn_xB hc hR (fun _ => rn_k1 hp) (fun w => absurd kw.2 w))) (fun w => absurd kw.1 w)))), fun post hp => (br_f (rn_ynl hn hl) ?_)⟩
        exact rn_yW hn hc hR (fun w => absurd (q.1 w.2).2 t) (fun _ => rn_yW hn hc hR (fun _ => br_f (by decide) hp) (fun w => absurd kw w))
    · refine ⟨r, fun post hp => br_f hl (rn_xM hc hi (hR i hi) (fun _ => rn_k1 (nm_r (nI_1 m) (hX post hp))) (fun _ => rn_k0 (rn_xK hn (fun a => rn_k1 (rn_xB hc hR (fun b => absurd ⟨a, b⟩ kw) (fun _ => rn_k0 (nm_r (nI_1 m) (hX post hp))))) (fun _ => rn_k0 (nm_r (nI_1 m) (hX post hp)))))), fun post hp => (br_f (rn_ynl hn hl) ?_)⟩
      exact rn_yW hn hc hR (fun w => absurd ⟨w.1, (q.1 w.2).1⟩ kw) (fun _ => rn_yW hn hc hR (fun w => absurd w kw) (fun _ => br_t rfl (nm_r (nI_1 m) (hY post hp))))
end
/-- r is the number of the greatest below N of which S holds, or -1 -/
def rn_gr (S : Int32 → Prop) (N : Nat) (r : Int32) : Prop := (r = -1 ∧ ∀ j, j < N → ¬ S (nI j)) ∨ ∃ j, j < N ∧ r = nI j ∧ S (nI j) ∧ ∀ k, j < k → k < N → ¬ S (nI k)
theorem rn_gru {S : Int32 → Prop} {N : Nat} {r q : Int32} (hr : rn_gr S N r) (hq : rn_gr S N q) : q = r := by
  rcases hr with ⟨rfl, h⟩ | ⟨j, hj, rfl, hs, hg⟩
  · rcases hq with ⟨rfl, _⟩ | ⟨i, hi, _, hs, _⟩
    · rfl
    · exact absurd hs (h i hi)
  · rcases hq with ⟨_, h⟩ | ⟨i, hi, rfl, hs2, hg2⟩
    · exact absurd hs (h j hj)
    · rcases Nat.lt_trichotomy i j with z | z | z
      · exact absurd hs (hg2 j z hj)
      · rw [z]
      · exact absurd hs2 (hg i z hi)
section
variable {n c : Nat} {T R X Y Z A : Nat → Int32}
theorem rn_grX {post : Int32 → Prop} (hn : n ≤ 8) (hc : c ≤ 20) (hR : ∀ i, i < c → vp_in (R i) 6) (h : ∀ r, rn_gr (rn_sl n c T R X Y Z A) (2 ^ n) r → post r) : ∀ d, d ≤ 2 ^ n → (∀ j, d ≤ j → j < 2 ^ n → ¬ rn_sl n c T R X Y Z A (nI j)) → wX_greatest_7 post (nI n) (nI (2 ^ n)) (nI c) T R X Y Z A (d + 1) (nI d - 1) := by
  have hN := rn_pw n (by omega)
  intro d
  induction d with
  | zero => exact fun _ hz => br_t (by decide) (h (-1) (Or.inl ⟨rfl, fun j hj => hz j (by omega) hj⟩))
  | succ d ih =>
    intro hd hz
    have e : nI (d + 1) - 1 = nI d := nI_pred d
    rw [e]
    have e2 : nI d + (-1) = nI d - 1 := (Int32.sub_eq_add_neg _ _).symm
    by_cases s : rn_sl n c T R X Y Z A (nI d)
    · exact br_f (nI_pos (by omega)) (rn_xS1 hn hc hR s (rn_k1 (h (nI d) (Or.inr ⟨d, by omega, rfl, s, fun k hk hkN => hz k (by omega) hkN⟩))))
    · refine br_f (nI_pos (by omega)) (rn_xS0 hn hc hR s (rn_k0 (nm_r e2 (ih (by omega) fun j hj hjN => ?_))))
      by_cases z : j = d
      · rw [z]; exact s
      · exact hz j (by omega) hjN
theorem rn_grY {post : Int32 → Prop} (hn : n ≤ 8) (hc : c ≤ 20) (hR : ∀ i, i < c → vp_in (R i) 6) (h : ∀ r, rn_gr (rn_sl n c T R X Y Z A) (2 ^ n) r → post r) : ∀ d m, m + d = 2 ^ n → ∀ r, rn_gr (rn_sl n c T R X Y Z A) m r → wY_greatest_4 post (nI n) (nI c) T A R X Y Z (d + 1) r (nI m) := by
  have hN := rn_pw n (by omega)
  intro d
  induction d with
  | zero =>
    intro m hm r hr
    have em : m = 2 ^ n := by omega
    rw [em] at hr ⊢
    exact (br_t (rn_yle hn (nI_le (by omega) (by omega))) (h r hr))
  | succ d ih =>
    intro m hm r hr
    have hl : ¬ nI (2 ^ n) ≤ nI m := nI_ge (by omega) (by omega)
    by_cases s : rn_sl n c T R X Y Z A (nI m)
    · exact (br_f (rn_ynl hn hl) (rn_yS1 hn hc hR s (rn_k1 (nm_r (nI_1 m) (ih (m + 1) (by omega) (nI m) (Or.inr ⟨m, by omega, rfl, s, fun k hk hk2 => absurd hk (by omega)⟩))))))
    · refine (br_f (rn_ynl hn hl) (rn_yS0 hn hc hR s (rn_k0 (nm_r (nI_1 m) (ih (m + 1) (by omega) r ?_)))))
      rcases hr with ⟨e, hz⟩ | ⟨j, hj, e, hs, hg⟩
      · exact Or.inl ⟨e, lt_s hz s⟩
      · refine Or.inr ⟨j, by omega, e, hs, fun k hk hk2 => ?_⟩
        by_cases z : k = m
        · rw [z]; exact s
        · exact hg k hk (by omega)
end
end
section
/-! the calls that change the state: the constructors' loops, define's, retract's -/
section
variable {n c : Nat} {T R X Y Z A : Nat → Int32}
theorem rn_in8 (f a b : Int32) : ∀ d i, i + d = 8 → ∀ B : Nat → Int32, ∃ A' : Nat → Int32, (∀ post : SX → Prop, post (f, a, b, T, R, X, Y, Z, A') → wX_init_117 post f a b (d + 1) (nI i) T R X Y Z B) ∧ (∀ post : SY → Prop, post (f, b, T, A', R, X, Y, Z) → wY_init_102 post f b (d + 1) (nI i) T B R X Y Z) := by
  intro d
  induction d with
  | zero =>
    intro i hi B
    have h : (8 : Int32) ≤ nI i := nI_le (a := 8) (by omega) (by omega)
    exact ⟨B, fun _ hp => br_t h hp, fun _ hp => br_t h hp⟩
  | succ d ih =>
    intro i hi B
    have h : ¬ (8 : Int32) ≤ nI i := nI_ge (b := 8) (by omega) (by decide)
    have hv : vp_in (nI i) 8 := vp_in_nI (by omega) (by decide)
    obtain ⟨A', hX, hY⟩ := ih (i + 1) (by omega) (upd B (nI i).toNatClampNeg 2)
    exact ⟨A', fun post hp => br_f h ⟨hv, nm_e (nm_r (nI_1 i) (hX post hp))⟩, fun post hp => br_f h ⟨hv, nm_e (nm_r (nI_1 i) (hY post hp))⟩⟩
theorem rn_in6 (f a b : Int32) : ∀ d i, i + d = 6 → ∀ B : Nat → Int32, ∃ T' : Nat → Int32, (∀ post : SX → Prop, (∃ k, wX_init_117 post f a b k 0 T' R X Y Z A) → wX_init_94 post f a b (d + 1) (nI i) B R X Y Z A) ∧ (∀ post : SY → Prop, (∃ k, wY_init_102 post f b k 0 T' A R X Y Z) → wY_init_79 post f b (d + 1) (nI i) B A R X Y Z) := by
  intro d
  induction d with
  | zero =>
    intro i hi B
    have h : (6 : Int32) ≤ nI i := nI_le (a := 6) (by omega) (by omega)
    exact ⟨B, fun _ hp => br_t h hp, fun _ hp => br_t h hp⟩
  | succ d ih =>
    intro i hi B
    have h : ¬ (6 : Int32) ≤ nI i := nI_ge (b := 6) (by omega) (by decide)
    have hv : vp_in (nI i) 6 := vp_in_nI (by omega) (by decide)
    obtain ⟨T', hX, hY⟩ := ih (i + 1) (by omega) (upd B (nI i).toNatClampNeg 255)
    exact ⟨T', fun post hp => br_f h ⟨hv, nm_e (nm_r (nI_1 i) (hX post hp))⟩, fun post hp => br_f h ⟨hv, nm_e (nm_r (nI_1 i) (hY post hp))⟩⟩
/-- both constructors, once the number of variables is clamped -/
theorem rn_init (hn : n ≤ 8) : ∃ T' A' : Nat → Int32, (∀ post : SX → Prop, post (nI n, nI (2 ^ n), nI 0, T', R, X, Y, Z, A') → ∀ a b d : Int32, wX_init_74 post (nI n) a b d T R X Y Z A) ∧ (∀ post : SY → Prop, post (nI n, nI 0, T', A', R, X, Y, Z) → ∃ k, wY_init_79 post (nI n) 0 k 0 T A R X Y Z) := by
  obtain ⟨T', hX, hY⟩ := rn_in6 (R := R) (X := X) (Y := Y) (Z := Z) (A := A) (nI n) (nI (2 ^ n)) (nI 0) 6 0 (by omega) T
  obtain ⟨A', hX2, hY2⟩ := rn_in8 (T := T') (R := R) (X := X) (Y := Y) (Z := Z) (nI n) (nI (2 ^ n)) (nI 0) 8 0 (by omega) A
  refine ⟨T', A', fun post hp a b d => ?_, fun post hp => ⟨7, hY post ⟨9, hY2 post hp⟩⟩⟩
  exact nm_r (rn_all2 n (by omega)) ⟨7, hX post ⟨9, hX2 post hp⟩⟩
theorem rn_xN_l {post : Int32 → Prop} {r : Int32} (hc : c ≤ 20) (h1 : (∃ i, i < c ∧ R i = r) → post 1) (h0 : (∀ i, i < c → ¬ R i = r) → post 0) :
    ∀ d i, i + d = c → (∀ j, j < i → ¬ R j = r) → wX_isNamed_2 post r (nI n) (nI (2 ^ n)) (nI c) T R X Y Z A (d + 1) (nI i) := by
  intro d
  induction d with
  | zero => exact fun i hi ok => br_t (nI_le (by omega) (by omega)) (h0 fun j hj => ok j (by omega))
  | succ d ih =>
    intro i hi ok
    have e : (nI i).toNatClampNeg = i := nI_clamp (by omega)
    refine br_f (nI_ge (by omega) (by omega)) ⟨vp_in_nI (by omega) (by decide), ?_⟩
    rw [e]
    exact br_c (fun z => h1 ⟨i, by omega, z⟩) (fun z => nm_r (nI_1 i) (ih (i + 1) (by omega) (lt_s ok z)))
theorem rn_xN {post : Int32 → Prop} {r : Int32} (hc : c ≤ 20) (h1 : (∃ i, i < c ∧ R i = r) → post 1) (h0 : (∀ i, i < c → ¬ R i = r) → post 0) : wpX_isNamed post (nI n, nI (2 ^ n), nI c, T, R, X, Y, Z, A) r :=
  ⟨c + 1, rn_xN_l hc h1 h0 c 0 (by omega) lt_0⟩
theorem rn_yN_l {post : Int32 → SY → Prop} {r t : Int32} (hc : c ≤ 20) (h1 : (∃ i, i < c ∧ R i = r) → post (-3) (nI n, nI c, T, A, R, X, Y, Z)) (h0 : (∀ i, i < c → ¬ R i = r) → wY_define_59 post r t (nI n) (nI c) T A R X Y Z) :
    ∀ d i, i + d = c → (∀ j, j < i → ¬ R j = r) → wY_define_26 post r t (nI n) (nI c) T A R X Y Z (d + 1) (nI i) := by
  intro d
  induction d with
  | zero => exact fun i hi ok => br_t (nI_le (by omega) (by omega)) (h0 fun j hj => ok j (by omega))
  | succ d ih =>
    intro i hi ok
    have e : (nI i).toNatClampNeg = i := nI_clamp (by omega)
    refine br_f (nI_ge (by omega) (by omega)) (br_f (nI_ge (b := 20) (by omega) (by decide)) ⟨vp_in_nI (by omega) (by decide), ?_⟩)
    rw [e]
    exact br_c (fun z => h1 ⟨i, by omega, z⟩) (fun z => nm_r (nI_1 i) (ih (i + 1) (by omega) (lt_s ok z)))
/-- how many triples: the component counts in the given table, the reference in the stored one -/
theorem rn_cnt {t : Int32} {j : Nat} (hj : j < 6) (hT : T j = t) : ∀ d i, i + d = 8 → ∀ f : Int32, ∃ r : Int32, (∀ post : Int32 → Prop, post r → wX_triplesIn_4 post t (d + 1) f (nI i)) ∧ (∀ post : Int32 → SY → Prop, post r (nI n, nI c, T, A, R, X, Y, Z) → wY_define_71 post (nI j) (nI n) (nI c) T A R X Y Z (d + 1) f (nI i)) := by
  have e : (nI j).toNatClampNeg = j := nI_clamp (by omega)
  have hv : vp_in (nI j) 6 := vp_in_nI hj (by decide)
  intro d
  induction d with
  | zero =>
    intro i hi f
    have h : (8 : Int32) ≤ nI i := nI_le (a := 8) (by omega) (by omega)
    exact ⟨f, fun _ hp => br_t h hp, fun _ hp => br_t h hp⟩
  | succ d ih =>
    intro i hi f
    have h : ¬ (8 : Int32) ≤ nI i := nI_ge (b := 8) (by omega) (by decide)
    by_cases b : ((t >>> (nI i &&& 31)) &&& 1) = 1
    · obtain ⟨r, hX, hY⟩ := ih (i + 1) (by omega) (f + 1)
      refine ⟨r, fun post hp => br_f h (br_t b (rn_k1 (nm_e (nm_r (nI_1 i) (hX post hp))))), fun post hp => br_f h ⟨hv, ?_⟩⟩
      rw [e, hT]
      exact br_t b (rn_k1 (nm_e (nm_r (nI_1 i) (hY post hp))))
    · obtain ⟨r, hX, hY⟩ := ih (i + 1) (by omega) f
      refine ⟨r, fun post hp => br_f h (br_f b (rn_k0 (nm_r (nI_1 i) (hX post hp)))), fun post hp => br_f h ⟨hv, ?_⟩⟩
      rw [e, hT]
      exact br_f b (rn_k0 (nm_r (nI_1 i) (hY post hp)))
theorem rn_ret (q : Int32) (hc : c ≤ 20) : ∀ d j, j + 1 + d = c → ∀ R X Y Z : Nat → Int32, (∀ i, i < c → vp_in (R i) 6) → ∃ R' X' Y' Z' : Nat → Int32, (∀ i, i < c - 1 → vp_in (R' i) 6) ∧ (∀ post : Int32 → SX → Prop, post q (nI n, nI (2 ^ n), nI (c - 1), T, R', X', Y', Z', A) → wX_retract_21 post q (nI n) (nI (2 ^ n)) (nI c) (d + 1) (nI (j + 1)) T R X Y Z A) ∧ (∀ post : Int32 → SY → Prop, post q (nI n, nI (c - 1), T, A, R', X', Y', Z') → wY_retract_19 post q (nI n) (nI c) (d + 1) (nI j) T A R X Y Z) := by
  intro d
  induction d with
  | zero =>
    intro j hj R X Y Z hR
    have ec : nI c - 1 = nI (c - 1) := pk_sub (a := c) (b := 1) (by omega)
    have h1 : nI c ≤ nI (j + 1) := nI_le (by omega) (by omega)
    have h2 : nI c - 1 ≤ nI j := by rw [ec]; exact nI_le (by omega) (by omega)
    exact ⟨R, X, Y, Z, fun i hi => hR i (by omega), fun post hp => br_t h1 (nm_r ec hp), fun post hp => br_t h2 (nm_r ec hp)⟩
  | succ d ih =>
    intro j hj R X Y Z hR
    have ec : nI c - 1 = nI (c - 1) := pk_sub (a := c) (b := 1) (by omega)
    have h1 : ¬ nI c ≤ nI (j + 1) := nI_ge (by omega) (by omega)
    have h2 : ¬ nI c - 1 ≤ nI j := by rw [ec]; exact nI_ge (by omega) (by omega)
    have h3 : ¬ (19 : Int32) ≤ nI j := nI_ge (b := 19) (by omega) (by decide)
    have e0 : (nI j).toNatClampNeg = j := nI_clamp (by omega)
    have e1 : (nI (j + 1)).toNatClampNeg = j + 1 := nI_clamp (by omega)
    have ep : nI (j + 1) - 1 = nI j := nI_pred j
    have es : nI j + 1 = nI (j + 1) := nI_1 j
    have v0 : vp_in (nI j) 20 := vp_in_nI (by omega) (by decide)
    have v1 : vp_in (nI (j + 1)) 20 := vp_in_nI (by omega) (by decide)
    obtain ⟨R', X', Y', Z', hR', hX, hY⟩ := ih (j + 1) (by omega) (upd R j (R (j + 1))) (upd X j (X (j + 1))) (upd Y j (Y (j + 1))) (upd Z j (Z (j + 1))) (by
      intro i hi
      unfold upd
      by_cases z : i = j
      · rw [if_pos z]; exact hR (j + 1) (by omega)
      · rw [if_neg z]; exact hR i hi)
    refine ⟨R', X', Y', Z', hR', fun post hp => ?_, fun post hp => ?_⟩
    · refine br_f h1 ?_
      rw [ep, e0, e1]
      exact ⟨v1, v0, nm_e ⟨v1, v0, nm_e ⟨v1, v0, nm_e ⟨v1, v0, nm_e (nm_r (nI_1 (j + 1)) (hX post hp))⟩⟩⟩⟩
    · refine br_f h2 (br_f h3 ?_)
      rw [es, e0, e1]
      exact ⟨v1, v0, nm_e ⟨v1, v0, nm_e ⟨v1, v0, nm_e ⟨v1, v0, nm_e (nm_e (hY post hp))⟩⟩⟩⟩
end
end
section
/-! the traits: the component's nested loops and the reference's 512 rounds against the same seven flags -/
theorem rn_3t {T : Int32} {post : Int32 → Prop} {s t u : Nat} (h1 : rn_mb T s → rn_mb T t → rn_mb T u → post 1) (h0 : ¬ (rn_mb T s ∧ rn_mb T t ∧ rn_mb T u) → post 0) : wpX_hasAllThree post T (nI s) (nI t) (nI u) :=
  br_c (fun a => rn_k1 (br_c (fun b => rn_k1 (br_c (fun d => rn_k1 (h1 a b d)) (fun d => rn_k0 (h0 fun z => d z.2.2)))) (fun b => rn_k0 (h0 fun z => b z.2.1)))) (fun a => rn_k0 (h0 fun z => a z.1))
theorem rn_eM (s t u : Nat) : ((nI s &&& nI t) ||| (nI s &&& nI u)) ||| (nI t &&& nI u) = nI (rn_fM s t u) := by
  rw [nx_and, nx_and, nx_and, rn_or, rn_or]
  rfl
theorem rn_eP (s t u : Nat) : (nI s ^^^ nI t) ^^^ nI u = nI (rn_fP s t u) := by
  rw [nx_xor, nx_xor]
  rfl
theorem rn_Meet_i {T : Int32} {post J : Int32 → Prop} {s : Nat} (hs : s < 8) (hJ : (∀ t, t < 8 → rn_mb T s → rn_mb T t → rn_mb T (rn_fA s t)) → J (nI (s + 1))) (h0 : ¬ rn_c2 (rn_mb T) rn_fA → post 0) :
    ∀ d t, t + d = 8 → (∀ k, k < t → rn_mb T s → rn_mb T k → rn_mb T (rn_fA s k)) → wX_isMeetClosed_10 post J T (nI s) (d + 1) (nI t) := by
  intro d
  induction d with
  | zero => exact fun t ht ok => br_t (nI_le (a := 8) (by omega) (by omega)) (nm_r (nI_1 s) (hJ fun k hk => ok k (by omega)))
  | succ d ih =>
    intro t ht ok
    have go : (rn_mb T s → rn_mb T t → rn_mb T (rn_fA s t)) → ∀ x, x = nI t + 1 → wX_isMeetClosed_10 post J T (nI s) (d + 1) x :=
      fun hx => nm_r (nI_1 t) (ih (t + 1) (by omega) (lt_s ok hx))
    have e : nI s &&& nI t = nI (rn_fA s t) := nx_and s t
    refine br_f (nI_ge (b := 8) (by omega) (by decide)) (br_c (fun a => rn_k1 (br_c (fun b => rn_k1 ?_) (fun b => rn_k0 (go fun _ z => absurd z b)))) (fun a => rn_k0 (go fun z => absurd z a)))
    rw [e]
    exact br_c (fun m => rn_k1 (go fun _ _ => m)) (fun m => rn_k0 (h0 fun all => m (all s hs t (by omega) a b)))
theorem rn_Meet_o {T : Int32} {post : Int32 → Prop} (h1 : rn_c2 (rn_mb T) rn_fA → post 1) (h0 : ¬ rn_c2 (rn_mb T) rn_fA → post 0) :
    ∀ d s, s + d = 8 → (∀ k, k < s → ∀ t, t < 8 → rn_mb T k → rn_mb T t → rn_mb T (rn_fA k t)) → wX_isMeetClosed_2 post T (d + 1) (nI s) := by
  intro d
  induction d with
  | zero => exact fun s hs ok => br_t (nI_le (a := 8) (by omega) (by omega)) (h1 fun k hk => ok k (by omega))
  | succ d ih =>
    intro s hs ok
    exact br_f (nI_ge (b := 8) (by omega) (by decide)) ⟨9, rn_Meet_i (by omega) (fun hx => ih (s + 1) (by omega) (lt_s ok hx)) h0 8 0 (by omega) lt_0⟩
theorem rn_Meet {T : Int32} {post : Int32 → Prop} (h1 : rn_c2 (rn_mb T) rn_fA → post 1) (h0 : ¬ rn_c2 (rn_mb T) rn_fA → post 0) : wpX_isMeetClosed post T :=
  ⟨9, rn_Meet_o h1 h0 8 0 (by omega) lt_0⟩
theorem rn_Join_i {T : Int32} {post J : Int32 → Prop} {s : Nat} (hs : s < 8) (hJ : (∀ t, t < 8 → rn_mb T s → rn_mb T t → rn_mb T (rn_fO s t)) → J (nI (s + 1))) (h0 : ¬ rn_c2 (rn_mb T) rn_fO → post 0) :
    ∀ d t, t + d = 8 → (∀ k, k < t → rn_mb T s → rn_mb T k → rn_mb T (rn_fO s k)) → wX_isJoinClosed_10 post J T (nI s) (d + 1) (nI t) := by
  intro d
  induction d with
  | zero => exact fun t ht ok => br_t (nI_le (a := 8) (by omega) (by omega)) (nm_r (nI_1 s) (hJ fun k hk => ok k (by omega)))
  | succ d ih =>
    intro t ht ok
    have go : (rn_mb T s → rn_mb T t → rn_mb T (rn_fO s t)) → ∀ x, x = nI t + 1 → wX_isJoinClosed_10 post J T (nI s) (d + 1) x :=
      fun hx => nm_r (nI_1 t) (ih (t + 1) (by omega) (lt_s ok hx))
    have e : nI s ||| nI t = nI (rn_fO s t) := rn_or s t
    refine br_f (nI_ge (b := 8) (by omega) (by decide)) (br_c (fun a => rn_k1 (br_c (fun b => rn_k1 ?_) (fun b => rn_k0 (go fun _ z => absurd z b)))) (fun a => rn_k0 (go fun z => absurd z a)))
    rw [e]
    exact br_c (fun m => rn_k1 (go fun _ _ => m)) (fun m => rn_k0 (h0 fun all => m (all s hs t (by omega) a b)))
theorem rn_Join_o {T : Int32} {post : Int32 → Prop} (h1 : rn_c2 (rn_mb T) rn_fO → post 1) (h0 : ¬ rn_c2 (rn_mb T) rn_fO → post 0) :
    ∀ d s, s + d = 8 → (∀ k, k < s → ∀ t, t < 8 → rn_mb T k → rn_mb T t → rn_mb T (rn_fO k t)) → wX_isJoinClosed_2 post T (d + 1) (nI s) := by
  intro d
  induction d with
  | zero => exact fun s hs ok => br_t (nI_le (a := 8) (by omega) (by omega)) (h1 fun k hk => ok k (by omega))
  | succ d ih =>
    intro s hs ok
    exact br_f (nI_ge (b := 8) (by omega) (by decide)) ⟨9, rn_Join_i (by omega) (fun hx => ih (s + 1) (by omega) (lt_s ok hx)) h0 8 0 (by omega) lt_0⟩
theorem rn_Join {T : Int32} {post : Int32 → Prop} (h1 : rn_c2 (rn_mb T) rn_fO → post 1) (h0 : ¬ rn_c2 (rn_mb T) rn_fO → post 0) : wpX_isJoinClosed post T :=
  ⟨9, rn_Join_o h1 h0 8 0 (by omega) lt_0⟩
theorem rn_Majority_i {T : Int32} {post J K : Int32 → Prop} {s t : Nat} (hs : s < 8) (ht : t < 8) (hJ : (∀ u, u < 8 → rn_mb T s → rn_mb T t → rn_mb T u → rn_mb T (rn_fM s t u)) → K (nI (t + 1))) (h0 : ¬ rn_c3 (rn_mb T) rn_fM → post 0) :
    ∀ d u, u + d = 8 → (∀ k, k < u → rn_mb T s → rn_mb T t → rn_mb T k → rn_mb T (rn_fM s t k)) → wX_isMajorityClosed_18 post J K T (nI s) (nI t) (d + 1) (nI u) := by
  intro d
  induction d with
  | zero => exact fun u hu ok => br_t (nI_le (a := 8) (by omega) (by omega)) (nm_r (nI_1 t) (hJ fun k hk => ok k (by omega)))
  | succ d ih =>
    intro u hu ok
    have go : (rn_mb T s → rn_mb T t → rn_mb T u → rn_mb T (rn_fM s t u)) → ∀ x, x = nI u + 1 → wX_isMajorityClosed_18 post J K T (nI s) (nI t) (d + 1) x :=
      fun hx => nm_r (nI_1 u) (ih (u + 1) (by omega) (lt_s ok hx))
    exact br_f (nI_ge (b := 8) (by omega) (by decide)) (nm_r (rn_eM s t u) (rn_3t (fun a b d => rn_k1 (br_c (fun m => rn_k1 (go fun _ _ _ => m)) (fun m => rn_k0 (h0 fun all => m (all s hs t ht u (by omega) a b d))))) (fun z => rn_k0 (go fun a b d => absurd ⟨a, b, d⟩ z))))
theorem rn_Majority_m {T : Int32} {post J : Int32 → Prop} {s : Nat} (hs : s < 8) (hJ : (∀ t, t < 8 → ∀ u, u < 8 → rn_mb T s → rn_mb T t → rn_mb T u → rn_mb T (rn_fM s t u)) → J (nI (s + 1))) (h0 : ¬ rn_c3 (rn_mb T) rn_fM → post 0) :
    ∀ d t, t + d = 8 → (∀ k, k < t → ∀ u, u < 8 → rn_mb T s → rn_mb T k → rn_mb T u → rn_mb T (rn_fM s k u)) → wX_isMajorityClosed_10 post J T (nI s) (d + 1) (nI t) := by
  intro d
  induction d with
  | zero => exact fun t ht ok => br_t (nI_le (a := 8) (by omega) (by omega)) (nm_r (nI_1 s) (hJ fun k hk => ok k (by omega)))
  | succ d ih =>
    intro t ht ok
    exact br_f (nI_ge (b := 8) (by omega) (by decide)) ⟨9, rn_Majority_i hs (by omega) (fun hx => ih (t + 1) (by omega) (lt_s ok hx)) h0 8 0 (by omega) lt_0⟩
theorem rn_Majority_o {T : Int32} {post : Int32 → Prop} (h1 : rn_c3 (rn_mb T) rn_fM → post 1) (h0 : ¬ rn_c3 (rn_mb T) rn_fM → post 0) :
    ∀ d s, s + d = 8 → (∀ k, k < s → ∀ t, t < 8 → ∀ u, u < 8 → rn_mb T k → rn_mb T t → rn_mb T u → rn_mb T (rn_fM k t u)) → wX_isMajorityClosed_2 post T (d + 1) (nI s) := by
  intro d
  induction d with
  | zero => exact fun s hs ok => br_t (nI_le (a := 8) (by omega) (by omega)) (h1 fun k hk => ok k (by omega))
  | succ d ih =>
    intro s hs ok
    exact br_f (nI_ge (b := 8) (by omega) (by decide)) ⟨9, rn_Majority_m (by omega) (fun hx => ih (s + 1) (by omega) (lt_s ok hx)) h0 8 0 (by omega) lt_0⟩
theorem rn_Majority {T : Int32} {post : Int32 → Prop} (h1 : rn_c3 (rn_mb T) rn_fM → post 1) (h0 : ¬ rn_c3 (rn_mb T) rn_fM → post 0) : wpX_isMajorityClosed post T :=
  ⟨9, rn_Majority_o h1 h0 8 0 (by omega) lt_0⟩
theorem rn_Parity_i {T : Int32} {post J K : Int32 → Prop} {s t : Nat} (hs : s < 8) (ht : t < 8) (hJ : (∀ u, u < 8 → rn_mb T s → rn_mb T t → rn_mb T u → rn_mb T (rn_fP s t u)) → K (nI (t + 1))) (h0 : ¬ rn_c3 (rn_mb T) rn_fP → post 0) :
    ∀ d u, u + d = 8 → (∀ k, k < u → rn_mb T s → rn_mb T t → rn_mb T k → rn_mb T (rn_fP s t k)) → wX_isParityClosed_18 post J K T (nI s) (nI t) (d + 1) (nI u) := by
  intro d
  induction d with
  | zero => exact fun u hu ok => br_t (nI_le (a := 8) (by omega) (by omega)) (nm_r (nI_1 t) (hJ fun k hk => ok k (by omega)))
  | succ d ih =>
    intro u hu ok
    have go : (rn_mb T s → rn_mb T t → rn_mb T u → rn_mb T (rn_fP s t u)) → ∀ x, x = nI u + 1 → wX_isParityClosed_18 post J K T (nI s) (nI t) (d + 1) x :=
      fun hx => nm_r (nI_1 u) (ih (u + 1) (by omega) (lt_s ok hx))
    exact br_f (nI_ge (b := 8) (by omega) (by decide)) (nm_r (rn_eP s t u) (rn_3t (fun a b d => rn_k1 (br_c (fun m => rn_k1 (go fun _ _ _ => m)) (fun m => rn_k0 (h0 fun all => m (all s hs t ht u (by omega) a b d))))) (fun z => rn_k0 (go fun a b d => absurd ⟨a, b, d⟩ z))))
theorem rn_Parity_m {T : Int32} {post J : Int32 → Prop} {s : Nat} (hs : s < 8) (hJ : (∀ t, t < 8 → ∀ u, u < 8 → rn_mb T s → rn_mb T t → rn_mb T u → rn_mb T (rn_fP s t u)) → J (nI (s + 1))) (h0 : ¬ rn_c3 (rn_mb T) rn_fP → post 0) :
    ∀ d t, t + d = 8 → (∀ k, k < t → ∀ u, u < 8 → rn_mb T s → rn_mb T k → rn_mb T u → rn_mb T (rn_fP s k u)) → wX_isParityClosed_10 post J T (nI s) (d + 1) (nI t) := by
  intro d
  induction d with
  | zero => exact fun t ht ok => br_t (nI_le (a := 8) (by omega) (by omega)) (nm_r (nI_1 s) (hJ fun k hk => ok k (by omega)))
  | succ d ih =>
    intro t ht ok
    exact br_f (nI_ge (b := 8) (by omega) (by decide)) ⟨9, rn_Parity_i hs (by omega) (fun hx => ih (t + 1) (by omega) (lt_s ok hx)) h0 8 0 (by omega) lt_0⟩
theorem rn_Parity_o {T : Int32} {post : Int32 → Prop} (h1 : rn_c3 (rn_mb T) rn_fP → post 1) (h0 : ¬ rn_c3 (rn_mb T) rn_fP → post 0) :
    ∀ d s, s + d = 8 → (∀ k, k < s → ∀ t, t < 8 → ∀ u, u < 8 → rn_mb T k → rn_mb T t → rn_mb T u → rn_mb T (rn_fP k t u)) → wX_isParityClosed_2 post T (d + 1) (nI s) := by
  intro d
  induction d with
  | zero => exact fun s hs ok => br_t (nI_le (a := 8) (by omega) (by omega)) (h1 fun k hk => ok k (by omega))
  | succ d ih =>
    intro s hs ok
    exact br_f (nI_ge (b := 8) (by omega) (by decide)) ⟨9, rn_Parity_m (by omega) (fun hx => ih (s + 1) (by omega) (lt_s ok hx)) h0 8 0 (by omega) lt_0⟩
theorem rn_Parity {T : Int32} {post : Int32 → Prop} (h1 : rn_c3 (rn_mb T) rn_fP → post 1) (h0 : ¬ rn_c3 (rn_mb T) rn_fP → post 0) : wpX_isParityClosed post T :=
  ⟨9, rn_Parity_o h1 h0 8 0 (by omega) lt_0⟩
theorem rn_Flip_o {T : Int32} {post : Int32 → Prop} (h1 : rn_c1 (rn_mb T) rn_fF → post 1) (h0 : ¬ rn_c1 (rn_mb T) rn_fF → post 0) :
    ∀ d s, s + d = 8 → (∀ k, k < s → rn_mb T k → rn_mb T (rn_fF k)) → wX_isFlipClosed_2 post T (d + 1) (nI s) := by
  intro d
  induction d with
  | zero => exact fun s hs ok => br_t (nI_le (a := 8) (by omega) (by omega)) (h1 fun k hk => ok k (by omega))
  | succ d ih =>
    intro s hs ok
    have go : (rn_mb T s → rn_mb T (rn_fF s)) → ∀ x, x = nI s + 1 → wX_isFlipClosed_2 post T (d + 1) x :=
      fun hx => nm_r (nI_1 s) (ih (s + 1) (by omega) (lt_s ok hx))
    have e : nI s ^^^ 7 = nI (rn_fF s) := nx_xor s 7
    refine br_f (nI_ge (b := 8) (by omega) (by decide)) (br_c (fun a => rn_k1 ?_) (fun a => rn_k0 (go fun z => absurd z a)))
    rw [e]
    exact br_c (fun m => rn_k1 (go fun _ => m)) (fun m => rn_k0 (h0 fun all => m (all s (by omega) a)))
theorem rn_Flip {T : Int32} {post : Int32 → Prop} (h1 : rn_c1 (rn_mb T) rn_fF → post 1) (h0 : ¬ rn_c1 (rn_mb T) rn_fF → post 0) : wpX_isFlipClosed post T :=
  ⟨9, rn_Flip_o h1 h0 8 0 (by omega) lt_0⟩
theorem rn_t65 {T : Int32} {post : Int32 → Prop} {k : Nat} {f : Bool} (hf : f = true ↔ rn_c1 (rn_mb T) rn_fF) (h : post (nI (k + rn_bf f 64))) : wX_traitsOf_65 post T (nI k) := by
  unfold wX_traitsOf_65
  cases f with
  | true => exact rn_Flip (fun _ => rn_k1 (nm_r (nI_add k 64) h)) (fun z => absurd (hf.1 rfl) z)
  | false => exact rn_Flip (fun z => absurd (hf.2 z) (by decide)) (fun _ => rn_k0 h)
theorem rn_t55 {T : Int32} {post : Int32 → Prop} {k : Nat} {f : Bool} (hf : f = true ↔ rn_c3 (rn_mb T) rn_fP) (h : wX_traitsOf_65 post T (nI (k + rn_bf f 32))) : wX_traitsOf_55 post T (nI k) := by
  unfold wX_traitsOf_55
  cases f with
  | true => exact rn_Parity (fun _ => rn_k1 (nm_r (nI_add k 32) h)) (fun z => absurd (hf.1 rfl) z)
  | false => exact rn_Parity (fun z => absurd (hf.2 z) (by decide)) (fun _ => rn_k0 h)
theorem rn_t45 {T : Int32} {post : Int32 → Prop} {k : Nat} {f : Bool} (hf : f = true ↔ rn_c3 (rn_mb T) rn_fM) (h : wX_traitsOf_55 post T (nI (k + rn_bf f 16))) : wX_traitsOf_45 post T (nI k) := by
  unfold wX_traitsOf_45
  cases f with
  | true => exact rn_Majority (fun _ => rn_k1 (nm_r (nI_add k 16) h)) (fun z => absurd (hf.1 rfl) z)
  | false => exact rn_Majority (fun z => absurd (hf.2 z) (by decide)) (fun _ => rn_k0 h)
theorem rn_t35 {T : Int32} {post : Int32 → Prop} {k : Nat} {f : Bool} (hf : f = true ↔ rn_c2 (rn_mb T) rn_fO) (h : wX_traitsOf_45 post T (nI (k + rn_bf f 8))) : wX_traitsOf_35 post T (nI k) := by
  unfold wX_traitsOf_35
  cases f with
  | true => exact rn_Join (fun _ => rn_k1 (nm_r (nI_add k 8) h)) (fun z => absurd (hf.1 rfl) z)
  | false => exact rn_Join (fun z => absurd (hf.2 z) (by decide)) (fun _ => rn_k0 h)
theorem rn_t25 {T : Int32} {post : Int32 → Prop} {k : Nat} {f : Bool} (hf : f = true ↔ rn_c2 (rn_mb T) rn_fA) (h : wX_traitsOf_35 post T (nI (k + rn_bf f 4))) : wX_traitsOf_25 post T (nI k) := by
  unfold wX_traitsOf_25
  cases f with
  | true => exact rn_Meet (fun _ => rn_k1 (nm_r (nI_add k 4) h)) (fun z => absurd (hf.1 rfl) z)
  | false => exact rn_Meet (fun z => absurd (hf.2 z) (by decide)) (fun _ => rn_k0 h)
theorem rn_t13 {T : Int32} {post : Int32 → Prop} {k : Nat} {f : Bool} (hf : f = true ↔ rn_mb T 7) (h : wX_traitsOf_25 post T (nI (k + rn_bf f 2))) : wX_traitsOf_13 post T (nI k) := by
  unfold wX_traitsOf_13
  cases f with
  | true => exact br_t (hf.1 rfl) (rn_k1 (nm_r (nI_add k 2) h))
  | false => exact br_f (fun z => absurd (hf.2 z) (by decide)) (rn_k0 h)
theorem rn_t1 {T : Int32} {post : Int32 → Prop} {f : Bool} (hf : f = true ↔ rn_mb T 0) (h : wX_traitsOf_13 post T (nI (0 + rn_bf f 1))) : wpX_traitsOf post T := by
  unfold wpX_traitsOf
  cases f with
  | true => exact br_t (hf.1 rfl) (rn_k1 (nm_r (nI_add 0 1) h))
  | false => exact br_f (fun z => absurd (hf.2 z) (by decide)) (rn_k0 h)
/-- the seven flags of a table -/
def rn_fl (T : Int32) (z o m j a p f : Bool) : Prop := (z = true ↔ rn_mb T 0) ∧ (o = true ↔ rn_mb T 7) ∧ (m = true ↔ rn_c2 (rn_mb T) rn_fA) ∧ (j = true ↔ rn_c2 (rn_mb T) rn_fO) ∧ (a = true ↔ rn_c3 (rn_mb T) rn_fM) ∧ (p = true ↔ rn_c3 (rn_mb T) rn_fP) ∧ (f = true ↔ rn_c1 (rn_mb T) rn_fF)
theorem rn_flE (T : Int32) : ∃ z o m j a p f : Bool, rn_fl T z o m j a p f := by
  obtain ⟨z, hz⟩ := rn_b (P := rn_mb T 0)
  obtain ⟨o, ho⟩ := rn_b (P := rn_mb T 7)
  obtain ⟨m, hm⟩ := rn_b (P := rn_c2 (rn_mb T) rn_fA)
  obtain ⟨j, hj⟩ := rn_b (P := rn_c2 (rn_mb T) rn_fO)
  obtain ⟨a, ha⟩ := rn_b (P := rn_c3 (rn_mb T) rn_fM)
  obtain ⟨p, hp⟩ := rn_b (P := rn_c3 (rn_mb T) rn_fP)
  obtain ⟨f, hf⟩ := rn_b (P := rn_c1 (rn_mb T) rn_fF)
  exact ⟨z, o, m, j, a, p, f, hz, ho, hm, hj, ha, hp, hf⟩
def rn_sm (z o m j a p f : Bool) : Nat := 0 + rn_bf z 1 + rn_bf o 2 + rn_bf m 4 + rn_bf j 8 + rn_bf a 16 + rn_bf p 32 + rn_bf f 64
theorem rn_xT {T : Int32} {post : Int32 → Prop} {z o m j a p f : Bool} (F : rn_fl T z o m j a p f) (h : post (nI (rn_sm z o m j a p f))) : wpX_traitsOf post T :=
  rn_t1 F.1 (rn_t13 F.2.1 (rn_t25 F.2.2.1 (rn_t35 F.2.2.2.1 (rn_t45 F.2.2.2.2.1 (rn_t55 F.2.2.2.2.2.1 (rn_t65 F.2.2.2.2.2.2 h))))))
section
variable {n c : Nat} {T R X Y Z A : Nat → Int32}
theorem rn_mem {post : Int32 → Prop} {r x : Int32} {B : Int32} (hv : vp_in r 6) (hB : T r.toNatClampNeg = B) {e : Bool} (he : e = true ↔ ((B >>> (x &&& 31)) &&& 1) = 1) (h : post (cond e 1 0)) : wpY_member post (nI n, nI c, T, A, R, X, Y, Z) r x := by
  refine ⟨hv, ?_⟩
  rw [hB]
  cases e with
  | true => exact br_t (he.1 rfl) h
  | false => exact br_f (fun z => absurd (he.2 z) (by decide)) h
theorem rn_y193 {post : Int32 → Prop} {J : Int32 → Int32 → Prop} {r x2 x4 x5 B : Int32} {c1 c2 c3 c4 c5 e : Bool} (hv : vp_in r 6) (hB : T r.toNatClampNeg = B) (he : e = true ↔ ((B >>> ((7 - x5) &&& 31)) &&& 1) = 1) (h : J (nI (rn_bf c1 4 + rn_bf c2 8 + rn_bf c3 16 + rn_bf c4 32 + rn_bf (!e || c5) 64)) (x4 + 1)) : wY_traits_193 post J r x2 (nI (rn_bf c1 4 + rn_bf c2 8 + rn_bf c3 16 + rn_bf c4 32 + rn_bf c5 64)) x4 x5 (nI n) (nI c) T A R X Y Z := by
  unfold wY_traits_193
  refine rn_mem hv hB he ?_
  cases e with
  | true => exact rn_k1 (nm_e h)
  | false => exact rn_k0 (nm_r (rn_or64 c1 c2 c3 c4 c5) (nm_e h))
theorem rn_y172 {post : Int32 → Prop} {J : Int32 → Int32 → Prop} {r x2 x4 x5 x6 x7 B : Int32} {c1 c2 c3 c4 c5 e : Bool} (hv : vp_in r 6) (hB : T r.toNatClampNeg = B) (he : e = true ↔ ((B >>> (((x5 ^^^ x6) ^^^ x7) &&& 31)) &&& 1) = 1) (h : wY_traits_193 post J r x2 (nI (rn_bf c1 4 + rn_bf c2 8 + rn_bf c3 16 + rn_bf (!e || c4) 32 + rn_bf c5 64)) x4 x5 (nI n) (nI c) T A R X Y Z) : wY_traits_172 post J r x2 (nI (rn_bf c1 4 + rn_bf c2 8 + rn_bf c3 16 + rn_bf c4 32 + rn_bf c5 64)) x4 x5 x6 x7 (nI n) (nI c) T A R X Y Z := by
  unfold wY_traits_172
  refine rn_mem hv hB he ?_
  cases e with
  | true => exact rn_k1 (h)
  | false => exact rn_k0 (nm_r (rn_or32 c1 c2 c3 c4 c5) (h))
theorem rn_y142 {post : Int32 → Prop} {J : Int32 → Int32 → Prop} {r x2 x4 x5 x6 x7 B : Int32} {c1 c2 c3 c4 c5 e : Bool} (hv : vp_in r 6) (hB : T r.toNatClampNeg = B) (he : e = true ↔ ((B >>> ((((x5 &&& x6) ||| (x5 &&& x7)) ||| (x6 &&& x7)) &&& 31)) &&& 1) = 1) (h : wY_traits_172 post J r x2 (nI (rn_bf c1 4 + rn_bf c2 8 + rn_bf (!e || c3) 16 + rn_bf c4 32 + rn_bf c5 64)) x4 x5 x6 x7 (nI n) (nI c) T A R X Y Z) : wY_traits_142 post J r x2 (nI (rn_bf c1 4 + rn_bf c2 8 + rn_bf c3 16 + rn_bf c4 32 + rn_bf c5 64)) x4 x5 x6 x7 (nI n) (nI c) T A R X Y Z := by
  unfold wY_traits_142
  refine rn_mem hv hB he ?_
  cases e with
  | true => exact rn_k1 (h)
  | false => exact rn_k0 (nm_r (rn_or16 c1 c2 c3 c4 c5) (h))
theorem rn_y124 {post : Int32 → Prop} {J : Int32 → Int32 → Prop} {r x2 x4 x5 x6 x7 B : Int32} {c1 c2 c3 c4 c5 e : Bool} (hv : vp_in r 6) (hB : T r.toNatClampNeg = B) (he : e = true ↔ ((B >>> ((x5 ||| x6) &&& 31)) &&& 1) = 1) (h : wY_traits_142 post J r x2 (nI (rn_bf c1 4 + rn_bf (!e || c2) 8 + rn_bf c3 16 + rn_bf c4 32 + rn_bf c5 64)) x4 x5 x6 x7 (nI n) (nI c) T A R X Y Z) : wY_traits_124 post J r x2 (nI (rn_bf c1 4 + rn_bf c2 8 + rn_bf c3 16 + rn_bf c4 32 + rn_bf c5 64)) x4 x5 x6 x7 (nI n) (nI c) T A R X Y Z := by
  unfold wY_traits_124
  refine rn_mem hv hB he ?_
  cases e with
  | true => exact rn_k1 (h)
  | false => exact rn_k0 (nm_r (rn_or8 c1 c2 c3 c4 c5) (h))
end
end
section
/-! the reference's traits, and netTraits -/
def rn_gA (s t _ : Nat) : Nat := rn_fA s t
def rn_gO (s t _ : Nat) : Nat := rn_fO s t
def rn_gF (s _ _ : Nat) : Nat := rn_fF s
theorem rn_exS {b : Nat → Prop} {f : Nat → Nat → Nat → Nat} {t : Nat} {c e : Bool} (h3 : b (t % 8) ∧ b (t / 8 % 8) ∧ b (t / 64 % 8)) (he : e = true ↔ b (f (t % 8) (t / 8 % 8) (t / 64 % 8))) (hc : c = true ↔ ∃ k, k < t ∧ rn_ls b f k) : (!e || c) = true ↔ ∃ k, k < t + 1 ∧ rn_ls b f k := by
  cases e with
  | true =>
    show c = true ↔ _
    constructor
    · intro z
      obtain ⟨k, hk, hl⟩ := hc.1 z
      exact ⟨k, by omega, hl⟩
    · rintro ⟨k, hk, hl⟩
      by_cases z : k = t
      · subst z
        exact absurd (he.1 rfl) hl.2
      · exact hc.2 ⟨k, by omega, hl⟩
  | false => exact ⟨fun _ => ⟨t, by omega, h3, fun z => absurd (he.2 z) (by decide)⟩, fun _ => rfl⟩
theorem rn_ex0 {b : Nat → Prop} {f : Nat → Nat → Nat → Nat} {t : Nat} {c : Bool} (h3 : ¬ (b (t % 8) ∧ b (t / 8 % 8) ∧ b (t / 64 % 8))) (hc : c = true ↔ ∃ k, k < t ∧ rn_ls b f k) : c = true ↔ ∃ k, k < t + 1 ∧ rn_ls b f k := by
  constructor
  · intro z
    obtain ⟨k, hk, hl⟩ := hc.1 z
    exact ⟨k, by omega, hl⟩
  · rintro ⟨k, hk, hl⟩
    by_cases z : k = t
    · subst z
      exact absurd hl.1 h3
    · exact hc.2 ⟨k, by omega, hl⟩
theorem rn_cm {b : Nat → Prop} {f : Nat → Nat → Nat → Nat} {c m : Bool} {P : Prop} (hc : c = true ↔ ∃ k, k < 512 ∧ rn_ls b f k) (hm : m = true ↔ P) (hP : rn_c3 b f ↔ P) : c = !m := by
  have h := hc.trans (rn_lk3 b f)
  by_cases hp : P
  · have em : m = true := hm.2 hp
    have ec : c = false := by
      cases c with
      | false => rfl
      | true => exact absurd (hP.2 hp) (h.1 rfl)
    rw [em, ec]
    rfl
  · have em : m = false := by
      cases m with
      | false => rfl
      | true => exact absurd (hm.1 rfl) hp
    have ec : c = true := h.2 (fun z => hp (hP.1 z))
    rw [em, ec]
    rfl
/-- what is lost before the reference's round t -/
def rn_iv (B : Int32) (t : Nat) (c1 c2 c3 c4 c5 : Bool) : Prop := (c1 = true ↔ ∃ k, k < t ∧ rn_ls (rn_mb B) rn_gA k) ∧ (c2 = true ↔ ∃ k, k < t ∧ rn_ls (rn_mb B) rn_gO k) ∧ (c3 = true ↔ ∃ k, k < t ∧ rn_ls (rn_mb B) rn_fM k) ∧ (c4 = true ↔ ∃ k, k < t ∧ rn_ls (rn_mb B) rn_fP k) ∧ (c5 = true ↔ ∃ k, k < t ∧ rn_ls (rn_mb B) rn_gF k)
theorem rn_iv0 {B : Int32} {t : Nat} {c1 c2 c3 c4 c5 : Bool} (h3 : ¬ (rn_mb B (t % 8) ∧ rn_mb B (t / 8 % 8) ∧ rn_mb B (t / 64 % 8))) (I : rn_iv B t c1 c2 c3 c4 c5) : rn_iv B (t + 1) c1 c2 c3 c4 c5 :=
  ⟨rn_ex0 h3 I.1, rn_ex0 h3 I.2.1, rn_ex0 h3 I.2.2.1, rn_ex0 h3 I.2.2.2.1, rn_ex0 h3 I.2.2.2.2⟩
theorem rn_ivz (B : Int32) : rn_iv B 0 false false false false false := by
  have h : ∀ P : Nat → Prop, (false = true ↔ ∃ k, k < 0 ∧ P k) := fun P => ⟨fun z => absurd z (by decide), fun ⟨k, hk, _⟩ => absurd hk (by omega)⟩
  exact ⟨h _, h _, h _, h _, h _⟩
theorem rn_val : ∀ z o m j a p f : Bool, nI (124 + rn_bf z 1 + rn_bf o 2) - nI (rn_bf (!m) 4 + rn_bf (!j) 8 + rn_bf (!a) 16 + rn_bf (!p) 32 + rn_bf (!f) 64) = nI (rn_sm z o m j a p f) := by decide +kernel
theorem rn_e25 : ∀ z : Bool, nI (126 + rn_bf z 1) + (-2) = nI (124 + rn_bf z 1 + rn_bf false 2) := by decide +kernel
theorem rn_e25s : ∀ z : Bool, nI (126 + rn_bf z 1) = nI (124 + rn_bf z 1 + rn_bf true 2) := by decide +kernel
theorem rn_e127 : (127 : Int32) + (-1) = nI (126 + rn_bf false 1) := by decide +kernel
theorem rn_e127s : (127 : Int32) = nI (126 + rn_bf true 1) := by decide +kernel
theorem rn_sA (t : Nat) (ht : t < 512) : nI t &&& 7 = nI (t % 8) := pk_andN (by omega) (m := 7) 3 (by decide)
theorem rn_sB (t : Nat) (ht : t < 512) : (nI t >>> ((3 : Int32) &&& 31)) &&& 7 = nI (t / 8 % 8) := by
  rw [pk_shrN (by omega) _ 3 (by decide)]
  exact pk_andN (by omega) (m := 7) 3 (by decide)
theorem rn_sC (t : Nat) (ht : t < 512) : (nI t >>> ((6 : Int32) &&& 31)) &&& 7 = nI (t / 64 % 8) := by
  rw [pk_shrN (by omega) _ 6 (by decide)]
  exact pk_andN (by omega) (m := 7) 3 (by decide)
section
variable {n c : Nat} {T R X Y Z A : Nat → Int32}
theorem rn_mem1 {post : Int32 → Prop} {r x B : Int32} (hv : vp_in r 6) (hB : T r.toNatClampNeg = B) (hm : ((B >>> (x &&& 31)) &&& 1) = 1) (h : post 1) : wpY_member post (nI n, nI c, T, A, R, X, Y, Z) r x :=
  rn_mem (e := true) hv hB ⟨fun _ => hm, fun _ => rfl⟩ h
theorem rn_mem0 {post : Int32 → Prop} {r x B : Int32} (hv : vp_in r 6) (hB : T r.toNatClampNeg = B) (hm : ¬ ((B >>> (x &&& 31)) &&& 1) = 1) (h : post 0) : wpY_member post (nI n, nI c, T, A, R, X, Y, Z) r x :=
  rn_mem (e := false) hv hB ⟨fun z => absurd z (by decide), fun z => absurd z hm⟩ h
theorem rn_y68 {post : Int32 → Prop} {J : Int32 → Int32 → Prop} {r x2 x4 x5 x6 x7 B : Int32} {c1 c2 c3 c4 c5 e : Bool} (hv : vp_in r 6) (hB : T r.toNatClampNeg = B) (he : e = true ↔ ((B >>> ((x5 &&& x6) &&& 31)) &&& 1) = 1)
    (h : wY_traits_124 post J r x2 (nI (rn_bf (!e || c1) 4 + rn_bf c2 8 + rn_bf c3 16 + rn_bf c4 32 + rn_bf c5 64)) x4 x5 x6 x7 (nI n) (nI c) T A R X Y Z) :
    wpY_member (fun q => (q = 0 → ∀ x3, x3 = nI (rn_bf c1 4 + rn_bf c2 8 + rn_bf c3 16 + rn_bf c4 32 + rn_bf c5 64) ||| 4 → wY_traits_124 post J r x2 x3 x4 x5 x6 x7 (nI n) (nI c) T A R X Y Z) ∧ (¬ q = 0 → wY_traits_124 post J r x2 (nI (rn_bf c1 4 + rn_bf c2 8 + rn_bf c3 16 + rn_bf c4 32 + rn_bf c5 64)) x4 x5 x6 x7 (nI n) (nI c) T A R X Y Z)) (nI n, nI c, T, A, R, X, Y, Z) r (x5 &&& x6) := by
  refine rn_mem hv hB he ?_
  cases e with
  | true => exact rn_k1 h
  | false => exact rn_k0 (nm_r (rn_or4 c1 c2 c3 c4 c5) h)
theorem rn_yTl {post : Int32 → Prop} {r x2 B : Int32} (hv : vp_in r 6) (hB : T r.toNatClampNeg = B) (h : ∀ c1 c2 c3 c4 c5 : Bool, rn_iv B 512 c1 c2 c3 c4 c5 → post (x2 - nI (rn_bf c1 4 + rn_bf c2 8 + rn_bf c3 16 + rn_bf c4 32 + rn_bf c5 64))) :
    ∀ d t, t + d = 512 → ∀ c1 c2 c3 c4 c5 : Bool, rn_iv B t c1 c2 c3 c4 c5 → wY_traits_43 post r x2 (nI n) (nI c) T A R X Y Z (d + 1) (nI (rn_bf c1 4 + rn_bf c2 8 + rn_bf c3 16 + rn_bf c4 32 + rn_bf c5 64)) (nI t) := by
  intro d
  induction d with
  | zero =>
    intro t ht c1 c2 c3 c4 c5 I
    have et : t = 512 := by omega
    subst et
    exact br_t (nI_le (a := 512) (by omega) (by omega)) (h c1 c2 c3 c4 c5 I)
  | succ d ih =>
    intro t ht c1 c2 c3 c4 c5 I
    refine br_f (nI_ge (b := 512) (by omega) (by decide)) (nm_r (rn_sA t (by omega)) (nm_r (rn_sB t (by omega)) (nm_r (rn_sC t (by omega)) ?_)))
    have go0 : ¬ (rn_mb B (t % 8) ∧ rn_mb B (t / 8 % 8) ∧ rn_mb B (t / 64 % 8)) → ∀ x, x = nI t + 1 → wY_traits_43 post r x2 (nI n) (nI c) T A R X Y Z (d + 1) (nI (rn_bf c1 4 + rn_bf c2 8 + rn_bf c3 16 + rn_bf c4 32 + rn_bf c5 64)) x :=
      fun z => nm_r (nI_1 t) (ih (t + 1) (by omega) c1 c2 c3 c4 c5 (rn_iv0 z I))
    by_cases h1 : rn_mb B (t % 8)
    · by_cases h2 : rn_mb B (t / 8 % 8)
      · by_cases h3 : rn_mb B (t / 64 % 8)
        · refine rn_mem1 hv hB h1 (rn_k1 (rn_mem1 hv hB h2 (rn_k1 (rn_mem1 hv hB h3 (rn_k1 ?_)))))
          obtain ⟨e1, g1⟩ := rn_b (P := rn_mb B (rn_fA (t % 8) (t / 8 % 8)))
          obtain ⟨e2, g2⟩ := rn_b (P := rn_mb B (rn_fO (t % 8) (t / 8 % 8)))
          obtain ⟨e3, g3⟩ := rn_b (P := rn_mb B (rn_fM (t % 8) (t / 8 % 8) (t / 64 % 8)))
          obtain ⟨e4, g4⟩ := rn_b (P := rn_mb B (rn_fP (t % 8) (t / 8 % 8) (t / 64 % 8)))
          obtain ⟨e5, g5⟩ := rn_b (P := rn_mb B (rn_fF (t % 8)))
          have q1 : e1 = true ↔ ((B >>> ((nI (t % 8) &&& nI (t / 8 % 8)) &&& 31)) &&& 1) = 1 := by rw [nx_and]; exact g1
          have q2 : e2 = true ↔ ((B >>> ((nI (t % 8) ||| nI (t / 8 % 8)) &&& 31)) &&& 1) = 1 := by rw [rn_or]; exact g2
          have q3 : e3 = true ↔ ((B >>> ((((nI (t % 8) &&& nI (t / 8 % 8)) ||| (nI (t % 8) &&& nI (t / 64 % 8))) ||| (nI (t / 8 % 8) &&& nI (t / 64 % 8))) &&& 31)) &&& 1) = 1 := by rw [rn_eM]; exact g3
          have q4 : e4 = true ↔ ((B >>> (((nI (t % 8) ^^^ nI (t / 8 % 8)) ^^^ nI (t / 64 % 8)) &&& 31)) &&& 1) = 1 := by rw [rn_eP]; exact g4
          have e7 : (7 : Int32) - nI (t % 8) = nI (rn_fF (t % 8)) := by
            have z : (7 : Int32) - nI (t % 8) = nI (7 - t % 8) := pk_sub (a := 7) (by omega)
            rw [z, rn_x7 (t % 8) (by omega)]
            rfl
          have q5 : e5 = true ↔ ((B >>> (((7 : Int32) - nI (t % 8)) &&& 31)) &&& 1) = 1 := by rw [e7]; exact g5
          have b3 := And.intro h1 (And.intro h2 h3)
          refine rn_y68 hv hB q1 (rn_y124 hv hB q2 (rn_y142 hv hB q3 (rn_y172 hv hB q4 (rn_y193 hv hB q5 ?_))))
          rw [nI_1 t]
          exact ih (t + 1) (by omega) _ _ _ _ _ ⟨rn_exS b3 g1 I.1, rn_exS b3 g2 I.2.1, rn_exS b3 g3 I.2.2.1, rn_exS b3 g4 I.2.2.2.1, rn_exS b3 g5 I.2.2.2.2⟩
        · exact rn_mem1 hv hB h1 (rn_k1 (rn_mem1 hv hB h2 (rn_k1 (rn_mem0 hv hB h3 (rn_k0 (go0 fun z => h3 z.2.2))))))
      · exact rn_mem1 hv hB h1 (rn_k1 (rn_mem0 hv hB h2 (rn_k0 (go0 fun z => h2 z.2.1))))
    · exact rn_mem0 hv hB h1 (rn_k0 (go0 fun z => h1 z.1))
theorem rn_y25 {post : Int32 → Prop} {r B : Int32} {z o : Bool} (hv : vp_in r 6) (hB : T r.toNatClampNeg = B) (ho : o = true ↔ rn_mb B 7) (h : ∃ k, wY_traits_43 post r (nI (124 + rn_bf z 1 + rn_bf o 2)) (nI n) (nI c) T A R X Y Z k 0 0) : wY_traits_25 post r (nI (126 + rn_bf z 1)) (nI n) (nI c) T A R X Y Z := by
  unfold wY_traits_25
  refine rn_mem hv hB ho ?_
  cases o with
  | true => rw [rn_e25s z]; exact rn_k1 h
  | false => exact rn_k0 (nm_r (rn_e25 z) h)
theorem rn_yT {post : Int32 → Prop} {r : Int32} {z o m j a p f : Bool} (hr : vp_in r 6) (F : rn_fl (T r.toNatClampNeg) z o m j a p f) (h : post (nI (rn_sm z o m j a p f))) : wpY_traits post (nI n, nI c, T, A, R, X, Y, Z) r := by
  obtain ⟨i, hi, rfl⟩ := vp_in_of hr (by decide)
  obtain ⟨Fz, Fo, Fm, Fj, Fa, Fp, Ff⟩ := F
  have K : ∃ k, wY_traits_43 post (nI i) (nI (124 + rn_bf z 1 + rn_bf o 2)) (nI n) (nI c) T A R X Y Z k 0 0 := by
    refine ⟨512 + 1, rn_yTl hr rfl (fun c1 c2 c3 c4 c5 I => ?_) 512 0 (by omega) false false false false false (rn_ivz _)⟩
    obtain ⟨I1, I2, I3, I4, I5⟩ := I
    rw [rn_cm I1 Fm (rn_c32 _ rn_fA), rn_cm I2 Fj (rn_c32 _ rn_fO), rn_cm I3 Fa Iff.rfl, rn_cm I4 Fp Iff.rfl, rn_cm I5 Ff (rn_c31 _ rn_fF), rn_val]
    exact h
  have K2 := rn_y25 (z := z) hr rfl Fo K
  unfold wpY_traits
  dsimp only
  refine rn_yR1 hi (rn_k0 (rn_mem hr rfl Fz ?_))
  cases z with
  | true => rw [rn_e127s]; exact rn_k1 K2
  | false => exact rn_k0 (nm_r rn_e127 K2)
theorem rn_net (hn : n ≤ 8) (hc : c ≤ 20) (hR : ∀ i, i < c → vp_in (R i) 6) : ∀ d i, i + d = c → ∀ g : Int32, ∃ r : Int32, (∀ post : Int32 → Prop, post r → wX_netTraits_5 post (nI n) (nI (2 ^ n)) (nI c) T R X Y Z A (d + 1) g (nI i)) ∧ (∀ post : Int32 → Prop, post r → wY_netTraits_5 post (nI n) (nI c) T A R X Y Z (d + 1) g (nI i)) := by
  intro d
  induction d with
  | zero =>
    intro i hi g
    have h : nI c ≤ nI i := nI_le (by omega) (by omega)
    exact ⟨g, fun _ hp => br_t h hp, fun _ hp => br_t h hp⟩
  | succ d ih =>
    intro i hi g
    have h : ¬ nI c ≤ nI i := nI_ge (by omega) (by omega)
    have h20 : ¬ (20 : Int32) ≤ nI i := nI_ge (b := 20) (by omega) (by decide)
    have e : (nI i).toNatClampNeg = i := nI_clamp (by omega)
    have hv : vp_in (nI i) 20 := vp_in_nI (by omega) (by decide)
    have hr := hR i (by omega)
    obtain ⟨z, o, m, j, a, p, f, F⟩ := rn_flE (T (R i).toNatClampNeg)
    obtain ⟨r, hX, hY⟩ := ih (i + 1) (by omega) (g &&& nI (rn_sm z o m j a p f))
    refine ⟨r, fun post hp => br_f h ⟨hv, ?_⟩, fun post hp => br_f h (br_f h20 ⟨hv, ?_⟩)⟩
    · rw [e]
      exact ⟨hr, nm_e (rn_xT F (nm_e (nm_r (nI_1 i) (hX post hp))))⟩
    · rw [e]
      exact rn_yT hr F (nm_e (nm_r (nI_1 i) (hY post hp)))
end
end
section
/-! what is owed -/
theorem rn_lits (N : Nat) (hN : N + 1 < 2 ^ 31) {x : Int32} (h : nI (N + 1) ≤ x) : ¬ x ≤ nI N := by
  rw [Int32.le_iff_toInt_le] at h ⊢
  rw [nI_toInt (by omega)] at h ⊢
  omega
theorem i_vc0 (k0 : Int32) : wpX_init (fun u => wpY_init (fun v => i_Rel 1 u v) k0) k0 := by
  have J : ∀ (n : Nat) (T' A' : Nat → Int32), n ≤ 8 → i_Rel 1 (nI n, nI (2 ^ n), nI 0, T', (fun _ => 0), (fun _ => 0), (fun _ => 0), (fun _ => 0), A') (nI n, nI 0, T', A', (fun _ => 0), (fun _ => 0), (fun _ => 0), (fun _ => 0)) :=
    fun n T' A' hn => ⟨n, 0, T', _, _, _, _, A', rfl, rfl, hn, by omega, fun i hi => absurd hi (by omega)⟩
  by_cases h2 : 2 ≤ k0
  · by_cases h8 : k0 ≤ 8
    · have h0 : ¬ k0 < 0 := fun z => absurd (Int32.lt_of_le_of_lt h2 z) (by decide)
      obtain ⟨n, hn, rfl⟩ := nI_of2 (M := 8) (n := 8) (by decide) h0 h8
      obtain ⟨T', A', hX, hY⟩ := rn_init (T := fun _ => 0) (R := fun _ => 0) (X := fun _ => 0) (Y := fun _ => 0) (Z := fun _ => 0) (A := fun _ => 0) hn
      exact br_t h2 (br_t h8 (hX _ (br_t h2 (br_t h8 (hY _ (J n T' A' hn)))) 0 0 0))
    · obtain ⟨T', A', hX, hY⟩ := rn_init (n := 8) (T := fun _ => 0) (R := fun _ => 0) (X := fun _ => 0) (Y := fun _ => 0) (Z := fun _ => 0) (A := fun _ => 0) (by decide)
      exact br_t h2 (br_f h8 (hX _ (br_t h2 (br_f h8 (hY _ (J 8 T' A' (by decide))))) 0 0 0))
  · obtain ⟨T', A', hX, hY⟩ := rn_init (n := 2) (T := fun _ => 0) (R := fun _ => 0) (X := fun _ => 0) (Y := fun _ => 0) (Z := fun _ => 0) (A := fun _ => 0) (by decide)
    exact br_f h2 (hX _ (br_f h2 (hY _ (J 2 T' A' (by decide)))) 0 0 0)
theorem i_vc_define {k : Nat} {u : SX} {v : SY} (I : i_Rel k u v) (hk : k + 5 ≤ 2561) (v1 : Int32) (v2 : Int32) : wpX_define (fun r u' => wpY_define (fun r' v' => r' = r ∧ i_Rel (k + 5) u' v') v v1 v2) u v1 v2 := by
  have J : i_Rel (k + 5) u v := I
  obtain ⟨n, c, T, R, X, Y, Z, A, rfl, rfl, hn, hc, hR⟩ := I
  unfold wpX_define wpY_define
  dsimp only
  rcases rn_io 6 (by decide) v1 with ⟨j, hj, rfl⟩ | ho
  · have hv : vp_in (nI j) 6 := vp_in_nI hj (by decide)
    rcases rn_io 256 (by decide) v2 with ⟨t, ht, rfl⟩ | ho2
    · have p0 : ¬ nI t < 0 := nI_pos (by omega)
      have p1 : nI t ≤ 255 := nI_le (b := 255) (by omega) (by decide)
      by_cases hN : ∃ i, i < c ∧ R i = nI j
      · exact rn_xR1 hj (rn_k1 (br_f p0 (br_t p1 (rn_xN hc (fun _ => rn_k1 (rn_yR1 hj (rn_k0 (br_f p0 (br_t p1 ⟨c + 1, rn_yN_l hc (fun _ => ⟨rfl, J⟩) (fun z => absurd hN fun ⟨i, hi, e⟩ => z i hi e) c 0 (by omega) lt_0⟩))))) (fun z => absurd hN fun ⟨i, hi, e⟩ => z i hi e)))))
      · have hT : upd T (nI j).toNatClampNeg (nI t) j = nI t := by
          rw [nI_clamp (by omega)]
          exact pk_us
        obtain ⟨r, hX, hY⟩ := rn_cnt (n := n) (c := c) (T := upd T (nI j).toNatClampNeg (nI t)) (R := R) (X := X) (Y := Y) (Z := Z) (A := A) hj hT 8 0 (by omega) 0
        have J2 : i_Rel (k + 5) (nI n, nI (2 ^ n), nI c, upd T (nI j).toNatClampNeg (nI t), R, X, Y, Z, A) (nI n, nI c, upd T (nI j).toNatClampNeg (nI t), A, R, X, Y, Z) := ⟨n, c, _, R, X, Y, Z, A, rfl, rfl, hn, hc, hR⟩
        refine rn_xR1 hj (rn_k1 (br_f p0 (br_t p1 (rn_xN hc (fun z => absurd z hN) (fun _ => rn_k0 ⟨hv, nm_e ⟨9, hX _ (rn_yR1 hj (rn_k0 (br_f p0 (br_t p1 ⟨c + 1, ?_⟩))))⟩⟩)))))
        exact rn_yN_l hc (fun z => absurd z hN) (fun _ => And.intro hv (nm_e ⟨9, hY _ ⟨rfl, J2⟩⟩)) c 0 (by omega) lt_0
    · by_cases h0 : v2 < 0
      · exact rn_xR1 hj (rn_k1 (br_t h0 (rn_yR1 hj (rn_k0 (br_t h0 ⟨rfl, J⟩)))))
      · have h1 : ¬ v2 ≤ 255 := rn_lits 255 (by decide) (ho2.resolve_left h0)
        exact rn_xR1 hj (rn_k1 (br_f h0 (br_f h1 (rn_yR1 hj (rn_k0 (br_f h0 (br_f h1 ⟨rfl, J⟩)))))))
  · exact rn_xR0 ho (rn_k0 (rn_yR0 ho (rn_k1 ⟨rfl, J⟩)))
theorem i_vc_require {k : Nat} {u : SX} {v : SY} (I : i_Rel k u v) (hk : k + 5 ≤ 2561) (v1 : Int32) (v2 : Int32) (v3 : Int32) (v4 : Int32) : wpX_require (fun r u' => wpY_require (fun r' v' => r' = r ∧ i_Rel (k + 5) u' v') v v1 v2 v3 v4) u v1 v2 v3 v4 := by
  have J : i_Rel (k + 5) u v := I
  obtain ⟨n, c, T, R, X, Y, Z, A, rfl, rfl, hn, hc, hR⟩ := I
  unfold wpX_require wpY_require
  dsimp only
  rcases rn_io 6 (by decide) v1 with ⟨j, hj, rfl⟩ | ho
  · by_cases h3 : (∃ j : Nat, j < n ∧ v2 = nI j) ∧ (∃ j : Nat, j < n ∧ v3 = nI j) ∧ (∃ j : Nat, j < n ∧ v4 = nI j)
    · obtain ⟨⟨a, ha, rfl⟩, ⟨b, hb, rfl⟩, ⟨d, hd, rfl⟩⟩ := h3
      by_cases h20 : c < 20
      · have hv : vp_in (nI c) 20 := vp_in_nI h20 (by decide)
        have hl : nI c < 20 := nI_lt (b := 20) h20 (by decide)
        have J2 : i_Rel (k + 5) (nI n, nI (2 ^ n), nI (c + 1), T, upd R (nI c).toNatClampNeg (nI j), upd X (nI c).toNatClampNeg (nI a), upd Y (nI c).toNatClampNeg (nI b), upd Z (nI c).toNatClampNeg (nI d), A) (nI n, nI (c + 1), T, A, upd R (nI c).toNatClampNeg (nI j), upd X (nI c).toNatClampNeg (nI a), upd Y (nI c).toNatClampNeg (nI b), upd Z (nI c).toNatClampNeg (nI d)) := by
          refine ⟨n, c + 1, T, _, _, _, _, A, rfl, rfl, hn, by omega, fun i hi => ?_⟩
          rw [nI_clamp (by omega)]
          unfold upd
          by_cases z : i = c
          · rw [if_pos z]
            exact vp_in_nI hj (by decide)
          · rw [if_neg z]
            exact hR i (by omega)
        exact rn_xR1 hj (rn_k1 (rn_xA1 hn ha hb hd (rn_k1 (br_t hl ⟨hv, nm_e ⟨hv, nm_e ⟨hv, nm_e ⟨hv, nm_e (nm_r (nI_1 c) (rn_yR1 hj (rn_k0 (rn_y31 hn ha hb hd (br_t hl ⟨hv, nm_e ⟨hv, nm_e ⟨hv, nm_e ⟨hv, nm_e (nm_r (nI_1 c) ⟨nI_pred c, J2⟩)⟩⟩⟩⟩)))))⟩⟩⟩⟩))))
      · have hl : ¬ nI c < 20 := nI_nlt (b := 20) (by omega) (by omega)
        exact rn_xR1 hj (rn_k1 (rn_xA1 hn ha hb hd (rn_k1 (br_f hl (rn_yR1 hj (rn_k0 (rn_y31 hn ha hb hd (br_f hl ⟨rfl, J⟩))))))))
    · exact rn_xR1 hj (rn_k1 (rn_xA0 hn h3 (rn_k0 (rn_yR1 hj (rn_k0 (rn_y30 hn h3 ⟨rfl, J⟩))))))
  · exact rn_xR0 ho (rn_k0 (rn_yR0 ho (rn_k1 ⟨rfl, J⟩)))
theorem i_vc_retract {k : Nat} {u : SX} {v : SY} (I : i_Rel k u v) (hk : k + 5 ≤ 2561) (v1 : Int32) : wpX_retract (fun r u' => wpY_retract (fun r' v' => r' = r ∧ i_Rel (k + 5) u' v') v v1) u v1 := by
  have J : i_Rel (k + 5) u v := I
  obtain ⟨n, c, T, R, X, Y, Z, A, rfl, rfl, hn, hc, hR⟩ := I
  unfold wpX_retract wpY_retract
  dsimp only
  rcases rn_io c (by omega) v1 with ⟨j, hj, rfl⟩ | ho
  · have hv : vp_in (nI j) 20 := vp_in_nI (by omega) (by decide)
    obtain ⟨R', X', Y', Z', hR', hX, hY⟩ := rn_ret (n := n) (T := T) (A := A) (R (nI j).toNatClampNeg) hc (c - (j + 1)) j (by omega) R X Y Z hR
    have J2 : i_Rel (k + 5) (nI n, nI (2 ^ n), nI (c - 1), T, R', X', Y', Z', A) (nI n, nI (c - 1), T, A, R', X', Y', Z') := ⟨n, c - 1, T, R', X', Y', Z', A, rfl, rfl, hn, by omega, hR'⟩
    exact rn_xP1 hc hj (rn_k1 ⟨hv, nm_e (nm_r (nI_1 j) ⟨c - (j + 1) + 1, hX _ (rn_yP1 hc hj (rn_k0 ⟨hv, nm_e ⟨c - (j + 1) + 1, hY _ ⟨rfl, J2⟩⟩⟩))⟩)⟩)
  · exact rn_xP0 ho (rn_k0 (rn_yP0 ho (rn_k1 ⟨rfl, J⟩)))
theorem i_vc_assume {k : Nat} {u : SX} {v : SY} (I : i_Rel k u v) (hk : k + 5 ≤ 2561) (v1 : Int32) (v2 : Int32) : wpX_assume (fun r u' => wpY_assume (fun r' v' => r' = r ∧ i_Rel (k + 5) u' v') v v1 v2) u v1 v2 := by
  have J : i_Rel (k + 5) u v := I
  obtain ⟨n, c, T, R, X, Y, Z, A, rfl, rfl, hn, hc, hR⟩ := I
  unfold wpX_assume wpY_assume
  dsimp only
  rcases rn_io n (by omega) v1 with ⟨j, hj, rfl⟩ | ho
  · have hv : vp_in (nI j) 8 := vp_in_nI (by omega) (by decide)
    by_cases h0 : v2 < 0
    · exact rn_xV1 hn hj (rn_k1 (br_t h0 (rn_yV1 hn hj (rn_k0 (br_t h0 ⟨rfl, J⟩)))))
    · by_cases h1 : v2 ≤ 2
      · have J2 : i_Rel (k + 5) (nI n, nI (2 ^ n), nI c, T, R, X, Y, Z, upd A (nI j).toNatClampNeg v2) (nI n, nI c, T, upd A (nI j).toNatClampNeg v2, R, X, Y, Z) := ⟨n, c, T, R, X, Y, Z, _, rfl, rfl, hn, hc, hR⟩
        exact rn_xV1 hn hj (rn_k1 (br_f h0 (br_t h1 ⟨hv, nm_e ⟨hv, nm_e (rn_yV1 hn hj (rn_k0 (br_f h0 (br_t h1 ⟨hv, nm_e ⟨hv, nm_e ⟨rfl, J2⟩⟩⟩))))⟩⟩)))
      · exact rn_xV1 hn hj (rn_k1 (br_f h0 (br_f h1 (rn_yV1 hn hj (rn_k0 (br_f h0 (br_f h1 ⟨rfl, J⟩)))))))
  · exact rn_xV0 ho (rn_k0 (rn_yV0 ho (rn_k1 ⟨rfl, J⟩)))
theorem i_vc_size {k : Nat} {u : SX} {v : SY} (I : i_Rel k u v) (hk : k + 5 ≤ 2561) : wpX_size (fun r => wpY_size (fun r' => r' = r ∧ i_Rel (k + 5) u v) v) u := by
  have J : i_Rel (k + 5) u v := I
  obtain ⟨n, c, T, R, X, Y, Z, A, rfl, rfl, hn, hc, hR⟩ := I
  exact And.intro rfl J
theorem i_vc_table {k : Nat} {u : SX} {v : SY} (I : i_Rel k u v) (hk : k + 5 ≤ 2561) (v1 : Int32) : wpX_table (fun r => wpY_table (fun r' => r' = r ∧ i_Rel (k + 5) u v) v v1) u v1 := by
  have J : i_Rel (k + 5) u v := I
  obtain ⟨n, c, T, R, X, Y, Z, A, rfl, rfl, hn, hc, hR⟩ := I
  unfold wpX_table wpY_table
  dsimp only
  rcases rn_io 6 (by decide) v1 with ⟨j, hj, rfl⟩ | ho
  · have hv : vp_in (nI j) 6 := vp_in_nI hj (by decide)
    exact rn_xR1 hj (rn_k1 ⟨hv, rn_yR1 hj (rn_k0 ⟨hv, rfl, J⟩)⟩)
  · exact rn_xR0 ho (rn_k0 (rn_yR0 ho (rn_k1 ⟨rfl, J⟩)))
theorem i_vc_traits {k : Nat} {u : SX} {v : SY} (I : i_Rel k u v) (hk : k + 5 ≤ 2561) (v1 : Int32) : wpX_traits (fun r => wpY_traits (fun r' => r' = r ∧ i_Rel (k + 5) u v) v v1) u v1 := by
  have J : i_Rel (k + 5) u v := I
  obtain ⟨n, c, T, R, X, Y, Z, A, rfl, rfl, hn, hc, hR⟩ := I
  unfold wpX_traits
  dsimp only
  rcases rn_io 6 (by decide) v1 with ⟨j, hj, rfl⟩ | ho
  · have hv : vp_in (nI j) 6 := vp_in_nI hj (by decide)
    obtain ⟨z, o, m, i, a, p, f, F⟩ := rn_flE (T (nI j).toNatClampNeg)
    exact rn_xR1 hj (rn_k1 ⟨hv, rn_xT F (rn_yT hv F ⟨rfl, J⟩)⟩)
  · unfold wpY_traits
    dsimp only
    exact rn_xR0 ho (rn_k0 (rn_yR0 ho (rn_k1 ⟨rfl, J⟩)))
theorem i_vc_netTraits {k : Nat} {u : SX} {v : SY} (I : i_Rel k u v) (hk : k + 5 ≤ 2561) : wpX_netTraits (fun r => wpY_netTraits (fun r' => r' = r ∧ i_Rel (k + 5) u v) v) u := by
  have J : i_Rel (k + 5) u v := I
  obtain ⟨n, c, T, R, X, Y, Z, A, rfl, rfl, hn, hc, hR⟩ := I
  obtain ⟨r, hX, hY⟩ := rn_net (T := T) (X := X) (Y := Y) (Z := Z) (A := A) hn hc hR c 0 (by omega) 127
  exact ⟨c + 1, hX _ ⟨c + 1, hY _ ⟨rfl, J⟩⟩⟩
theorem i_vc_satisfiable {k : Nat} {u : SX} {v : SY} (I : i_Rel k u v) (hk : k + 5 ≤ 2561) : wpX_satisfiable (fun r => wpY_satisfiable (fun r' => r' = r ∧ i_Rel (k + 5) u v) v) u := by
  have J : i_Rel (k + 5) u v := I
  obtain ⟨n, c, T, R, X, Y, Z, A, rfl, rfl, hn, hc, hR⟩ := I
  obtain ⟨r, q, hq, hX, _, hZ⟩ := rn_first (T := T) (X := X) (Y := Y) (Z := Z) (A := A) hn hc hR (2 ^ n) 0 (by omega)
  unfold wpX_satisfiable
  dsimp only
  refine ⟨2 ^ n + 1, hX _ ?_⟩
  rcases hq with ⟨hr, rfl⟩ | ⟨hr, rfl⟩
  · exact br_t hr ⟨2 ^ n + 1, hZ _ ⟨rfl, J⟩⟩
  · exact br_f hr ⟨2 ^ n + 1, hZ _ ⟨rfl, J⟩⟩
theorem i_vc_solutions {k : Nat} {u : SX} {v : SY} (I : i_Rel k u v) (hk : k + 5 ≤ 2561) : wpX_solutions (fun r => wpY_solutions (fun r' => r' = r ∧ i_Rel (k + 5) u v) v) u := by
  have J : i_Rel (k + 5) u v := I
  obtain ⟨n, c, T, R, X, Y, Z, A, rfl, rfl, hn, hc, hR⟩ := I
  obtain ⟨r, hX, hY⟩ := rn_solu (T := T) (X := X) (Y := Y) (Z := Z) (A := A) hn hc hR (2 ^ n) 0 (by omega) 0
  exact ⟨2 ^ n + 1, hX _ ⟨2 ^ n + 1, hY _ ⟨rfl, J⟩⟩⟩
theorem i_vc_least {k : Nat} {u : SX} {v : SY} (I : i_Rel k u v) (hk : k + 5 ≤ 2561) : wpX_least (fun r => wpY_least (fun r' => r' = r ∧ i_Rel (k + 5) u v) v) u := by
  have J : i_Rel (k + 5) u v := I
  obtain ⟨n, c, T, R, X, Y, Z, A, rfl, rfl, hn, hc, hR⟩ := I
  obtain ⟨r, q, _, hX, hY, _⟩ := rn_first (T := T) (X := X) (Y := Y) (Z := Z) (A := A) hn hc hR (2 ^ n) 0 (by omega)
  unfold wpX_least
  dsimp only
  exact ⟨2 ^ n + 1, hX _ ⟨2 ^ n + 1, hY _ ⟨rfl, J⟩⟩⟩
theorem i_vc_greatest {k : Nat} {u : SX} {v : SY} (I : i_Rel k u v) (hk : k + 5 ≤ 2561) : wpX_greatest (fun r => wpY_greatest (fun r' => r' = r ∧ i_Rel (k + 5) u v) v) u := by
  have J : i_Rel (k + 5) u v := I
  obtain ⟨n, c, T, R, X, Y, Z, A, rfl, rfl, hn, hc, hR⟩ := I
  unfold wpX_greatest
  dsimp only
  intro x ex
  subst ex
  exact ⟨2 ^ n + 1, rn_grX hn hc hR (fun r hr => ⟨2 ^ n + 1, rn_grY hn hc hR (fun q hq => ⟨rn_gru hr hq, J⟩) (2 ^ n) 0 (by omega) (-1) (Or.inl ⟨rfl, fun j hj => absurd hj (by omega)⟩)⟩) (2 ^ n) (Nat.le_refl _) (fun j h1 h2 => absurd h1 (by omega))⟩
theorem i_vc_next {k : Nat} {u : SX} {v : SY} (I : i_Rel k u v) (hk : k + 5 ≤ 2561) (v1 : Int32) : wpX_next (fun r => wpY_next (fun r' => r' = r ∧ i_Rel (k + 5) u v) v v1) u v1 := by
  have J : i_Rel (k + 5) u v := I
  obtain ⟨n, c, T, R, X, Y, Z, A, rfl, rfl, hn, hc, hR⟩ := I
  obtain ⟨r, hX, hY⟩ := rn_next v1 (T := T) (X := X) (Y := Y) (Z := Z) (A := A) hn hc hR (2 ^ n) 0 (by omega)
  unfold wpX_next
  dsimp only
  exact ⟨2 ^ n + 1, hX _ ⟨2 ^ n + 1, hY _ ⟨rfl, J⟩⟩⟩
theorem i_vc_possible {k : Nat} {u : SX} {v : SY} (I : i_Rel k u v) (hk : k + 5 ≤ 2561) (v1 : Int32) (v2 : Int32) : wpX_possible (fun r => wpY_possible (fun r' => r' = r ∧ i_Rel (k + 5) u v) v v1 v2) u v1 v2 := by
  have J : i_Rel (k + 5) u v := I
  obtain ⟨n, c, T, R, X, Y, Z, A, rfl, rfl, hn, hc, hR⟩ := I
  unfold wpX_possible wpY_possible
  dsimp only
  rcases rn_io n (by omega) v1 with ⟨j, hj, rfl⟩ | ho
  · rcases rn_io 2 (by decide) v2 with ⟨b, hb, rfl⟩ | ho2
    · obtain ⟨r, hX, hY⟩ := rn_poss (nI j) (nI b) (T := T) (X := X) (Y := Y) (Z := Z) (A := A) hn hc hR (2 ^ n) 0 (by omega)
      refine rn_xV1 hn hj (rn_k1 (br_f (nI_pos (by omega)) (br_t (nI_le (b := 1) (by omega) (by decide)) ⟨2 ^ n + 1, hX _ (rn_yV1 hn hj (rn_k0 ?_))⟩)))
      have hb2 : b = 0 ∨ b = 1 := by omega
      rcases hb2 with rfl | rfl
      · exact br_t rfl ⟨2 ^ n + 1, hY _ ⟨rfl, J⟩⟩
      · exact br_f (by decide) (br_t rfl ⟨2 ^ n + 1, hY _ ⟨rfl, J⟩⟩)
    · have h0 : ¬ v2 = 0 := fun e => absurd (e ▸ ho2) (by decide)
      have h1 : ¬ v2 = 1 := fun e => absurd (e ▸ ho2) (by decide)
      have P : wpY_badVar (fun r_1 => (r_1 = 0 → (v2 = 0 → ∃ n24, wY_possible_24 (fun r' => r' = -2 ∧ i_Rel (k + 5) (nI n, nI (2 ^ n), nI c, T, R, X, Y, Z, A) (nI n, nI c, T, A, R, X, Y, Z)) (nI j) v2 (nI n) (nI c) T A R X Y Z n24 0) ∧ (¬ v2 = 0 → (v2 = 1 → ∃ n24, wY_possible_24 (fun r' => r' = -2 ∧ i_Rel (k + 5) (nI n, nI (2 ^ n), nI c, T, R, X, Y, Z, A) (nI n, nI c, T, A, R, X, Y, Z)) (nI j) v2 (nI n) (nI c) T A R X Y Z n24 0) ∧ (¬ v2 = 1 → (-2 : Int32) = -2 ∧ i_Rel (k + 5) (nI n, nI (2 ^ n), nI c, T, R, X, Y, Z, A) (nI n, nI c, T, A, R, X, Y, Z)))) ∧ (¬ r_1 = 0 → (-1 : Int32) = -2 ∧ i_Rel (k + 5) (nI n, nI (2 ^ n), nI c, T, R, X, Y, Z, A) (nI n, nI c, T, A, R, X, Y, Z))) (nI n, nI c, T, A, R, X, Y, Z) (nI j) :=
        rn_yV1 hn hj (rn_k0 (br_f h0 (br_f h1 ⟨rfl, J⟩)))
      exact rn_xV1 hn hj (rn_k1 (rn_cut (K := True) ho2 P (fun h => br_f (rn_lits 1 (by decide) h) P) id))
  · exact rn_xV0 ho (rn_k0 (rn_yV0 ho (rn_k1 ⟨rfl, J⟩)))
theorem i_vc_alwaysOne {k : Nat} {u : SX} {v : SY} (I : i_Rel k u v) (hk : k + 5 ≤ 2561) : wpX_alwaysOne (fun r => wpY_alwaysOne (fun r' => r' = r ∧ i_Rel (k + 5) u v) v) u := by
  have J : i_Rel (k + 5) u v := I
  obtain ⟨n, c, T, R, X, Y, Z, A, rfl, rfl, hn, hc, hR⟩ := I
  obtain ⟨r, hX, hY⟩ := rn_ones (T := T) (X := X) (Y := Y) (Z := Z) (A := A) hn hc hR (2 ^ n) 0 (by omega) (nI (2 ^ n) - 1) 0
  unfold wpX_alwaysOne wpX_onesInEverySolution wpY_alwaysOne
  dsimp only
  intro x ex
  subst ex
  refine ⟨2 ^ n + 1, hX _ (rn_yall hn ?_)⟩
  intro y ey
  subst ey
  exact ⟨2 ^ n + 1, hY _ ⟨rfl, J⟩⟩
theorem i_vc_alwaysZero {k : Nat} {u : SX} {v : SY} (I : i_Rel k u v) (hk : k + 5 ≤ 2561) : wpX_alwaysZero (fun r => wpY_alwaysZero (fun r' => r' = r ∧ i_Rel (k + 5) u v) v) u := by
  have J : i_Rel (k + 5) u v := I
  obtain ⟨n, c, T, R, X, Y, Z, A, rfl, rfl, hn, hc, hR⟩ := I
  obtain ⟨r, hX, hY⟩ := rn_zers (T := T) (X := X) (Y := Y) (Z := Z) (A := A) hn hc hR (2 ^ n) 0 (by omega) (nI (2 ^ n) - 1) 0
  unfold wpX_alwaysZero wpX_onesInEverySolution wpY_alwaysZero
  dsimp only
  intro x ex
  subst ex
  refine ⟨2 ^ n + 1, hX _ (rn_yall hn ?_)⟩
  intro y ey
  subst ey
  exact ⟨2 ^ n + 1, hY _ ⟨rfl, J⟩⟩
theorem i_vc_pairs {k : Nat} {u : SX} {v : SY} (I : i_Rel k u v) (hk : k + 5 ≤ 2561) (v1 : Int32) (v2 : Int32) : wpX_pairs (fun r => wpY_pairs (fun r' => r' = r ∧ i_Rel (k + 5) u v) v v1 v2) u v1 v2 := by
  have J : i_Rel (k + 5) u v := I
  obtain ⟨n, c, T, R, X, Y, Z, A, rfl, rfl, hn, hc, hR⟩ := I
  unfold wpX_pairs wpY_pairs
  dsimp only
  rcases rn_io n (by omega) v1 with ⟨j, hj, rfl⟩ | ho
  · rcases rn_io n (by omega) v2 with ⟨b, hb, rfl⟩ | ho2
    · obtain ⟨r, hX, hY⟩ := rn_pair (nI j) (nI b) (T := T) (X := X) (Y := Y) (Z := Z) (A := A) hn hc hR (2 ^ n) 0 (by omega) 0
      exact rn_xV1 hn hj (rn_k1 (rn_xV1 hn hb (rn_k1 ⟨2 ^ n + 1, hX _ (rn_yV1 hn hj (rn_k0 (rn_yV1 hn hb (rn_k0 ⟨2 ^ n + 1, hY _ ⟨rfl, J⟩⟩))))⟩)))
    · exact rn_xV1 hn hj (rn_k1 (rn_xV0 ho2 (rn_k0 (rn_yV1 hn hj (rn_k0 (rn_yV0 ho2 (rn_k1 ⟨rfl, J⟩)))))))
  · exact rn_xV0 ho (rn_k0 (rn_yV0 ho (rn_k1 ⟨rfl, J⟩)))
theorem i_vc_entails {k : Nat} {u : SX} {v : SY} (I : i_Rel k u v) (hk : k + 5 ≤ 2561) (v1 : Int32) (v2 : Int32) (v3 : Int32) (v4 : Int32) : wpX_entails (fun r => wpY_entails (fun r' => r' = r ∧ i_Rel (k + 5) u v) v v1 v2 v3 v4) u v1 v2 v3 v4 := by
  have J : i_Rel (k + 5) u v := I
  obtain ⟨n, c, T, R, X, Y, Z, A, rfl, rfl, hn, hc, hR⟩ := I
  unfold wpX_entails wpY_entails
  dsimp only
  rcases rn_io 6 (by decide) v1 with ⟨j, hj, rfl⟩ | ho
  · by_cases h3 : (∃ j : Nat, j < n ∧ v2 = nI j) ∧ (∃ j : Nat, j < n ∧ v3 = nI j) ∧ (∃ j : Nat, j < n ∧ v4 = nI j)
    · obtain ⟨⟨a, ha, rfl⟩, ⟨b, hb, rfl⟩, ⟨d, hd, rfl⟩⟩ := h3
      have hv : vp_in (nI j) 6 := vp_in_nI hj (by decide)
      obtain ⟨r, hX, hY⟩ := rn_ent (r0 := nI j) (x := nI a) (y := nI b) (z := nI d) hv (T := T) (X := X) (Y := Y) (Z := Z) (A := A) hn hc hR (2 ^ n) 0 (by omega)
      exact rn_xR1 hj (rn_k1 (rn_xA1 hn ha hb hd (rn_k1 ⟨2 ^ n + 1, hX _ (rn_yR1 hj (rn_k0 (rn_y31 hn ha hb hd ⟨2 ^ n + 1, hY _ ⟨rfl, J⟩⟩)))⟩)))
    · exact rn_xR1 hj (rn_k1 (rn_xA0 hn h3 (rn_k0 (rn_yR1 hj (rn_k0 (rn_y30 hn h3 ⟨rfl, J⟩))))))
  · exact rn_xR0 ho (rn_k0 (rn_yR0 ho (rn_k1 ⟨rfl, J⟩)))
theorem i_vc_redundant {k : Nat} {u : SX} {v : SY} (I : i_Rel k u v) (hk : k + 5 ≤ 2561) (v1 : Int32) : wpX_redundant (fun r => wpY_redundant (fun r' => r' = r ∧ i_Rel (k + 5) u v) v v1) u v1 := by
  have J : i_Rel (k + 5) u v := I
  obtain ⟨n, c, T, R, X, Y, Z, A, rfl, rfl, hn, hc, hR⟩ := I
  unfold wpX_redundant wpY_redundant
  dsimp only
  rcases rn_io c (by omega) v1 with ⟨j, hj, rfl⟩ | ho
  · obtain ⟨r, hX, hY⟩ := rn_red hj (T := T) (X := X) (Y := Y) (Z := Z) (A := A) hn hc hR (2 ^ n) 0 (by omega)
    exact rn_xP1 hc hj (rn_k1 ⟨2 ^ n + 1, hX _ (rn_yP1 hc hj (rn_k0 ⟨2 ^ n + 1, hY _ ⟨rfl, J⟩⟩))⟩)
  · exact rn_xP0 ho (rn_k0 (rn_yP0 ho (rn_k1 ⟨rfl, J⟩)))
end
