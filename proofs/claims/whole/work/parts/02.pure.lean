/-! numbers, membership, the seven traits: nothing of the printed walks -/
theorem rn_or (a b : Nat) : nI a ||| nI b = nI (a ||| b) := by
  apply Int32.toBitVec_inj.1
  show BitVec.ofNat 32 a ||| BitVec.ofNat 32 b = BitVec.ofNat 32 (a ||| b)
  apply BitVec.eq_of_getLsbD_eq
  intro i hi
  simp [hi]
theorem rn_all2 : ∀ n, n < 9 → (1 : Int32) <<< (nI n &&& 31) = nI (2 ^ n) := by decide +kernel
theorem rn_pw : ∀ n, n < 9 → 0 < 2 ^ n ∧ 2 ^ n < 257 := by decide +kernel
theorem rn_b {P : Prop} : ∃ c : Bool, (c = true ↔ P) := by
  by_cases h : P
  · exact ⟨true, by simp [h]⟩
  · exact ⟨false, by simp [h]⟩
theorem rn_ba {a : Nat} {b : Nat} (ha : a < 8) (hb : b < 8) : a &&& b < 8 := Nat.and_lt_two_pow (n := 3) a hb
theorem rn_bo {a : Nat} {b : Nat} (ha : a < 8) (hb : b < 8) : a ||| b < 8 := Nat.or_lt_two_pow (n := 3) ha hb
theorem rn_bx {a : Nat} {b : Nat} (ha : a < 8) (hb : b < 8) : a ^^^ b < 8 := Nat.xor_lt_two_pow (n := 3) ha hb
/-- the triple t belongs to the table T -/
def rn_mb (T : Int32) (t : Nat) : Prop := (T >>> (nI t &&& 31)) &&& 1 = 1
def rn_c2 (b : Nat → Prop) (f : Nat → Nat → Nat) : Prop := ∀ s, s < 8 → ∀ t, t < 8 → b s → b t → b (f s t)
def rn_c3 (b : Nat → Prop) (f : Nat → Nat → Nat → Nat) : Prop := ∀ s, s < 8 → ∀ t, t < 8 → ∀ u, u < 8 → b s → b t → b u → b (f s t u)
def rn_c1 (b : Nat → Prop) (f : Nat → Nat) : Prop := ∀ t, t < 8 → b t → b (f t)
def rn_fA (s t : Nat) : Nat := s &&& t
def rn_fO (s t : Nat) : Nat := s ||| t
def rn_fM (s t u : Nat) : Nat := ((s &&& t) ||| (s &&& u)) ||| (t &&& u)
def rn_fP (s t u : Nat) : Nat := (s ^^^ t) ^^^ u
def rn_fF (t : Nat) : Nat := t ^^^ 7
/-- the reference's number t below 512 is a triple of triples that f leads out of the relation -/
def rn_ls (b : Nat → Prop) (f : Nat → Nat → Nat → Nat) (t : Nat) : Prop := (b (t % 8) ∧ b (t / 8 % 8) ∧ b (t / 64 % 8)) ∧ ¬ b (f (t % 8) (t / 8 % 8) (t / 64 % 8))
theorem rn_lk3 (b : Nat → Prop) (f : Nat → Nat → Nat → Nat) : (∃ t, t < 512 ∧ rn_ls b f t) ↔ ¬ rn_c3 b f := by
  constructor
  · rintro ⟨t, ht, ⟨h1, h2, h3⟩, h4⟩ h
    exact h4 (h _ (by omega) _ (by omega) _ (by omega) h1 h2 h3)
  · intro h
    apply Classical.byContradiction
    intro hn
    apply h
    intro s hs t ht u hu bs bt bu
    apply Classical.byContradiction
    intro hb
    apply hn
    refine ⟨s + 8 * t + 64 * u, by omega, ?_⟩
    have e1 : (s + 8 * t + 64 * u) % 8 = s := by omega
    have e2 : (s + 8 * t + 64 * u) / 8 % 8 = t := by omega
    have e3 : (s + 8 * t + 64 * u) / 64 % 8 = u := by omega
    unfold rn_ls
    rw [e1, e2, e3]
    exact ⟨⟨bs, bt, bu⟩, hb⟩
theorem rn_c32 (b : Nat → Prop) (f : Nat → Nat → Nat) : rn_c3 b (fun s t _ => f s t) ↔ rn_c2 b f :=
  ⟨fun h s hs t ht bs bt => h s hs t ht t ht bs bt bt, fun h s hs t ht _ _ bs bt _ => h s hs t ht bs bt⟩
theorem rn_c31 (b : Nat → Prop) (f : Nat → Nat) : rn_c3 b (fun s _ _ => f s) ↔ rn_c1 b f :=
  ⟨fun h s hs bs => h s hs s hs s hs bs bs bs, fun h s hs _ _ _ _ bs _ _ => h s hs bs⟩
theorem rn_x7 : ∀ t, t < 8 → 7 - t = t ^^^ 7 := by decide
/-- a flag's worth -/
def rn_bf (c : Bool) (k : Nat) : Nat := cond c k 0
theorem rn_or4 : ∀ c1 c2 c3 c4 c5 : Bool, nI (rn_bf c1 4 + rn_bf c2 8 + rn_bf c3 16 + rn_bf c4 32 + rn_bf c5 64) ||| 4 = nI (rn_bf true 4 + rn_bf c2 8 + rn_bf c3 16 + rn_bf c4 32 + rn_bf c5 64) := by decide +kernel
theorem rn_or8 : ∀ c1 c2 c3 c4 c5 : Bool, nI (rn_bf c1 4 + rn_bf c2 8 + rn_bf c3 16 + rn_bf c4 32 + rn_bf c5 64) ||| 8 = nI (rn_bf c1 4 + rn_bf true 8 + rn_bf c3 16 + rn_bf c4 32 + rn_bf c5 64) := by decide +kernel
theorem rn_or16 : ∀ c1 c2 c3 c4 c5 : Bool, nI (rn_bf c1 4 + rn_bf c2 8 + rn_bf c3 16 + rn_bf c4 32 + rn_bf c5 64) ||| 16 = nI (rn_bf c1 4 + rn_bf c2 8 + rn_bf true 16 + rn_bf c4 32 + rn_bf c5 64) := by decide +kernel
theorem rn_or32 : ∀ c1 c2 c3 c4 c5 : Bool, nI (rn_bf c1 4 + rn_bf c2 8 + rn_bf c3 16 + rn_bf c4 32 + rn_bf c5 64) ||| 32 = nI (rn_bf c1 4 + rn_bf c2 8 + rn_bf c3 16 + rn_bf true 32 + rn_bf c5 64) := by decide +kernel
theorem rn_or64 : ∀ c1 c2 c3 c4 c5 : Bool, nI (rn_bf c1 4 + rn_bf c2 8 + rn_bf c3 16 + rn_bf c4 32 + rn_bf c5 64) ||| 64 = nI (rn_bf c1 4 + rn_bf c2 8 + rn_bf c3 16 + rn_bf c4 32 + rn_bf true 64) := by decide +kernel
/-- what the reference takes away from 127 leaves what the component adds up -/
theorem rn_bfn (c : Bool) (k : Nat) : rn_bf c k + rn_bf (!c) k = k := by cases c <;> simp [rn_bf]
/-- alwaysZero: the reference's all - 1 - m is the component's m flipped -/
theorem rn_flip : ∀ n m, m < 2 ^ n → 2 ^ n - 1 - m = m ^^^ (2 ^ n - 1) := by
  intro n m hm
  have e : 2 ^ n - 1 - m = 2 ^ n - (m + 1) := by omega
  rw [e]
  apply Nat.eq_of_testBit_eq
  intro i
  rw [Nat.testBit_two_pow_sub_succ hm, Nat.testBit_xor, Nat.testBit_two_pow_sub_one]
  by_cases h : i < n
  · simp [h]
  · have : m.testBit i = false := Nat.testBit_lt_two_pow (Nat.lt_of_lt_of_le hm (Nat.pow_le_pow_right (by decide) (by omega)))
    simp [h, this]
