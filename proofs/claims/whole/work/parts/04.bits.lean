/-! Int32 words as masks (pk_ and s_l, nx_ rows: kit/rows) -/
theorem pk_us {f : Nat → Int32} {k : Nat} {x : Int32} : upd f k x k = x := if_pos rfl
theorem pk_un {f : Nat → Int32} {k j : Nat} {x : Int32} (h : j ≠ k) : upd f k x j = f j := if_neg h
theorem pk_sub {a b : Nat} (h : b ≤ a) : nI a - nI b = nI (a - b) := by
  obtain ⟨c, rfl⟩ : ∃ c, a = c + b := ⟨a - b, by omega⟩
  rw [← nI_add, Int32.add_sub_cancel, Nat.add_sub_cancel]
theorem pk_m1 (n : Nat) : nI (n + 1) + (-1) = nI n := by
  rw [← nI_1, Int32.add_assoc, show (1 : Int32) + (-1) = 0 from rfl, Int32.add_zero]
theorem pk_le {x y : Int32} {A B : Prop} (a b : Nat) (f : a ≤ b → A) (g : b < a → B) (hx : x = nI a := by rfl) (hy : y = nI b := by rfl) (ha : a < 2 ^ 31 := by omega) (hb : b < 2 ^ 31 := by omega) : (x ≤ y → A) ∧ (¬ x ≤ y → B) := by
  subst hx hy
  rw [nI_leI ha hb]
  exact ⟨f, fun z => g (by omega)⟩
theorem pk_lt {x y : Int32} {A B : Prop} (a b : Nat) (f : a < b → A) (g : b ≤ a → B) (hx : x = nI a := by rfl) (hy : y = nI b := by rfl) (ha : a < 2 ^ 31 := by omega) (hb : b < 2 ^ 31 := by omega) : (x < y → A) ∧ (¬ x < y → B) := by
  subst hx hy
  rw [nI_ltI ha hb]
  exact ⟨f, fun z => g (by omega)⟩
theorem pk_eq {x y : Int32} {A B : Prop} (a b : Nat) (f : a = b → A) (g : a ≠ b → B) (hx : x = nI a := by rfl) (hy : y = nI b := by rfl) (ha : a < 2 ^ 31 := by omega) (hb : b < 2 ^ 31 := by omega) : (x = y → A) ∧ (¬ x = y → B) := by
  subst hx hy
  rw [nI_eq ha hb]
  exact ⟨f, g⟩
theorem pk_in {x : Int32} (n N : Nat) (h : n < N) (hx : x = nI n := by rfl) (hN : N < 2 ^ 31 := by omega) : vp_in x N := by
  subst hx
  exact vp_in_nI h hN
theorem pk_cl {x : Int32} (n : Nat) (hx : x = nI n := by rfl) (h : n < 2 ^ 31 := by omega) : x.toNatClampNeg = n := by
  subst hx
  exact nI_clamp h
theorem pk_tn {n : Nat} (h : n < 2 ^ 32) : (nI n).toBitVec.toNat = n := Nat.mod_eq_of_lt h
theorem pk_shr (a s : Int32) (k : Nat) (hs : (s.toBitVec.smod 32).toNat = k) : (a >>> s).toInt = a.toInt >>> k := by
  show (a.toBitVec.sshiftRight (s.toBitVec.smod 32).toNat).toInt = _
  rw [hs, BitVec.toInt_sshiftRight]
  rfl
theorem pk_shrN {n : Nat} (h : n < 2 ^ 31) (s : Int32) (k : Nat) (hs : (s.toBitVec.smod 32).toNat = k) : nI n >>> s = nI (n / 2 ^ k) := by
  apply Int32.toInt_inj.mp
  have h2 : n / 2 ^ k ≤ n := Nat.div_le_self _ _
  rw [pk_shr _ _ k hs, nI_toInt h, nI_toInt (by omega), Int.shiftRight_eq_div_pow]
  rfl
theorem s_l : ∀ n, n < 32 → ((nI n &&& 31).toBitVec.smod 32).toNat = n := by decide +kernel
theorem nx_and (a b : Nat) : nI a &&& nI b = nI (a &&& b) := by
  apply Int32.toBitVec_inj.1
  show BitVec.ofNat 32 a &&& BitVec.ofNat 32 b = BitVec.ofNat 32 (a &&& b)
  apply BitVec.eq_of_getLsbD_eq
  intro i hi
  simp [hi]
theorem pc_nor (a b : Nat) : nI a ||| nI b = nI (a ||| b) := by
  apply Int32.toBitVec_inj.1
  show BitVec.ofNat 32 a ||| BitVec.ofNat 32 b = BitVec.ofNat 32 (a ||| b)
  apply BitVec.eq_of_getLsbD_eq
  intro i hi
  simp [hi]
theorem pc_m1b : (-1 : Int32).toBitVec = BitVec.allOnes 32 := by decide
theorem pc_nnot (s p : Nat) : nI s &&& (nI p ^^^ (-1)) = nI (pc_df s p) := by
  apply Int32.toBitVec_inj.1
  rw [Int32.toBitVec_and, Int32.toBitVec_xor, pc_m1b]
  show BitVec.ofNat 32 s &&& (BitVec.ofNat 32 p ^^^ BitVec.allOnes 32) = BitVec.ofNat 32 (pc_df s p)
  apply BitVec.eq_of_getLsbD_eq
  intro i hi
  simp only [BitVec.getLsbD_and, BitVec.getLsbD_xor, BitVec.getLsbD_ofNat, BitVec.getLsbD_allOnes, hi, decide_true, Bool.true_and, pc_df_t, Bool.xor_true]
theorem pc_shl : ∀ v, v < 10 → ((1 : Int32) <<< (nI v &&& 31)) = nI (2 ^ v) := by decide +kernel
theorem pc_bitN {s v : Nat} (hs : s < 1024) (hv : v < 10) : (nI s >>> (nI v &&& 31)) &&& 1 = nI (s.testBit v).toNat := by
  rw [pk_shrN (by omega) _ v (s_l v (by omega)), Nat.toNat_testBit]
  show nI (s / 2 ^ v) &&& nI 1 = _
  rw [nx_and, Nat.and_one_is_mod]
def pc_low : Nat → Nat → Nat
  | 0, _ => 0
  | f + 1, s => if s % 2 = 1 then 0 else pc_low f (s / 2) + 1
theorem pc_low_d : ∀ s, s < 1024 → s = 0 ∨ (nI s &&& -(nI s) = nI (2 ^ pc_low 10 s) ∧ s.testBit (pc_low 10 s) = true ∧ s % 2 ^ pc_low 10 s = 0) := by decide +kernel
theorem pc_low_s {s : Nat} (hs : s < 1024) (h0 : s ≠ 0) : ∃ a, pc_Lo s a ∧ nI s &&& -(nI s) = nI (2 ^ a) := by
  obtain ⟨h1, h2, h3⟩ := (pc_low_d s hs).resolve_left h0
  refine ⟨_, ⟨h2, fun w hw => ?_⟩, h1⟩
  rcases Nat.lt_or_ge w (pc_low 10 s) with z | z
  · have e := Nat.testBit_mod_two_pow s (pc_low 10 s) w
    rw [h3, Nat.zero_testBit, decide_eq_true z, hw] at e
    exact absurd e (by decide)
  · exact z
theorem pc_and2 (p a : Nat) : p &&& 2 ^ a = 0 ↔ ¬ p.testBit a = true := by
  constructor
  · intro h z
    have e := Nat.testBit_and p (2 ^ a) a
    rw [h, Nat.zero_testBit, z, Nat.testBit_two_pow, decide_eq_true rfl] at e
    exact absurd e (by decide)
  · intro h
    apply Nat.eq_of_testBit_eq
    intro v
    rw [Nat.testBit_and, Nat.testBit_two_pow, Nat.zero_testBit]
    by_cases e : a = v
    · subst e
      cases x : p.testBit a
      · rfl
      · exact absurd x h
    · rw [decide_eq_false e, Bool.and_false]
theorem pc_and0 (p q : Nat) : p &&& q = 0 ↔ ∀ v, p.testBit v = true → q.testBit v = true → False := by
  constructor
  · intro h v h1 h2
    have e := Nat.testBit_and p q v
    rw [h, Nat.zero_testBit, h1, h2] at e
    exact absurd e (by decide)
  · intro h
    apply Nat.eq_of_testBit_eq
    intro v
    rw [Nat.testBit_and, Nat.zero_testBit]
    cases x : p.testBit v
    · rfl
    · cases y : q.testBit v
      · rfl
      · exact (h v x y).elim
theorem pc_df0 (s p : Nat) : pc_df s p = 0 ↔ ∀ v, s.testBit v = true → p.testBit v = true := by
  constructor
  · intro h v h1
    have e := pc_df_t s p v
    rw [h, Nat.zero_testBit, h1] at e
    cases y : p.testBit v
    · rw [y] at e; exact absurd e (by decide)
    · rfl
  · intro h
    apply Nat.eq_of_testBit_eq
    intro v
    rw [pc_df_t, Nat.zero_testBit]
    cases x : s.testBit v
    · rfl
    · rw [h v x]; rfl
theorem pc_andlt (p : Nat) {q : Nat} (h : q < 1024) : p &&& q < 1024 := Nat.and_lt_two_pow (n := 10) p h
theorem pc_orlt {p q : Nat} (hp : p < 1024) (h : q < 1024) : p ||| q < 1024 := Nat.or_lt_two_pow (n := 10) hp h
theorem pc_dflt {p : Nat} (q : Nat) (hp : p < 1024) : pc_df p q < 1024 := Nat.lt_of_le_of_lt (pc_df_le p q) hp
theorem pc_eq0 {a : Nat} (h : a < 2 ^ 31) : nI a = 0 ↔ a = 0 := nI_eq (b := 0) h (by decide)
