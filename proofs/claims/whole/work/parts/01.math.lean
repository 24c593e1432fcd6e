/-! sums over the first n numbers, sets of vertices as masks -/
def pc_sm (p : Nat → Bool) (w : Nat → Nat) : Nat → Nat
  | 0 => 0
  | n + 1 => pc_sm p w n + (if p n = true then w n else 0)
def pc_one : Nat → Nat := fun _ => 1
def pc_cn (s : Nat) : Nat := pc_sm s.testBit pc_one 10
theorem pc_sm_congr {p q : Nat → Bool} {w : Nat → Nat} : ∀ n, (∀ v, v < n → p v = q v) → pc_sm p w n = pc_sm q w n := by
  intro n
  induction n with
  | zero => intro _; rfl
  | succ n ih =>
    intro h
    show pc_sm p w n + (if p n = true then w n else 0) = pc_sm q w n + (if q n = true then w n else 0)
    rw [ih (fun v hv => h v (by omega)), h n (by omega)]
theorem pc_sm_or {p q r : Nat → Bool} {w : Nat → Nat} : ∀ n, (∀ v, v < n → p v = (q v || r v)) → (∀ v, v < n → q v = true → r v = true → False) → pc_sm p w n = pc_sm q w n + pc_sm r w n := by
  intro n
  induction n with
  | zero => intro _ _; rfl
  | succ n ih =>
    intro h d
    have i := ih (fun v hv => h v (by omega)) (fun v hv => d v (by omega))
    have dn := d n (by omega)
    show pc_sm p w n + (if p n = true then w n else 0) = pc_sm q w n + (if q n = true then w n else 0) + (pc_sm r w n + (if r n = true then w n else 0))
    rw [i, h n (by omega)]
    cases hq : q n <;> cases hr : r n
    · simp
    · simp <;> omega
    · simp <;> omega
    · exact (dn hq hr).elim
theorem pc_sm_le {p : Nat → Bool} {w : Nat → Nat} {c : Nat} : ∀ n, (∀ v, v < n → w v ≤ c) → pc_sm p w n ≤ c * n := by
  intro n
  induction n with
  | zero => intro _; exact Nat.zero_le _
  | succ n ih =>
    intro h
    have i := ih (fun v hv => h v (by omega))
    have hn := h n (by omega)
    show pc_sm p w n + (if p n = true then w n else 0) ≤ c * (n + 1)
    rw [Nat.mul_succ]
    split <;> omega
theorem pc_sm_zero {p : Nat → Bool} {w : Nat → Nat} : ∀ n, (∀ v, v < n → p v = true → False) → pc_sm p w n = 0 := by
  intro n
  induction n with
  | zero => intro _; rfl
  | succ n ih =>
    intro h
    show pc_sm p w n + (if p n = true then w n else 0) = 0
    rw [ih (fun v hv => h v (by omega)), if_neg (fun z => h n (by omega) z)]
theorem pc_sm_single {w : Nat → Nat} (a : Nat) : ∀ n, a < n → pc_sm (fun v => decide (a = v)) w n = w a := by
  intro n
  induction n with
  | zero => intro h; omega
  | succ n ih =>
    intro h
    show pc_sm (fun v => decide (a = v)) w n + (if decide (a = n) = true then w n else 0) = w a
    by_cases e : a = n
    · subst e
      rw [pc_sm_zero a (fun v hv z => by have := of_decide_eq_true z; omega), if_pos (decide_eq_true rfl), Nat.zero_add]
    · rw [ih (by omega), if_neg (fun z => e (of_decide_eq_true z)), Nat.add_zero]
theorem pc_cn_le (s : Nat) : pc_cn s ≤ 10 := pc_sm_le (c := 1) 10 (fun _ _ => Nat.le_refl 1)
/-! masks -/
theorem pc_hi {s v : Nat} (hs : s < 1024) (hv : 10 ≤ v) : s.testBit v = false :=
  Nat.testBit_lt_two_pow (Nat.lt_of_lt_of_le (show s < 2 ^ 10 from hs) (Nat.pow_le_pow_right (by decide) hv))
theorem pc_lo {s v : Nat} (hs : s < 1024) (h : s.testBit v = true) : v < 10 := by
  rcases Nat.lt_or_ge v 10 with z | z
  · exact z
  · rw [pc_hi hs z] at h; exact absurd h (by decide)
theorem pc_lt {s : Nat} (h : ∀ v, s.testBit v = true → v < 10) : s < 1024 := by
  refine Nat.lt_pow_two_of_testBit (n := 10) s (fun i hi => ?_)
  cases e : s.testBit i
  · rfl
  · have := h i e; omega
theorem pc_ext {s t : Nat} (hs : s < 1024) (ht : t < 1024) (h : ∀ v, v < 10 → s.testBit v = t.testBit v) : s = t := by
  apply Nat.eq_of_testBit_eq
  intro v
  rcases Nat.lt_or_ge v 10 with z | z
  · exact h v z
  · rw [pc_hi hs z, pc_hi ht z]
theorem pc_least (P : Nat → Prop) (h : ∃ k, P k) : ∃ k, P k ∧ ∀ j, P j → k ≤ j := by
  obtain ⟨k, hk⟩ := h
  induction k using Nat.strongRecOn with
  | ind k ih =>
    by_cases e : ∃ j, j < k ∧ P j
    · obtain ⟨j, hj, hp⟩ := e
      exact ih j hj hp
    · refine ⟨k, hk, fun j hj => ?_⟩
      rcases Nat.lt_or_ge j k with z | z
      · exact (e ⟨j, z, hj⟩).elim
      · exact z
def pc_Lo (s a : Nat) : Prop := s.testBit a = true ∧ ∀ w, s.testBit w = true → a ≤ w
theorem pc_Lo_ex {s : Nat} (h : s ≠ 0) : ∃ a, pc_Lo s a := pc_least (fun k => s.testBit k = true) (Nat.exists_testBit_of_ne_zero h)
theorem pc_Lo_u {s a b : Nat} (h : pc_Lo s a) (g : pc_Lo s b) : a = b := by
  have h1 := h.2 b g.1
  have h2 := g.2 a h.1
  omega
theorem pc_i (P a v : Nat) : (P ||| 2 ^ a).testBit v = true ↔ P.testBit v = true ∨ v = a := by
  rw [Nat.testBit_or, Nat.testBit_two_pow, Bool.or_eq_true, decide_eq_true_eq]
  exact ⟨fun h => h.imp id Eq.symm, fun h => h.imp id Eq.symm⟩
theorem pc_ilt {P a : Nat} (hP : P < 1024) (ha : a < 10) : P ||| 2 ^ a < 1024 := by
  apply pc_lt
  intro v hv
  rcases (pc_i P a v).mp hv with z | z
  · exact pc_lo hP z
  · omega
def pc_df (s p : Nat) : Nat := s ^^^ (s &&& p)
theorem pc_df_t (s p v : Nat) : (pc_df s p).testBit v = (s.testBit v && !p.testBit v) := by
  unfold pc_df
  rw [Nat.testBit_xor, Nat.testBit_and]
  cases s.testBit v <;> cases p.testBit v <;> rfl
theorem pc_df_i (s p v : Nat) : (pc_df s p).testBit v = true ↔ s.testBit v = true ∧ ¬ p.testBit v = true := by
  rw [pc_df_t]
  cases s.testBit v <;> cases p.testBit v <;> simp
theorem pc_df_le (s p : Nat) : pc_df s p ≤ s := Nat.le_of_testBit (fun v h => ((pc_df_i s p v).mp h).1)
theorem pc_df_ls {s p a : Nat} (hs : s.testBit a = true) (hp : p.testBit a = true) : pc_df s p < s := by
  have h := pc_df_le s p
  have e : pc_df s p ≠ s := by
    intro e
    rw [← e] at hs
    exact ((pc_df_i s p a).mp hs).2 hp
  omega
theorem pc_cn_df {s p : Nat} (h : ∀ v, p.testBit v = true → s.testBit v = true) : pc_cn s = pc_cn (pc_df s p) + pc_cn p := by
  refine pc_sm_or 10 (fun v _ => ?_) (fun v _ h1 h2 => ((pc_df_i s p v).mp h1).2 h2)
  rw [pc_df_t]
  have := h v
  cases hp : p.testBit v
  · simp
  · rw [this hp]; rfl
theorem pc_sm_i {P a : Nat} {w : Nat → Nat} (ha : a < 10) (h : ¬ P.testBit a = true) : pc_sm (P ||| 2 ^ a).testBit w 10 = pc_sm P.testBit w 10 + w a := by
  rw [← pc_sm_single (w := w) a 10 ha]
  refine pc_sm_or 10 (fun v _ => ?_) (fun v _ h1 h2 => ?_)
  · rw [Nat.testBit_or, Nat.testBit_two_pow]
  · have e : a = v := of_decide_eq_true h2
    rw [e] at h; exact h h1
theorem pc_cn_i {P a : Nat} (ha : a < 10) (h : ¬ P.testBit a = true) : pc_cn (P ||| 2 ^ a) = pc_cn P + 1 := pc_sm_i ha h
theorem pc_sm_0 (w : Nat → Nat) : pc_sm (Nat.testBit 0) w 10 = 0 := pc_sm_zero 10 (fun v _ h => by rw [Nat.zero_testBit] at h; exact absurd h (by decide))
theorem pc_or0 (a : Nat) : 2 ^ a = 0 ||| 2 ^ a := by
  apply Nat.eq_of_testBit_eq
  intro v
  rw [Nat.testBit_or, Nat.zero_testBit, Bool.false_or]
theorem pc_n0 (v : Nat) : ¬ Nat.testBit 0 v = true := by rw [Nat.zero_testBit]; decide
/-- a mask with its lowest vertex taken out and put back -/
theorem pc_split {s a : Nat} (h : s.testBit a = true) : s = pc_df s (2 ^ a) ||| 2 ^ a := by
  apply Nat.eq_of_testBit_eq
  intro v
  rw [Nat.testBit_or, pc_df_t, Nat.testBit_two_pow]
  by_cases e : a = v
  · subst e; rw [h]; simp
  · simp [e]
theorem pc_dfa {s a v : Nat} : (pc_df s (2 ^ a)).testBit v = true ↔ s.testBit v = true ∧ v ≠ a := by
  rw [pc_df_i, Nat.testBit_two_pow, decide_eq_true_eq]
  exact ⟨fun h => ⟨h.1, fun z => h.2 z.symm⟩, fun h => ⟨h.1, fun z => h.2 z.symm⟩⟩
/-! rows: each vertex leads to the next one of the set -/
def pc_Row (N : Nat → Nat) (s : Nat) : Prop := ∀ u v, u < v → s.testBit u = true → s.testBit v = true → (∀ w, u < w → w < v → s.testBit w = true → False) → (N u).testBit v = true
def pc_Up (N : Nat → Nat) : Prop := ∀ a b, a < 10 → (N a).testBit b = true → a < b ∧ b < 10
theorem pc_Row1 (N : Nat → Nat) (a : Nat) : pc_Row N (0 ||| 2 ^ a) := by
  intro u v huv hu hv _
  have h1 := ((pc_i 0 a u).mp hu).resolve_left (pc_n0 u)
  have h2 := ((pc_i 0 a v).mp hv).resolve_left (pc_n0 v)
  omega
theorem pc_RowI {N : Nat → Nat} {P a b : Nat} (hab : a < b) (hP : pc_Row N P) (hb : pc_Lo P b) (h : (N a).testBit b = true) : pc_Row N (P ||| 2 ^ a) := by
  intro u v huv hu hv hg
  have hv' : P.testBit v = true := by
    rcases (pc_i P a v).mp hv with z | z
    · exact z
    · subst z
      rcases (pc_i P v u).mp hu with y | y
      · have := hb.2 u y; omega
      · omega
  rcases (pc_i P a u).mp hu with z | z
  · exact hP u v huv z hv' (fun w h1 h2 h3 => hg w h1 h2 ((pc_i P a w).mpr (Or.inl h3)))
  · subst z
    have h1 := hb.2 v hv'
    rcases Nat.lt_or_ge b v with y | y
    · exact (hg b hab y ((pc_i P u b).mpr (Or.inl hb.1))).elim
    · have e : v = b := by omega
      rw [e]; exact h
theorem pc_RowD {N : Nat → Nat} {s a : Nat} (h : pc_Row N s) (ha : pc_Lo s a) : pc_Row N (pc_df s (2 ^ a)) := by
  intro u v huv hu hv hg
  have h1 := pc_dfa.mp hu
  have h2 := pc_dfa.mp hv
  refine h u v huv h1.1 h2.1 (fun w x1 x2 x3 => hg w x1 x2 (pc_dfa.mpr ⟨x3, ?_⟩))
  have := ha.2 u h1.1
  omega
theorem pc_RowN {N : Nat → Nat} {s a b : Nat} (h : pc_Row N s) (ha : pc_Lo s a) (hb : pc_Lo (pc_df s (2 ^ a)) b) : a < b ∧ (N a).testBit b = true := by
  have h1 := pc_dfa.mp hb.1
  have h2 := ha.2 b h1.1
  refine ⟨by omega, h a b (by omega) ha.1 h1.1 (fun w x1 x2 x3 => ?_)⟩
  have := hb.2 w (pc_dfa.mpr ⟨x3, by omega⟩)
  omega
