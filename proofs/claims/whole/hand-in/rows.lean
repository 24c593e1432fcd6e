section
/-! sums over the first n numbers, sets of vertices as masks -/
def pc_sm (p : Nat → Bool) (w : Nat → Nat) : Nat → Nat
  | 0 => 0
  | n + 1 => pc_sm p w n + (if p n = true then w n else 0)
def pc_one : Nat → Nat := fun _ => 1
def pc_cn (s : Nat) : Nat := pc_sm s.testBit pc_one 10
theorem pc_sm_congr {p q : Nat → Bool} {w : Nat → Nat} : ∀ n, (∀ v, v < n → p v = q v) → pc_sm p w n = pc_sm q w n := by
  intro n
  induction n with
  | zero => intro _; rfl
  | succ n ih =>
    intro h
    show pc_sm p w n + (if p n = true then w n else 0) = pc_sm q w n + (if q n = true then w n else 0)
    rw [ih (fun v hv => h v (by omega)), h n (by omega)]
theorem pc_sm_or {p q r : Nat → Bool} {w : Nat → Nat} : ∀ n, (∀ v, v < n → p v = (q v || r v)) → (∀ v, v < n → q v = true → r v = true → False) → pc_sm p w n = pc_sm q w n + pc_sm r w n := by
  intro n
  induction n with
  | zero => intro _ _; rfl
  | succ n ih =>
    intro h d
    have i := ih (fun v hv => h v (by omega)) (fun v hv => d v (by omega))
    have dn := d n (by omega)
    show pc_sm p w n + (if p n = true then w n else 0) = pc_sm q w n + (if q n = true then w n else 0) + (pc_sm r w n + (if r n = true then w n else 0))
    rw [i, h n (by omega)]
    cases hq : q n <;> cases hr : r n
    · simp
    · simp <;> omega
    · simp <;> omega
    · exact (dn hq hr).elim
theorem pc_sm_le {p : Nat → Bool} {w : Nat → Nat} {c : Nat} : ∀ n, (∀ v, v < n → w v ≤ c) → pc_sm p w n ≤ c * n := by
  intro n
  induction n with
  | zero => intro _; exact Nat.zero_le _
  | succ n ih =>
    intro h
    have i := ih (fun v hv => h v (by omega))
    have hn := h n (by omega)
    show pc_sm p w n + (if p n = true then w n else 0) ≤ c * (n + 1)
    rw [Nat.mul_succ]
    split <;> omega
theorem pc_sm_zero {p : Nat → Bool} {w : Nat → Nat} : ∀ n, (∀ v, v < n → p v = true → False) → pc_sm p w n = 0 := by
  intro n
  induction n with
  | zero => intro _; rfl
  | succ n ih =>
    intro h
    show pc_sm p w n + (if p n = true then w n else 0) = 0
    rw [ih (fun v hv => h v (by omega)), if_neg (fun z => h n (by omega) z)]
theorem pc_sm_single {w : Nat → Nat} (a : Nat) : ∀ n, a < n → pc_sm (fun v => decide (a = v)) w n = w a := by
  intro n
  induction n with
  | zero => intro h; omega
  | succ n ih =>
    intro h
    show pc_sm (fun v => decide (a = v)) w n + (if decide (a = n) = true then w n else 0) = w a
    by_cases e : a = n
    · subst e
      rw [pc_sm_zero a (fun v hv z => by have := of_decide_eq_true z; omega), if_pos (decide_eq_true rfl), Nat.zero_add]
    · rw [ih (by omega), if_neg (fun z => e (of_decide_eq_true z)), Nat.add_zero]
theorem pc_cn_le (s : Nat) : pc_cn s ≤ 10 := pc_sm_le (c := 1) 10 (fun _ _ => Nat.le_refl 1)
/-! masks -/
theorem pc_hi {s v : Nat} (hs : s < 1024) (hv : 10 ≤ v) : s.testBit v = false :=
  Nat.testBit_lt_two_pow (Nat.lt_of_lt_of_le (show s < 2 ^ 10 from hs) (Nat.pow_le_pow_right (by decide) hv))
theorem pc_lo {s v : Nat} (hs : s < 1024) (h : s.testBit v = true) : v < 10 := by
  rcases Nat.lt_or_ge v 10 with z | z
  · exact z
  · rw [pc_hi hs z] at h; exact absurd h (by decide)
theorem pc_lt {s : Nat} (h : ∀ v, s.testBit v = true → v < 10) : s < 1024 := by
  refine Nat.lt_pow_two_of_testBit (n := 10) s (fun i hi => ?_)
  cases e : s.testBit i
  · rfl
  · have := h i e; omega
theorem pc_ext {s t : Nat} (hs : s < 1024) (ht : t < 1024) (h : ∀ v, v < 10 → s.testBit v = t.testBit v) : s = t := by
  apply Nat.eq_of_testBit_eq
  intro v
  rcases Nat.lt_or_ge v 10 with z | z
  · exact h v z
  · rw [pc_hi hs z, pc_hi ht z]
theorem pc_least (P : Nat → Prop) (h : ∃ k, P k) : ∃ k, P k ∧ ∀ j, P j → k ≤ j := by
  obtain ⟨k, hk⟩ := h
  induction k using Nat.strongRecOn with
  | ind k ih =>
    by_cases e : ∃ j, j < k ∧ P j
    · obtain ⟨j, hj, hp⟩ := e
      exact ih j hj hp
    · refine ⟨k, hk, fun j hj => ?_⟩
      rcases Nat.lt_or_ge j k with z | z
      · exact (e ⟨j, z, hj⟩).elim
      · exact z
def pc_Lo (s a : Nat) : Prop := s.testBit a = true ∧ ∀ w, s.testBit w = true → a ≤ w
theorem pc_Lo_ex {s : Nat} (h : s ≠ 0) : ∃ a, pc_Lo s a := pc_least (fun k => s.testBit k = true) (Nat.exists_testBit_of_ne_zero h)
theorem pc_Lo_u {s a b : Nat} (h : pc_Lo s a) (g : pc_Lo s b) : a = b := by
  have h1 := h.2 b g.1
  have h2 := g.2 a h.1
  omega
theorem pc_i (P a v : Nat) : (P ||| 2 ^ a).testBit v = true ↔ P.testBit v = true ∨ v = a := by
  rw [Nat.testBit_or, Nat.testBit_two_pow, Bool.or_eq_true, decide_eq_true_eq]
  exact ⟨fun h => h.imp id Eq.symm, fun h => h.imp id Eq.symm⟩
theorem pc_ilt {P a : Nat} (hP : P < 1024) (ha : a < 10) : P ||| 2 ^ a < 1024 := by
  apply pc_lt
  intro v hv
  rcases (pc_i P a v).mp hv with z | z
  · exact pc_lo hP z
  · omega
def pc_df (s p : Nat) : Nat := s ^^^ (s &&& p)
theorem pc_df_t (s p v : Nat) : (pc_df s p).testBit v = (s.testBit v && !p.testBit v) := by
  unfold pc_df
  rw [Nat.testBit_xor, Nat.testBit_and]
  cases s.testBit v <;> cases p.testBit v <;> rfl
theorem pc_df_i (s p v : Nat) : (pc_df s p).testBit v = true ↔ s.testBit v = true ∧ ¬ p.testBit v = true := by
  rw [pc_df_t]
  cases s.testBit v <;> cases p.testBit v <;> simp
theorem pc_df_le (s p : Nat) : pc_df s p ≤ s := Nat.le_of_testBit (fun v h => ((pc_df_i s p v).mp h).1)
theorem pc_df_ls {s p a : Nat} (hs : s.testBit a = true) (hp : p.testBit a = true) : pc_df s p < s := by
  have h := pc_df_le s p
  have e : pc_df s p ≠ s := by
    intro e
    rw [← e] at hs
    exact ((pc_df_i s p a).mp hs).2 hp
  omega
theorem pc_cn_df {s p : Nat} (h : ∀ v, p.testBit v = true → s.testBit v = true) : pc_cn s = pc_cn (pc_df s p) + pc_cn p := by
  refine pc_sm_or 10 (fun v _ => ?_) (fun v _ h1 h2 => ((pc_df_i s p v).mp h1).2 h2)
  rw [pc_df_t]
  have := h v
  cases hp : p.testBit v
  · simp
  · rw [this hp]; rfl
theorem pc_sm_i {P a : Nat} {w : Nat → Nat} (ha : a < 10) (h : ¬ P.testBit a = true) : pc_sm (P ||| 2 ^ a).testBit w 10 = pc_sm P.testBit w 10 + w a := by
  rw [← pc_sm_single (w := w) a 10 ha]
  refine pc_sm_or 10 (fun v _ => ?_) (fun v _ h1 h2 => ?_)
  · rw [Nat.testBit_or, Nat.testBit_two_pow]
  · have e : a = v := of_decide_eq_true h2
    rw [e] at h; exact h h1
theorem pc_cn_i {P a : Nat} (ha : a < 10) (h : ¬ P.testBit a = true) : pc_cn (P ||| 2 ^ a) = pc_cn P + 1 := pc_sm_i ha h
theorem pc_sm_0 (w : Nat → Nat) : pc_sm (Nat.testBit 0) w 10 = 0 := pc_sm_zero 10 (fun v _ h => by rw [Nat.zero_testBit] at h; exact absurd h (by decide))
theorem pc_or0 (a : Nat) : 2 ^ a = 0 ||| 2 ^ a := by
  apply Nat.eq_of_testBit_eq
  intro v
  rw [Nat.testBit_or, Nat.zero_testBit, Bool.false_or]
theorem pc_n0 (v : Nat) : ¬ Nat.testBit 0 v = true := by rw [Nat.zero_testBit]; decide
/-- a mask with its lowest vertex taken out and put back -/
theorem pc_split {s a : Nat} (h : s.testBit a = true) : s = pc_df s (2 ^ a) ||| 2 ^ a := by
  apply Nat.eq_of_testBit_eq
  intro v
  rw [Nat.testBit_or, pc_df_t, Nat.testBit_two_pow]
  by_cases e : a = v
  · subst e; rw [h]; simp
  · simp [e]
theorem pc_dfa {s a v : Nat} : (pc_df s (2 ^ a)).testBit v = true ↔ s.testBit v = true ∧ v ≠ a := by
  rw [pc_df_i, Nat.testBit_two_pow, decide_eq_true_eq]
  exact ⟨fun h => ⟨h.1, fun z => h.2 z.symm⟩, fun h => ⟨h.1, fun z => h.2 z.symm⟩⟩
/-! rows: each vertex leads to the next one of the set -/
def pc_Row (N : Nat → Nat) (s : Nat) : Prop := ∀ u v, u < v → s.testBit u = true → s.testBit v = true → (∀ w, u < w → w < v → s.testBit w = true → False) → (N u).testBit v = true
def pc_Up (N : Nat → Nat) : Prop := ∀ a b, a < 10 → (N a).testBit b = true → a < b ∧ b < 10
theorem pc_Row1 (N : Nat → Nat) (a : Nat) : pc_Row N (0 ||| 2 ^ a) := by
  intro u v huv hu hv _
  have h1 := ((pc_i 0 a u).mp hu).resolve_left (pc_n0 u)
  have h2 := ((pc_i 0 a v).mp hv).resolve_left (pc_n0 v)
  omega
theorem pc_RowI {N : Nat → Nat} {P a b : Nat} (hab : a < b) (hP : pc_Row N P) (hb : pc_Lo P b) (h : (N a).testBit b = true) : pc_Row N (P ||| 2 ^ a) := by
  intro u v huv hu hv hg
  have hv' : P.testBit v = true := by
    rcases (pc_i P a v).mp hv with z | z
    · exact z
    · subst z
      rcases (pc_i P v u).mp hu with y | y
      · have := hb.2 u y; omega
      · omega
  rcases (pc_i P a u).mp hu with z | z
  · exact hP u v huv z hv' (fun w h1 h2 h3 => hg w h1 h2 ((pc_i P a w).mpr (Or.inl h3)))
  · subst z
    have h1 := hb.2 v hv'
    rcases Nat.lt_or_ge b v with y | y
    · exact (hg b hab y ((pc_i P u b).mpr (Or.inl hb.1))).elim
    · have e : v = b := by omega
      rw [e]; exact h
theorem pc_RowD {N : Nat → Nat} {s a : Nat} (h : pc_Row N s) (ha : pc_Lo s a) : pc_Row N (pc_df s (2 ^ a)) := by
  intro u v huv hu hv hg
  have h1 := pc_dfa.mp hu
  have h2 := pc_dfa.mp hv
  refine h u v huv h1.1 h2.1 (fun w x1 x2 x3 => hg w x1 x2 (pc_dfa.mpr ⟨x3, ?_⟩))
  have := ha.2 u h1.1
  omega
theorem pc_RowN {N : Nat → Nat} {s a b : Nat} (h : pc_Row N s) (ha : pc_Lo s a) (hb : pc_Lo (pc_df s (2 ^ a)) b) : a < b ∧ (N a).testBit b = true := by
  have h1 := pc_dfa.mp hb.1
  have h2 := ha.2 b h1.1
  refine ⟨by omega, h a b (by omega) ha.1 h1.1 (fun w x1 x2 x3 => ?_)⟩
  have := hb.2 w (pc_dfa.mpr ⟨x3, by omega⟩)
  omega
end
section
/-! links: g a is the next of a, 10 for none; the fewest rows of a set are its vertices less the most links -/
def pc_M (N : Nat → Nat) (S : Nat) (g : Nat → Nat) : Prop :=
  (∀ a, a < 10 → g a < 10 → S.testBit a = true ∧ S.testBit (g a) = true ∧ (N a).testBit (g a) = true) ∧
  (∀ a b, a < 10 → b < 10 → g a < 10 → g a = g b → a = b)
def pc_ln (g : Nat → Nat) (n : Nat) : Nat := pc_sm (fun a => decide (g a < 10)) pc_one n
def pc_ND (N : Nat → Nat) (nd : Nat → Nat) : Prop := nd 0 = 0 ∧ ∀ S, 0 < S → S < 1024 →
  (∀ P a, pc_Lo S a → P.testBit a = true → (∀ v, P.testBit v = true → S.testBit v = true) → pc_Row N P → nd S ≤ nd (pc_df S P) + 1) ∧
  (nd S = 11 ∨ ∃ P a, pc_Lo S a ∧ P.testBit a = true ∧ (∀ v, P.testBit v = true → S.testBit v = true) ∧ pc_Row N P ∧ nd S = nd (pc_df S P) + 1)
theorem pc_M0 (N : Nat → Nat) (S : Nat) : pc_M N S (fun _ => 10) := ⟨fun _ _ h => absurd h (Nat.lt_irrefl 10), fun _ _ _ _ h _ => absurd h (Nat.lt_irrefl 10)⟩
theorem pc_ln0 (n : Nat) : pc_ln (fun _ => 10) n = 0 := pc_sm_zero n (fun _ _ h => absurd (of_decide_eq_true h) (Nat.lt_irrefl 10))
theorem pc_CE {N : Nat → Nat} {S : Nat} {g : Nat → Nat} (hU : pc_Up N) (hS : S < 1024) (hM : pc_M N S g) : ∀ d a, 10 ≤ a + d → S.testBit a = true →
    ∃ P, (∀ v, P.testBit v = true → S.testBit v = true) ∧ pc_Lo P a ∧ pc_Row N P ∧ (∀ v, P.testBit v = true → g v < 10 → P.testBit (g v) = true) ∧
      (∀ v, P.testBit v = true → v ≠ a → ∃ u, u < 10 ∧ P.testBit u = true ∧ g u = v) ∧
      pc_sm (fun v => P.testBit v && decide (g v < 10)) pc_one 10 + 1 = pc_cn P := by
  intro d
  induction d with
  | zero =>
    intro a h ha
    exact absurd (pc_lo hS ha) (by omega)
  | succ d ih =>
    intro a had ha
    have ha10 := pc_lo hS ha
    by_cases h : g a < 10
    · obtain ⟨_, hb, hN⟩ := hM.1 a ha10 h
      have hab := (hU a (g a) ha10 hN).1
      obtain ⟨P, p1, p2, p4, p5, p6, p7⟩ := ih (g a) (by omega) hb
      have hPa : ¬ P.testBit a = true := fun z => by have := p2.2 a z; omega
      refine ⟨P ||| 2 ^ a, ?_, ⟨(pc_i P a a).mpr (Or.inr rfl), ?_⟩, pc_RowI hab p4 p2 hN, ?_, ?_, ?_⟩
      · intro v hv
        rcases (pc_i P a v).mp hv with z | z
        · exact p1 v z
        · rw [z]; exact ha
      · intro w hw
        rcases (pc_i P a w).mp hw with z | z
        · have := p2.2 w z; omega
        · omega
      · intro v hv hg
        rcases (pc_i P a v).mp hv with z | z
        · exact (pc_i P a _).mpr (Or.inl (p5 v z hg))
        · rw [z]; exact (pc_i P a _).mpr (Or.inl p2.1)
      · intro v hv hn
        have hv' := ((pc_i P a v).mp hv).resolve_right hn
        by_cases e : v = g a
        · exact ⟨a, ha10, (pc_i P a a).mpr (Or.inr rfl), e.symm⟩
        · obtain ⟨u, h1, h2, h3⟩ := p6 v hv' e
          exact ⟨u, h1, (pc_i P a u).mpr (Or.inl h2), h3⟩
      · rw [pc_cn_i ha10 hPa, ← p7]
        refine congrArg (· + 1) ?_
        have e1 : pc_one a = 1 := rfl
        rw [← e1, ← pc_sm_single (w := pc_one) a 10 ha10]
        refine pc_sm_or 10 (fun v _ => ?_) (fun v _ h1 h2 => ?_)
        · rw [Nat.testBit_or, Nat.testBit_two_pow]
          by_cases e : a = v
          · subst e; simp [h]
          · simp [e]
        · have e : a = v := of_decide_eq_true h2
          subst e
          rw [Bool.and_eq_true] at h1
          exact hPa h1.1
    · refine ⟨0 ||| 2 ^ a, ?_, ⟨(pc_i 0 a a).mpr (Or.inr rfl), ?_⟩, pc_Row1 N a, ?_, ?_, ?_⟩
      · intro v hv
        rw [((pc_i 0 a v).mp hv).resolve_left (pc_n0 v)]; exact ha
      · intro w hw
        rw [((pc_i 0 a w).mp hw).resolve_left (pc_n0 w)]; exact Nat.le_refl a
      · intro v hv hg
        rw [((pc_i 0 a v).mp hv).resolve_left (pc_n0 v)] at hg
        exact absurd hg h
      · intro v hv hn
        exact absurd (((pc_i 0 a v).mp hv).resolve_left (pc_n0 v)) hn
      · rw [pc_cn_i ha10 (pc_n0 a), pc_sm_zero 10 (fun v _ z => ?_)]
        · show 0 + 1 = pc_sm (Nat.testBit 0) pc_one 10 + 1
          rw [pc_sm_0]
        · rw [Bool.and_eq_true] at z
          have e := ((pc_i 0 a v).mp z.1).resolve_left (pc_n0 v)
          have g' := of_decide_eq_true z.2
          rw [e] at g'
          exact h g'
theorem pc_B {N nd : Nat → Nat} (hU : pc_Up N) (hD : pc_ND N nd) : ∀ S, S < 1024 → ∀ g, pc_M N S g → nd S + pc_ln g 10 ≤ pc_cn S := by
  intro S
  induction S using Nat.strongRecOn with
  | ind S ih =>
    intro hS g hM
    by_cases h0 : S = 0
    · subst h0
      have e : pc_ln g 10 = 0 := pc_sm_zero 10 (fun a ha z => pc_n0 a (hM.1 a ha (of_decide_eq_true z)).1)
      rw [hD.1, e]
      exact Nat.zero_le _
    · obtain ⟨a, ha⟩ := pc_Lo_ex h0
      obtain ⟨P, p1, p2, p4, p5, p6, p7⟩ := pc_CE hU hS hM 10 a (by omega) ha.1
      have hn := (hD.2 S (by omega) hS).1 P a ha p2.1 p1 p4
      have hlt : pc_df S P < S := pc_df_ls ha.1 p2.1
      have hM' : pc_M N (pc_df S P) (fun v => if P.testBit v = true then 10 else g v) := by
        refine ⟨fun u hu hg => ?_, fun u v hu hv hg e => ?_⟩
        · dsimp only at hg
          by_cases z : P.testBit u = true
          · rw [if_pos z] at hg; omega
          · rw [if_neg z] at hg
            have hm := hM.1 u hu hg
            dsimp only
            rw [if_neg z]
            refine ⟨(pc_df_i S P u).mpr ⟨hm.1, z⟩, (pc_df_i S P _).mpr ⟨hm.2.1, fun y => ?_⟩, hm.2.2⟩
            by_cases e : g u = a
            · have h1 := ha.2 u hm.1
              have h2 := (hU u (g u) hu hm.2.2).1
              omega
            · obtain ⟨t, t1, t2, t3⟩ := p6 (g u) y e
              have e2 := hM.2 u t hu t1 hg t3.symm
              rw [e2] at z
              exact z t2
        · dsimp only at hg e
          by_cases z : P.testBit u = true
          · rw [if_pos z] at hg; omega
          · rw [if_neg z] at hg e
            by_cases y : P.testBit v = true
            · rw [if_pos y] at e; omega
            · rw [if_neg y] at e
              exact hM.2 u v hu hv hg e
      have i := ih (pc_df S P) hlt (by omega) _ hM'
      have hc := pc_cn_df p1
      have hl : pc_ln g 10 = pc_ln (fun v => if P.testBit v = true then 10 else g v) 10 + pc_sm (fun v => P.testBit v && decide (g v < 10)) pc_one 10 := by
        refine pc_sm_or 10 (fun v _ => ?_) (fun v _ h1 h2 => ?_)
        · by_cases z : P.testBit v = true
          · simp [z]
          · simp [z]
        · rw [Bool.and_eq_true] at h2
          have h3 := of_decide_eq_true h1
          dsimp only at h3
          rw [if_pos h2.1] at h3
          omega
      omega
/-- a row with k vertices has k - 1 links -/
theorem pc_RM {N : Nat → Nat} (hU : pc_Up N) : ∀ P, P ≠ 0 → P < 1024 → pc_Row N P → ∃ g, pc_M N P g ∧ pc_cn P = 1 + pc_ln g 10 := by
  intro P
  induction P using Nat.strongRecOn with
  | ind P ih =>
    intro h0 hP hR
    obtain ⟨a, ha⟩ := pc_Lo_ex h0
    have ha10 := pc_lo hP ha.1
    have hna : ¬ (pc_df P (2 ^ a)).testBit a = true := fun z => (pc_dfa.mp z).2 rfl
    have hc : pc_cn P = pc_cn (pc_df P (2 ^ a)) + 1 := by
      have e := pc_cn_i ha10 hna
      rw [← pc_split ha.1] at e
      exact e
    by_cases hz : pc_df P (2 ^ a) = 0
    · refine ⟨fun _ => 10, pc_M0 N P, ?_⟩
      rw [pc_ln0, hc, hz]
      show pc_sm (Nat.testBit 0) pc_one 10 + 1 = _
      rw [pc_sm_0]
    · obtain ⟨b, hb⟩ := pc_Lo_ex hz
      obtain ⟨hab, hN⟩ := pc_RowN hR ha hb
      have hlt : pc_df P (2 ^ a) < P := pc_df_ls ha.1 (by rw [Nat.testBit_two_pow]; exact decide_eq_true rfl)
      obtain ⟨g, hM, hg⟩ := ih _ hlt hz (by omega) (pc_RowD hR ha)
      have hb10 : b < 10 := pc_lo hP (pc_dfa.mp hb.1).1
      have hga : ¬ g a < 10 := fun z => hna (hM.1 a ha10 z).1
      have hgb : ∀ u, u < 10 → g u < 10 → g u ≠ b := by
        intro u hu z e
        have h1 := hM.1 u hu z
        have h2 := (hU u (g u) hu h1.2.2).1
        have h3 := hb.2 u h1.1
        omega
      refine ⟨fun v => if v = a then b else g v, ⟨fun u hu hg => ?_, fun u v hu hv hg e => ?_⟩, ?_⟩
      · dsimp only at hg ⊢
        by_cases z : u = a
        · subst z
          rw [if_pos rfl]
          exact ⟨ha.1, (pc_dfa.mp hb.1).1, hN⟩
        · rw [if_neg z] at hg ⊢
          have hm := hM.1 u hu hg
          exact ⟨(pc_dfa.mp hm.1).1, (pc_dfa.mp hm.2.1).1, hm.2.2⟩
      · dsimp only at hg e
        by_cases z : u = a
        · rw [if_pos z] at hg e
          by_cases y : v = a
          · omega
          · rw [if_neg y] at e
            exact absurd e.symm (hgb v hv (by omega))
        · rw [if_neg z] at hg e
          by_cases y : v = a
          · rw [if_pos y] at e
            exact absurd e (hgb u hu hg)
          · rw [if_neg y] at e
            exact hM.2 u v hu hv hg e
      · have hl : pc_ln (fun v => if v = a then b else g v) 10 = pc_ln g 10 + pc_one a := by
          rw [← pc_sm_single (w := pc_one) a 10 ha10]
          refine pc_sm_or 10 (fun v _ => ?_) (fun v _ h1 h2 => ?_)
          · by_cases e : v = a
            · subst e; simp [hb10]
            · have e' : ¬ a = v := fun z => e z.symm
              simp [e, e']
          · have e : a = v := of_decide_eq_true h2
            subst e
            exact hga (of_decide_eq_true h1)
        have e1 : pc_one a = 1 := rfl
        omega
theorem pc_A {N nd : Nat → Nat} (hU : pc_Up N) (hD : pc_ND N nd) : ∀ S, S < 1024 → ∃ g, pc_M N S g ∧ pc_cn S = nd S + pc_ln g 10 := by
  intro S
  induction S using Nat.strongRecOn with
  | ind S ih =>
    intro hS
    by_cases h0 : S = 0
    · subst h0
      refine ⟨fun _ => 10, pc_M0 N 0, ?_⟩
      rw [pc_ln0, hD.1]
      exact pc_sm_0 pc_one
    · have hb := pc_B hU hD S hS _ (pc_M0 N S)
      have hc := pc_cn_le S
      rcases (hD.2 S (by omega) hS).2 with e | ⟨P, a, ha, pa, ps, pr, e⟩
      · omega
      · have hlt : pc_df S P < S := pc_df_ls ha.1 pa
        have hP : P < 1024 := pc_lt (fun v hv => pc_lo hS (ps v hv))
        have hP0 : P ≠ 0 := fun z => by rw [z] at pa; exact pc_n0 a pa
        obtain ⟨g1, m1, c1⟩ := ih _ hlt (by omega)
        obtain ⟨g2, m2, c2⟩ := pc_RM hU P hP0 hP pr
        have hcc := pc_cn_df ps
        refine ⟨fun v => if P.testBit v = true then g2 v else g1 v, ⟨fun u hu hg => ?_, fun u v hu hv hg e => ?_⟩, ?_⟩
        · dsimp only at hg ⊢
          by_cases z : P.testBit u = true
          · rw [if_pos z] at hg ⊢
            have hm := m2.1 u hu hg
            exact ⟨ps u hm.1, ps _ hm.2.1, hm.2.2⟩
          · rw [if_neg z] at hg ⊢
            have hm := m1.1 u hu hg
            exact ⟨((pc_df_i S P u).mp hm.1).1, ((pc_df_i S P _).mp hm.2.1).1, hm.2.2⟩
        · dsimp only at hg e
          by_cases z : P.testBit u = true
          · rw [if_pos z] at hg e
            by_cases y : P.testBit v = true
            · rw [if_pos y] at e; exact m2.2 u v hu hv hg e
            · rw [if_neg y] at e
              have h1 := (m2.1 u hu hg).2.1
              have h2 := ((pc_df_i S P _).mp (m1.1 v hv (by omega)).2.1).2
              rw [e] at h1
              exact absurd h1 h2
          · rw [if_neg z] at hg e
            by_cases y : P.testBit v = true
            · rw [if_pos y] at e
              have h1 := (m2.1 v hv (by omega)).2.1
              have h2 := ((pc_df_i S P _).mp (m1.1 u hu hg).2.1).2
              rw [← e] at h1
              exact absurd h1 h2
            · rw [if_neg y] at e; exact m1.2 u v hu hv hg e
        · have hl : pc_ln (fun v => if P.testBit v = true then g2 v else g1 v) 10 = pc_ln g1 10 + pc_ln g2 10 := by
            refine pc_sm_or 10 (fun v hv => ?_) (fun v hv h1 h2 => ?_)
            · by_cases z : P.testBit v = true
              · have h1 : ¬ g1 v < 10 := fun y => ((pc_df_i S P v).mp (m1.1 v hv y).1).2 z
                simp [z, h1]
              · have h2 : ¬ g2 v < 10 := fun y => z (m2.1 v hv y).1
                simp [z, h2]
            · have x1 := (m1.1 v hv (of_decide_eq_true h1)).1
              have x2 := (m2.1 v hv (of_decide_eq_true h2)).1
              exact ((pc_df_i S P v).mp x1).2 x2
          omega
/-! the most links, found by the sets that can be just the nexts of the first k vertices -/
def pc_RS (N : Nat → Nat) (S : Nat) : Nat → Nat → Prop
  | 0 => fun T => T = 0
  | k + 1 => fun T => pc_RS N S k T ∨ (S.testBit k = true ∧ ∃ b T', (N k &&& S).testBit b = true ∧ ¬ T'.testBit b = true ∧ pc_RS N S k T' ∧ T = T' ||| 2 ^ b)
theorem pc_RS_s {N : Nat → Nat} {S : Nat} (hS : S < 1024) : ∀ k, k ≤ 10 → ∀ T, pc_RS N S k T → ∃ g, pc_M N S g ∧ (∀ a, k ≤ a → g a = 10) ∧ (∀ a, a < 10 → g a < 10 → T.testBit (g a) = true) ∧ pc_ln g 10 = pc_cn T := by
  intro k
  induction k with
  | zero =>
    intro _ T hT
    cases hT
    refine ⟨fun _ => 10, pc_M0 N S, fun _ _ => rfl, fun _ _ h => absurd h (Nat.lt_irrefl 10), ?_⟩
    rw [pc_ln0]
    exact (pc_sm_0 pc_one).symm
  | succ k ih =>
    intro hk T hT
    rcases hT with hT | ⟨hSk, b, T', hb, hT', hR, rfl⟩
    · obtain ⟨g, h1, h2, h3, h4⟩ := ih (by omega) T hT
      exact ⟨g, h1, fun a ha => h2 a (by omega), h3, h4⟩
    · obtain ⟨g, h1, h2, h3, h4⟩ := ih (by omega) T' hR
      rw [Nat.testBit_and, Bool.and_eq_true] at hb
      have hb10 : b < 10 := pc_lo hS hb.2
      have hgk : g k = 10 := h2 k (Nat.le_refl k)
      refine ⟨fun v => if v = k then b else g v, ⟨fun u hu hg => ?_, fun u v hu hv hg e => ?_⟩, fun u hu => ?_, fun u hu hg => ?_, ?_⟩
      · dsimp only at hg ⊢
        by_cases z : u = k
        · subst z
          rw [if_pos rfl]
          exact ⟨hSk, hb.2, hb.1⟩
        · rw [if_neg z] at hg ⊢
          exact h1.1 u hu hg
      · dsimp only at hg e
        by_cases z : u = k
        · rw [if_pos z] at hg e
          by_cases y : v = k
          · omega
          · rw [if_neg y] at e
            have := h3 v hv (by omega)
            rw [← e] at this
            exact absurd this hT'
        · rw [if_neg z] at hg e
          by_cases y : v = k
          · rw [if_pos y] at e
            have := h3 u hu hg
            rw [e] at this
            exact absurd this hT'
          · rw [if_neg y] at e
            exact h1.2 u v hu hv hg e
      · dsimp only
        rw [if_neg (by omega)]
        exact h2 u (by omega)
      · dsimp only at hg ⊢
        by_cases z : u = k
        · rw [if_pos z]
          exact (pc_i T' b b).mpr (Or.inr rfl)
        · rw [if_neg z] at hg ⊢
          exact (pc_i T' b _).mpr (Or.inl (h3 u hu hg))
      · rw [pc_cn_i hb10 hT', ← h4]
        have e1 : pc_one k = 1 := rfl
        rw [← e1, ← pc_sm_single (w := pc_one) k 10 (by omega)]
        refine pc_sm_or 10 (fun v _ => ?_) (fun v _ x1 x2 => ?_)
        · by_cases e : v = k
          · subst e; simp [hb10]
          · have e' : ¬ k = v := fun z => e z.symm
            simp [e, e']
        · have e : k = v := of_decide_eq_true x2
          subst e
          have := of_decide_eq_true x1
          omega
theorem pc_RS_c {N : Nat → Nat} {S : Nat} {g : Nat → Nat} (hM : pc_M N S g) : ∀ k, k ≤ 10 → ∃ T, pc_RS N S k T ∧ pc_cn T = pc_ln g k ∧ ∀ t, T.testBit t = true → ∃ a, a < k ∧ g a = t := by
  intro k
  induction k with
  | zero => exact fun _ => ⟨0, rfl, pc_sm_0 pc_one, fun t h => absurd h (pc_n0 t)⟩
  | succ k ih =>
    intro hk
    obtain ⟨T, h1, h2, h3⟩ := ih (by omega)
    have hl : pc_ln g (k + 1) = pc_ln g k + (if decide (g k < 10) = true then pc_one k else 0) := rfl
    by_cases z : g k < 10
    · have hm := hM.1 k (by omega) z
      have hT : ¬ T.testBit (g k) = true := by
        intro y
        obtain ⟨a, x1, x2⟩ := h3 _ y
        have := hM.2 a k (by omega) (by omega) (by omega) x2
        omega
      refine ⟨T ||| 2 ^ g k, Or.inr ⟨hm.1, g k, T, ?_, hT, h1, rfl⟩, ?_, fun t ht => ?_⟩
      · rw [Nat.testBit_and, hm.2.1, hm.2.2]; rfl
      · rw [pc_cn_i z hT, h2, hl, if_pos (decide_eq_true z)]
        rfl
      · rcases (pc_i T (g k) t).mp ht with y | y
        · obtain ⟨a, x1, x2⟩ := h3 t y
          exact ⟨a, by omega, x2⟩
        · exact ⟨k, by omega, y.symm⟩
    · refine ⟨T, Or.inl h1, ?_, fun t ht => ?_⟩
      · rw [hl, h2, if_neg (fun y => z (of_decide_eq_true y)), Nat.add_zero]
      · obtain ⟨a, x1, x2⟩ := h3 t ht
        exact ⟨a, by omega, x2⟩
theorem pc_RS_lt {N : Nat → Nat} {S : Nat} (hS : S < 1024) : ∀ k T, pc_RS N S k T → T < 1024 := by
  intro k
  induction k with
  | zero => intro T h; cases h; decide
  | succ k ih =>
    intro T h
    rcases h with h | ⟨_, b, T', hb, _, hR, rfl⟩
    · exact ih T h
    · rw [Nat.testBit_and, Bool.and_eq_true] at hb
      exact pc_ilt (ih T' hR) (pc_lo hS hb.2)
/-- the vertices less the most links: the fewest rows -/
theorem pc_cover {N nd : Nat → Nat} {S m : Nat} (hU : pc_Up N) (hD : pc_ND N nd) (hS : S < 1024)
    (h1 : m = 0 ∨ ∃ T, pc_RS N S 10 T ∧ pc_cn T = m) (h2 : ∀ T, pc_RS N S 10 T → pc_cn T ≤ m) : pc_cn S = nd S + m := by
  obtain ⟨g, hM, hg⟩ := pc_A hU hD S hS
  obtain ⟨T, t1, t2, _⟩ := pc_RS_c hM 10 (Nat.le_refl 10)
  have x := h2 T t1
  have y : nd S + m ≤ pc_cn S := by
    rcases h1 with e | ⟨T, hT, e⟩
    · have := pc_B hU hD S hS _ (pc_M0 N S)
      omega
    · obtain ⟨g', hM', _, _, hc⟩ := pc_RS_s hS 10 (Nat.le_refl 10) T hT
      have := pc_B hU hD S hS _ hM'
      omega
  omega
end
section
/-! the greatest value over the sets of a kind -/
def pc_Mx (C : Nat → Prop) (f : Nat → Nat) (k m : Nat) : Prop := (m = 0 ∨ ∃ s, s < k ∧ C s ∧ f s = m) ∧ ∀ s, s < k → C s → f s ≤ m
theorem pc_Mx0 (C : Nat → Prop) (f : Nat → Nat) : pc_Mx C f 0 0 := ⟨Or.inl rfl, fun s h => absurd h (Nat.not_lt_zero s)⟩
theorem pc_Mx_t {C : Nat → Prop} {f : Nat → Nat} {k m : Nat} (h : pc_Mx C f k m) (hc : C k) (hf : m < f k) : pc_Mx C f (k + 1) (f k) := by
  refine ⟨Or.inr ⟨k, by omega, hc, rfl⟩, fun s hs c => ?_⟩
  by_cases e : s = k
  · rw [e]; exact Nat.le_refl _
  · have := h.2 s (by omega) c; omega
theorem pc_Mx_n {C : Nat → Prop} {f : Nat → Nat} {k m : Nat} (h : pc_Mx C f k m) (hf : C k → f k ≤ m) : pc_Mx C f (k + 1) m := by
  refine ⟨h.1.imp id (fun ⟨s, h1, h2⟩ => ⟨s, by omega, h2⟩), fun s hs c => ?_⟩
  by_cases e : s = k
  · rw [e] at c ⊢; exact hf c
  · exact h.2 s (by omega) c
theorem pc_Mx_u {C D : Nat → Prop} {f : Nat → Nat} {k m m' : Nat} (hCD : ∀ s, s < k → (C s ↔ D s)) (h : pc_Mx C f k m) (g : pc_Mx D f k m') : m = m' := by
  have h1 : m ≤ m' := by
    rcases h.1 with e | ⟨s, h1, h2, h3⟩
    · omega
    · have := g.2 s h1 ((hCD s h1).mp h2); omega
  have h2 : m' ≤ m := by
    rcases g.1 with e | ⟨s, h1, h2, h3⟩
    · omega
    · have := h.2 s h1 ((hCD s h1).mpr h2); omega
  omega
theorem pc_Mx_b {C : Nat → Prop} {f : Nat → Nat} {k m B : Nat} (h : pc_Mx C f k m) (hB : ∀ s, s < k → f s ≤ B) : m ≤ B := by
  rcases h.1 with e | ⟨s, h1, _, h3⟩
  · omega
  · have := hB s h1; omega
/-- b: of the sets below k of a kind with the greatest value m the smallest one, 0 if none is above 0 -/
def pc_SW (C : Nat → Prop) (f : Nat → Nat) (k b : Nat) : Prop := (b = 0 ∨ (b < k ∧ C b)) ∧ (∀ s, s < k → C s → f s ≤ f b) ∧ ∀ s, s < b → C s → f s < f b
theorem pc_SW0 (C : Nat → Prop) (f : Nat → Nat) : pc_SW C f 0 0 := ⟨Or.inl rfl, fun s h => absurd h (Nat.not_lt_zero s), fun s h => absurd h (Nat.not_lt_zero s)⟩
theorem pc_SW_t {C : Nat → Prop} {f : Nat → Nat} {k b : Nat} (h : pc_SW C f k b) (hc : C k) (hf : f b < f k) : pc_SW C f (k + 1) k := by
  refine ⟨Or.inr ⟨by omega, hc⟩, fun s hs c => ?_, fun s hs c => ?_⟩
  · by_cases e : s = k
    · rw [e]; exact Nat.le_refl _
    · have := h.2.1 s (by omega) c; omega
  · have := h.2.1 s hs c; omega
theorem pc_SW_n {C : Nat → Prop} {f : Nat → Nat} {k b : Nat} (h : pc_SW C f k b) (hf : C k → f k ≤ f b) : pc_SW C f (k + 1) b := by
  refine ⟨h.1.imp id (fun ⟨x, y⟩ => ⟨by omega, y⟩), fun s hs c => ?_, h.2.2⟩
  by_cases e : s = k
  · rw [e] at c ⊢; exact hf c
  · exact h.2.1 s (by omega) c
theorem pc_SW_m {C : Nat → Prop} {f : Nat → Nat} {k b m : Nat} (hf0 : f 0 = 0) (h : pc_SW C f k b) (g : pc_Mx C f k m) : m = f b := by
  have h1 : m ≤ f b := by
    rcases g.1 with e | ⟨s, h1, h2, h3⟩
    · omega
    · have := h.2.1 s h1 h2; omega
  have h2 : f b ≤ m := by
    rcases h.1 with e | ⟨h1, h2⟩
    · rw [e, hf0]; exact Nat.zero_le _
    · exact g.2 b h1 h2
  omega
theorem pc_SW_e {C : Nat → Prop} {f : Nat → Nat} {k b s : Nat} (hC0 : C 0) (h : pc_SW C f k b) (hk : 0 < k) (hn : ∀ t, t < s → C t → f t = f b → False) (hs : s ≤ k) (hv : s = k ∨ (C s ∧ f s = f b)) : s = b := by
  have hb : b < k ∧ C b := by
    rcases h.1 with e | e
    · rw [e]; exact ⟨hk, hC0⟩
    · exact e
  rcases Nat.lt_trichotomy s b with z | z | z
  · rcases hv with e | e
    · omega
    · have := h.2.2 s z e.1; omega
  · exact z
  · exact (hn b z hb.2 rfl).elim
/-! how many sets are of a kind -/
noncomputable def pc_ct (C : Nat → Prop) : Nat → Nat
  | 0 => 0
  | n + 1 => pc_ct C n + (@ite Nat (C n) (Classical.propDecidable _) 1 0)
theorem pc_ct_t {C : Nat → Prop} {n : Nat} (h : C n) : pc_ct C (n + 1) = pc_ct C n + 1 := congrArg (pc_ct C n + ·) (@if_pos _ (Classical.propDecidable _) h _ _ _)
theorem pc_ct_f {C : Nat → Prop} {n : Nat} (h : ¬ C n) : pc_ct C (n + 1) = pc_ct C n := congrArg (pc_ct C n + ·) (@if_neg _ (Classical.propDecidable _) h _ _ _)
theorem pc_ct_le (C : Nat → Prop) : ∀ n, pc_ct C n ≤ n := by
  intro n
  induction n with
  | zero => exact Nat.le_refl 0
  | succ n ih =>
    by_cases h : C n
    · rw [pc_ct_t h]; omega
    · rw [pc_ct_f h]; omega
/-! the greatest chain -/
def pc_BF (N : Nat → Nat) (S : Nat) (w bf : Nat → Nat) (a : Nat) : Prop :=
  w a ≤ bf a ∧ (∀ v, (N a &&& S).testBit v = true → w a + bf v ≤ bf a) ∧ (bf a = w a ∨ ∃ v, (N a &&& S).testBit v = true ∧ bf a = w a + bf v)
def pc_Ch (N : Nat → Nat) (S s : Nat) : Prop := (∀ v, s.testBit v = true → S.testBit v = true) ∧ pc_Row N s
theorem pc_andi (x y v : Nat) : (x &&& y).testBit v = true ↔ x.testBit v = true ∧ y.testBit v = true := by rw [Nat.testBit_and, Bool.and_eq_true]
theorem pc_Ch_le {N : Nat → Nat} {S : Nat} {w bf : Nat → Nat} (hS : S < 1024) (hB : ∀ a, S.testBit a = true → pc_BF N S w bf a) : ∀ s, pc_Ch N S s → ∀ a, pc_Lo s a → pc_sm s.testBit w 10 ≤ bf a := by
  intro s
  induction s using Nat.strongRecOn with
  | ind s ih =>
    intro hc a ha
    have hSa := hc.1 a ha.1
    have ha10 := pc_lo hS hSa
    have hna : ¬ (pc_df s (2 ^ a)).testBit a = true := fun z => (pc_dfa.mp z).2 rfl
    have e : pc_sm s.testBit w 10 = pc_sm (pc_df s (2 ^ a)).testBit w 10 + w a := by
      have e := pc_sm_i (w := w) ha10 hna
      rw [← pc_split ha.1] at e
      exact e
    have hb := hB a hSa
    by_cases hz : pc_df s (2 ^ a) = 0
    · rw [e, hz, pc_sm_0, Nat.zero_add]
      exact hb.1
    · obtain ⟨b, hlb⟩ := pc_Lo_ex hz
      obtain ⟨hab, hN⟩ := pc_RowN hc.2 ha hlb
      have hlt : pc_df s (2 ^ a) < s := pc_df_ls ha.1 (by rw [Nat.testBit_two_pow]; exact decide_eq_true rfl)
      have i := ih _ hlt ⟨fun v hv => hc.1 v (pc_dfa.mp hv).1, pc_RowD hc.2 ha⟩ b hlb
      have h2 := hb.2.1 b ((pc_andi _ _ _).mpr ⟨hN, hc.1 b (pc_dfa.mp hlb.1).1⟩)
      omega
theorem pc_Ch_ex {N : Nat → Nat} {S : Nat} {w bf : Nat → Nat} (hU : pc_Up N) (hS : S < 1024) (hB : ∀ a, S.testBit a = true → pc_BF N S w bf a) : ∀ d a, 10 ≤ a + d → S.testBit a = true → ∃ s, pc_Ch N S s ∧ pc_Lo s a ∧ pc_sm s.testBit w 10 = bf a := by
  intro d
  induction d with
  | zero =>
    intro a h ha
    exact absurd (pc_lo hS ha) (by omega)
  | succ d ih =>
    intro a had ha
    have ha10 := pc_lo hS ha
    rcases (hB a ha).2.2 with e | ⟨b, hb, e⟩
    · refine ⟨0 ||| 2 ^ a, ⟨fun v hv => ?_, pc_Row1 N a⟩, ⟨(pc_i 0 a a).mpr (Or.inr rfl), fun v hv => ?_⟩, ?_⟩
      · rw [((pc_i 0 a v).mp hv).resolve_left (pc_n0 v)]; exact ha
      · rw [((pc_i 0 a v).mp hv).resolve_left (pc_n0 v)]; exact Nat.le_refl a
      · rw [pc_sm_i ha10 (pc_n0 a), pc_sm_0, e, Nat.zero_add]
    · have hb' := (pc_andi _ _ _).mp hb
      have hab := (hU a b ha10 hb'.1).1
      obtain ⟨s, s1, s2, s3⟩ := ih b (by omega) hb'.2
      have hna : ¬ s.testBit a = true := fun z => by have := s2.2 a z; omega
      refine ⟨s ||| 2 ^ a, ⟨fun v hv => ?_, pc_RowI hab s1.2 s2 hb'.1⟩, ⟨(pc_i s a a).mpr (Or.inr rfl), fun v hv => ?_⟩, ?_⟩
      · rcases (pc_i s a v).mp hv with z | z
        · exact s1.1 v z
        · rw [z]; exact ha
      · rcases (pc_i s a v).mp hv with z | z
        · have := s2.2 v z; omega
        · omega
      · rw [pc_sm_i ha10 hna, s3, e, Nat.add_comm]
theorem pc_chain {N : Nat → Nat} {S : Nat} {w bf : Nat → Nat} {m m' : Nat} (hU : pc_Up N) (hS : S < 1024) (hB : ∀ a, S.testBit a = true → pc_BF N S w bf a)
    (h1 : m = 0 ∨ ∃ a, S.testBit a = true ∧ bf a = m) (h2 : ∀ a, S.testBit a = true → bf a ≤ m) (g : pc_Mx (pc_Ch N S) (fun s => pc_sm s.testBit w 10) 1024 m') : m' = m := by
  have x1 : m ≤ m' := by
    rcases h1 with e | ⟨a, ha, e⟩
    · omega
    · obtain ⟨s, s1, s2, s3⟩ := pc_Ch_ex hU hS hB 10 a (by omega) ha
      have h : pc_sm s.testBit w 10 ≤ m' := g.2 s (pc_lt (fun v hv => pc_lo hS (s1.1 v hv))) s1
      omega
  have x2 : m' ≤ m := by
    rcases g.1 with e | ⟨s, hs, hc, e⟩
    · omega
    · have e : pc_sm s.testBit w 10 = m' := e
      by_cases h0 : s = 0
      · rw [h0, pc_sm_0] at e; omega
      · obtain ⟨a, ha⟩ := pc_Lo_ex h0
        have y1 := pc_Ch_le hS hB s hc a ha
        have y2 := h2 a (hc.1 a ha.1)
        omega
  omega
/-! what is above: the least that holds the edges and goes on over them -/
def pc_Cl1 (e c : Nat → Nat) (a : Nat) : Prop := ∀ v, (c a).testBit v = true ↔ (e a).testBit v = true ∨ ∃ b, (e a).testBit b = true ∧ (c b).testBit v = true
theorem pc_Cl_u {e c c' : Nat → Nat} (hU : pc_Up e) (h : ∀ a, a < 10 → pc_Cl1 e c a) (h' : ∀ a, a < 10 → pc_Cl1 e c' a) : ∀ d a, a < 10 → 10 ≤ a + d → c a = c' a := by
  intro d
  induction d with
  | zero => intro a h1 h2; omega
  | succ d ih =>
    intro a ha hd
    apply Nat.eq_of_testBit_eq
    intro v
    have k : (c a).testBit v = true ↔ (c' a).testBit v = true := by
      rw [h a ha v, h' a ha v]
      constructor
      · rintro (z | ⟨b, z1, z2⟩)
        · exact Or.inl z
        · have u := hU a b ha z1
          exact Or.inr ⟨b, z1, by rw [← ih b u.2 (by omega)]; exact z2⟩
      · rintro (z | ⟨b, z1, z2⟩)
        · exact Or.inl z
        · have u := hU a b ha z1
          exact Or.inr ⟨b, z1, by rw [ih b u.2 (by omega)]; exact z2⟩
    cases x : (c a).testBit v <;> cases y : (c' a).testBit v <;> simp_all
theorem pc_Cl_up {e c : Nat → Nat} (hU : pc_Up e) (h : ∀ a, a < 10 → pc_Cl1 e c a) : pc_Up c := by
  have k : ∀ d a b, a < 10 → 10 ≤ a + d → (c a).testBit b = true → a < b ∧ b < 10 := by
    intro d
    induction d with
    | zero => intro a b h1 h2; omega
    | succ d ih =>
      intro a b ha hd hb
      rcases (h a ha b).mp hb with z | ⟨t, z1, z2⟩
      · exact hU a b ha z
      · have u := hU a t ha z1
        have := ih t b u.2 (by omega) z2
        omega
  exact fun a b ha hb => k 10 a b ha (by omega) hb
/-! antichains -/
def pc_AC (N : Nat → Nat) (S s : Nat) : Prop := (∀ v, s.testBit v = true → S.testBit v = true) ∧ ∀ u v, s.testBit u = true → s.testBit v = true → (N u).testBit v = true → False
theorem pc_AC0 (N : Nat → Nat) (S : Nat) : pc_AC N S 0 := ⟨fun v h => absurd h (pc_n0 v), fun u _ h => absurd h (pc_n0 u)⟩
/-! all the parts of a set, from the set downwards -/
theorem pc_bit0 (a b : Nat) : (a &&& b) % 2 = if a % 2 = 1 ∧ b % 2 = 1 then 1 else 0 := by
  have h := @Nat.and_mod_two_eq_one a b
  by_cases z : a % 2 = 1 ∧ b % 2 = 1
  · rw [if_pos z]; exact h.mpr z
  · rw [if_neg z]
    have : ¬ (a &&& b) % 2 = 1 := fun y => z (h.mp y)
    omega
theorem pc_sub : ∀ q p s : Nat, p &&& s = p → q &&& s = q → p < q → p ≤ (q - 1) &&& s := by
  intro q
  induction q using Nat.strongRecOn with
  | ind q ih =>
    intro p s hp hq hpq
    have p2 : p / 2 &&& s / 2 = p / 2 := by rw [← Nat.and_div_two, hp]
    have q2 : q / 2 &&& s / 2 = q / 2 := by rw [← Nat.and_div_two, hq]
    have pm := pc_bit0 p s
    have qm := pc_bit0 q s
    have rm := pc_bit0 (q - 1) s
    rw [hp] at pm
    rw [hq] at qm
    have rd : ((q - 1) &&& s) / 2 = (q - 1) / 2 &&& s / 2 := Nat.and_div_two
    have key : ((q - 1) &&& s) = 2 * (((q - 1) &&& s) / 2) + ((q - 1) &&& s) % 2 := by omega
    by_cases ho : q % 2 = 1
    · have e : (q - 1) / 2 = q / 2 := by omega
      rw [e, q2] at rd
      by_cases hp1 : p % 2 = 1 ∧ s % 2 = 1
      · omega
      · rw [if_neg hp1] at pm
        omega
    · have e : (q - 1) / 2 = q / 2 - 1 := by omega
      have i := ih (q / 2) (by omega) (p / 2) (s / 2) p2 q2 (by omega)
      rw [e] at rd
      have ho' : (q - 1) % 2 = 1 := by omega
      by_cases hp1 : p % 2 = 1 ∧ s % 2 = 1
      · rw [if_pos ⟨ho', hp1.2⟩] at rm
        omega
      · rw [if_neg hp1] at pm
        omega
end
section
/-! Int32 words as masks (pk_ and s_l, nx_ rows: kit/rows) -/
theorem pk_us {f : Nat → Int32} {k : Nat} {x : Int32} : upd f k x k = x := if_pos rfl
theorem pk_un {f : Nat → Int32} {k j : Nat} {x : Int32} (h : j ≠ k) : upd f k x j = f j := if_neg h
theorem pk_sub {a b : Nat} (h : b ≤ a) : nI a - nI b = nI (a - b) := by
  obtain ⟨c, rfl⟩ : ∃ c, a = c + b := ⟨a - b, by omega⟩
  rw [← nI_add, Int32.add_sub_cancel, Nat.add_sub_cancel]
theorem pk_m1 (n : Nat) : nI (n + 1) + (-1) = nI n := by
  rw [← nI_1, Int32.add_assoc, show (1 : Int32) + (-1) = 0 from rfl, Int32.add_zero]
theorem pk_le {x y : Int32} {A B : Prop} (a b : Nat) (f : a ≤ b → A) (g : b < a → B) (hx : x = nI a := by rfl) (hy : y = nI b := by rfl) (ha : a < 2 ^ 31 := by omega) (hb : b < 2 ^ 31 := by omega) : (x ≤ y → A) ∧ (¬ x ≤ y → B) := by
  subst hx hy
  rw [nI_leI ha hb]
  exact ⟨f, fun z => g (by omega)⟩
theorem pk_lt {x y : Int32} {A B : Prop} (a b : Nat) (f : a < b → A) (g : b ≤ a → B) (hx : x = nI a := by rfl) (hy : y = nI b := by rfl) (ha : a < 2 ^ 31 := by omega) (hb : b < 2 ^ 31 := by omega) : (x < y → A) ∧ (¬ x < y → B) := by
  subst hx hy
  rw [nI_ltI ha hb]
  exact ⟨f, fun z => g (by omega)⟩
theorem pk_eq {x y : Int32} {A B : Prop} (a b : Nat) (f : a = b → A) (g : a ≠ b → B) (hx : x = nI a := by rfl) (hy : y = nI b := by rfl) (ha : a < 2 ^ 31 := by omega) (hb : b < 2 ^ 31 := by omega) : (x = y → A) ∧ (¬ x = y → B) := by
  subst hx hy
  rw [nI_eq ha hb]
  exact ⟨f, g⟩
theorem pk_in {x : Int32} (n N : Nat) (h : n < N) (hx : x = nI n := by rfl) (hN : N < 2 ^ 31 := by omega) : vp_in x N := by
  subst hx
  exact vp_in_nI h hN
theorem pk_cl {x : Int32} (n : Nat) (hx : x = nI n := by rfl) (h : n < 2 ^ 31 := by omega) : x.toNatClampNeg = n := by
  subst hx
  exact nI_clamp h
theorem pk_tn {n : Nat} (h : n < 2 ^ 32) : (nI n).toBitVec.toNat = n := Nat.mod_eq_of_lt h
theorem pk_shr (a s : Int32) (k : Nat) (hs : (s.toBitVec.smod 32).toNat = k) : (a >>> s).toInt = a.toInt >>> k := by
  show (a.toBitVec.sshiftRight (s.toBitVec.smod 32).toNat).toInt = _
  rw [hs, BitVec.toInt_sshiftRight]
  rfl
theorem pk_shrN {n : Nat} (h : n < 2 ^ 31) (s : Int32) (k : Nat) (hs : (s.toBitVec.smod 32).toNat = k) : nI n >>> s = nI (n / 2 ^ k) := by
  apply Int32.toInt_inj.mp
  have h2 : n / 2 ^ k ≤ n := Nat.div_le_self _ _
  rw [pk_shr _ _ k hs, nI_toInt h, nI_toInt (by omega), Int.shiftRight_eq_div_pow]
  rfl
theorem s_l : ∀ n, n < 32 → ((nI n &&& 31).toBitVec.smod 32).toNat = n := by decide +kernel
theorem nx_and (a b : Nat) : nI a &&& nI b = nI (a &&& b) := by
  apply Int32.toBitVec_inj.1
  show BitVec.ofNat 32 a &&& BitVec.ofNat 32 b = BitVec.ofNat 32 (a &&& b)
  apply BitVec.eq_of_getLsbD_eq
  intro i hi
  simp [hi]
theorem pc_nor (a b : Nat) : nI a ||| nI b = nI (a ||| b) := by
  apply Int32.toBitVec_inj.1
  show BitVec.ofNat 32 a ||| BitVec.ofNat 32 b = BitVec.ofNat 32 (a ||| b)
  apply BitVec.eq_of_getLsbD_eq
  intro i hi
  simp [hi]
theorem pc_m1b : (-1 : Int32).toBitVec = BitVec.allOnes 32 := by decide
theorem pc_nnot (s p : Nat) : nI s &&& (nI p ^^^ (-1)) = nI (pc_df s p) := by
  apply Int32.toBitVec_inj.1
  rw [Int32.toBitVec_and, Int32.toBitVec_xor, pc_m1b]
  show BitVec.ofNat 32 s &&& (BitVec.ofNat 32 p ^^^ BitVec.allOnes 32) = BitVec.ofNat 32 (pc_df s p)
  apply BitVec.eq_of_getLsbD_eq
  intro i hi
  simp only [BitVec.getLsbD_and, BitVec.getLsbD_xor, BitVec.getLsbD_ofNat, BitVec.getLsbD_allOnes, hi, decide_true, Bool.true_and, pc_df_t, Bool.xor_true]
theorem pc_shl : ∀ v, v < 10 → ((1 : Int32) <<< (nI v &&& 31)) = nI (2 ^ v) := by decide +kernel
theorem pc_bitN {s v : Nat} (hs : s < 1024) (hv : v < 10) : (nI s >>> (nI v &&& 31)) &&& 1 = nI (s.testBit v).toNat := by
  rw [pk_shrN (by omega) _ v (s_l v (by omega)), Nat.toNat_testBit]
  show nI (s / 2 ^ v) &&& nI 1 = _
  rw [nx_and, Nat.and_one_is_mod]
def pc_low : Nat → Nat → Nat
  | 0, _ => 0
  | f + 1, s => if s % 2 = 1 then 0 else pc_low f (s / 2) + 1
theorem pc_low_d : ∀ s, s < 1024 → s = 0 ∨ (nI s &&& -(nI s) = nI (2 ^ pc_low 10 s) ∧ s.testBit (pc_low 10 s) = true ∧ s % 2 ^ pc_low 10 s = 0) := by decide +kernel
theorem pc_low_s {s : Nat} (hs : s < 1024) (h0 : s ≠ 0) : ∃ a, pc_Lo s a ∧ nI s &&& -(nI s) = nI (2 ^ a) := by
  obtain ⟨h1, h2, h3⟩ := (pc_low_d s hs).resolve_left h0
  refine ⟨_, ⟨h2, fun w hw => ?_⟩, h1⟩
  rcases Nat.lt_or_ge w (pc_low 10 s) with z | z
  · have e := Nat.testBit_mod_two_pow s (pc_low 10 s) w
    rw [h3, Nat.zero_testBit, decide_eq_true z, hw] at e
    exact absurd e (by decide)
  · exact z
theorem pc_and2 (p a : Nat) : p &&& 2 ^ a = 0 ↔ ¬ p.testBit a = true := by
  constructor
  · intro h z
    have e := Nat.testBit_and p (2 ^ a) a
    rw [h, Nat.zero_testBit, z, Nat.testBit_two_pow, decide_eq_true rfl] at e
    exact absurd e (by decide)
  · intro h
    apply Nat.eq_of_testBit_eq
    intro v
    rw [Nat.testBit_and, Nat.testBit_two_pow, Nat.zero_testBit]
    by_cases e : a = v
    · subst e
      cases x : p.testBit a
      · rfl
      · exact absurd x h
    · rw [decide_eq_false e, Bool.and_false]
theorem pc_and0 (p q : Nat) : p &&& q = 0 ↔ ∀ v, p.testBit v = true → q.testBit v = true → False := by
  constructor
  · intro h v h1 h2
    have e := Nat.testBit_and p q v
    rw [h, Nat.zero_testBit, h1, h2] at e
    exact absurd e (by decide)
  · intro h
    apply Nat.eq_of_testBit_eq
    intro v
    rw [Nat.testBit_and, Nat.zero_testBit]
    cases x : p.testBit v
    · rfl
    · cases y : q.testBit v
      · rfl
      · exact (h v x y).elim
theorem pc_df0 (s p : Nat) : pc_df s p = 0 ↔ ∀ v, s.testBit v = true → p.testBit v = true := by
  constructor
  · intro h v h1
    have e := pc_df_t s p v
    rw [h, Nat.zero_testBit, h1] at e
    cases y : p.testBit v
    · rw [y] at e; exact absurd e (by decide)
    · rfl
  · intro h
    apply Nat.eq_of_testBit_eq
    intro v
    rw [pc_df_t, Nat.zero_testBit]
    cases x : s.testBit v
    · rfl
    · rw [h v x]; rfl
theorem pc_andlt (p : Nat) {q : Nat} (h : q < 1024) : p &&& q < 1024 := Nat.and_lt_two_pow (n := 10) p h
theorem pc_orlt {p q : Nat} (hp : p < 1024) (h : q < 1024) : p ||| q < 1024 := Nat.or_lt_two_pow (n := 10) hp h
theorem pc_dflt {p : Nat} (q : Nat) (hp : p < 1024) : pc_df p q < 1024 := Nat.lt_of_le_of_lt (pc_df_le p q) hp
theorem pc_eq0 {a : Nat} (h : a < 2 ^ 31) : nI a = 0 ↔ a = 0 := nI_eq (b := 0) h (by decide)
end
section
/-! folds that loops make, and functions given downwards -/
def pc_of (x m : Nat) (c : Nat → Nat) : Nat → Nat
  | 0 => x
  | n + 1 => if m.testBit n = true then pc_of x m c n ||| c n else pc_of x m c n
theorem pc_of_t {x m : Nat} {c : Nat → Nat} : ∀ n v, (pc_of x m c n).testBit v = true ↔ x.testBit v = true ∨ ∃ b, b < n ∧ m.testBit b = true ∧ (c b).testBit v = true := by
  intro n
  induction n with
  | zero => exact fun v => ⟨Or.inl, fun h => h.elim id (fun ⟨b, hb, _⟩ => absurd hb (Nat.not_lt_zero b))⟩
  | succ n ih =>
    intro v
    show (if m.testBit n = true then pc_of x m c n ||| c n else pc_of x m c n).testBit v = true ↔ _
    by_cases hm : m.testBit n = true
    · rw [if_pos hm, Nat.testBit_or, Bool.or_eq_true, ih v]
      constructor
      · rintro ((z | ⟨b, h1, h2⟩) | z)
        · exact Or.inl z
        · exact Or.inr ⟨b, by omega, h2⟩
        · exact Or.inr ⟨n, by omega, hm, z⟩
      · rintro (z | ⟨b, h1, h2, h3⟩)
        · exact Or.inl (Or.inl z)
        · by_cases e : b = n
          · rw [e] at h3; exact Or.inr h3
          · exact Or.inl (Or.inr ⟨b, by omega, h2, h3⟩)
    · rw [if_neg hm, ih v]
      constructor
      · rintro (z | ⟨b, h1, h2⟩)
        · exact Or.inl z
        · exact Or.inr ⟨b, by omega, h2⟩
      · rintro (z | ⟨b, h1, h2, h3⟩)
        · exact Or.inl z
        · by_cases e : b = n
          · rw [e] at h2; exact absurd h2 hm
          · exact Or.inr ⟨b, by omega, h2, h3⟩
theorem pc_of_lt {x m : Nat} {c : Nat → Nat} (hx : x < 1024) {n : Nat} (hc : ∀ b, b < n → m.testBit b = true → c b < 1024) : pc_of x m c n < 1024 := by
  apply pc_lt
  intro v hv
  rcases (pc_of_t n v).mp hv with z | ⟨b, h1, h2, h3⟩
  · exact pc_lo hx z
  · exact pc_lo (hc b h1 h2) h3
theorem pc_of_eq {x m : Nat} {c d : Nat → Nat} : ∀ n, (∀ b, b < n → m.testBit b = true → c b = d b) → pc_of x m c n = pc_of x m d n := by
  intro n
  induction n with
  | zero => intro _; rfl
  | succ n ih =>
    intro h
    show (if m.testBit n = true then pc_of x m c n ||| c n else pc_of x m c n) = (if m.testBit n = true then pc_of x m d n ||| d n else pc_of x m d n)
    rw [ih (fun b hb => h b (by omega))]
    by_cases hm : m.testBit n = true
    · rw [if_pos hm, if_pos hm, h n (by omega) hm]
    · rw [if_neg hm, if_neg hm]
theorem pc_of_0 {x m : Nat} {c : Nat → Nat} : ∀ n, (∀ b, b < n → m.testBit b = true → False) → pc_of x m c n = x := by
  intro n
  induction n with
  | zero => intro _; rfl
  | succ n ih =>
    intro h
    show (if m.testBit n = true then pc_of x m c n ||| c n else pc_of x m c n) = x
    rw [if_neg (fun z => h n (by omega) z), ih (fun b hb => h b (by omega))]
theorem pc_rec (F : (Nat → Nat) → Nat → Nat) (hF : ∀ f g a, a < 10 → (∀ b, a < b → f b = g b) → F f a = F g a) : ∃ f : Nat → Nat, ∀ a, a < 10 → f a = F f a := by
  have k : ∀ j, j ≤ 10 → ∃ f : Nat → Nat, ∀ a, a < 10 → 10 ≤ a + j → f a = F f a := by
    intro j
    induction j with
    | zero => exact fun _ => ⟨fun _ => 0, fun a h1 h2 => by omega⟩
    | succ j ih =>
      intro hj
      obtain ⟨f, hf⟩ := ih (by omega)
      refine ⟨fun b => if b = 9 - j then F f (9 - j) else f b, fun a ha haj => ?_⟩
      have e : F f a = F (fun b => if b = 9 - j then F f (9 - j) else f b) a := hF _ _ a ha (fun b hb => by rw [if_neg (by omega)])
      rw [← e]
      dsimp only
      by_cases z : a = 9 - j
      · rw [if_pos z, z]
      · rw [if_neg z]; exact hf a ha (by omega)
  obtain ⟨f, hf⟩ := k 10 (by omega)
  exact ⟨f, fun a ha => hf a ha (by omega)⟩
/-- what is above each vertex: c a is the fold over a's edges -/
theorem pc_cl_ex {e : Nat → Nat} (hU : pc_Up e) (he : ∀ a, a < 10 → e a < 1024) : ∃ c : Nat → Nat, ∀ a, a < 10 → c a = pc_of (e a) (e a) c 10 ∧ c a < 1024 := by
  obtain ⟨c, hc⟩ := pc_rec (fun c a => pc_of (e a) (e a) c 10) (fun f g a ha h => pc_of_eq 10 (fun b _ hm => h b (hU a b ha hm).1))
  refine ⟨c, fun a ha => ⟨hc a ha, ?_⟩⟩
  have k : ∀ d a, a < 10 → 10 ≤ a + d → c a < 1024 := by
    intro d
    induction d with
    | zero => intro a h1 h2; omega
    | succ d ih =>
      intro a ha hd
      rw [hc a ha]
      exact pc_of_lt (he a ha) (fun b _ hm => ih b (hU a b ha hm).2 (by have := (hU a b ha hm).1; omega))
  exact k 10 a ha (by omega)
def pc_Cl (e c : Nat → Nat) : Prop := ∀ a, a < 10 → c a = pc_of (e a) (e a) c 10 ∧ c a < 1024
theorem pc_Cl_1 {e c : Nat → Nat} (hU : pc_Up e) (h : pc_Cl e c) : ∀ a, a < 10 → pc_Cl1 e c a := by
  intro a ha v
  have k := pc_of_t (x := e a) (m := e a) (c := c) 10 v
  rw [← (h a ha).1] at k
  rw [k]
  constructor
  · rintro (z | ⟨b, _, h2, h3⟩)
    · exact Or.inl z
    · exact Or.inr ⟨b, h2, h3⟩
  · rintro (z | ⟨b, h2, h3⟩)
    · exact Or.inl z
    · exact Or.inr ⟨b, (hU a b ha h2).2, h2, h3⟩
theorem pc_Cl_eq {e c d : Nat → Nat} (hU : pc_Up e) (h : pc_Cl e c) (h' : pc_Cl e d) : ∀ a, a < 10 → c a = d a := fun a ha => pc_Cl_u hU (pc_Cl_1 hU h) (pc_Cl_1 hU h') 10 a ha (by omega)
theorem pc_Cl_U {e c : Nat → Nat} (hU : pc_Up e) (h : pc_Cl e c) : pc_Up c := pc_Cl_up hU (pc_Cl_1 hU h)
/-! the greatest of bf over a set -/
def pc_mx (m : Nat) (bf : Nat → Nat) : Nat → Nat
  | 0 => 0
  | n + 1 => if m.testBit n = true ∧ pc_mx m bf n < bf n then bf n else pc_mx m bf n
theorem pc_mx_ge {m : Nat} {bf : Nat → Nat} : ∀ n v, v < n → m.testBit v = true → bf v ≤ pc_mx m bf n := by
  intro n
  induction n with
  | zero => intro v h; omega
  | succ n ih =>
    intro v hv hm
    show bf v ≤ if m.testBit n = true ∧ pc_mx m bf n < bf n then bf n else pc_mx m bf n
    by_cases e : v = n
    · subst e
      split
      · exact Nat.le_refl _
      · rename_i z
        rcases Nat.lt_or_ge (pc_mx m bf v) (bf v) with y | y
        · exact absurd ⟨hm, y⟩ z
        · exact y
    · have i := ih v (by omega) hm
      split <;> omega
theorem pc_mx_ex {m : Nat} {bf : Nat → Nat} : ∀ n, pc_mx m bf n = 0 ∨ ∃ v, v < n ∧ m.testBit v = true ∧ pc_mx m bf n = bf v := by
  intro n
  induction n with
  | zero => exact Or.inl rfl
  | succ n ih =>
    show (if m.testBit n = true ∧ pc_mx m bf n < bf n then bf n else pc_mx m bf n) = 0 ∨ ∃ v, v < n + 1 ∧ m.testBit v = true ∧ (if m.testBit n = true ∧ pc_mx m bf n < bf n then bf n else pc_mx m bf n) = bf v
    by_cases z : m.testBit n = true ∧ pc_mx m bf n < bf n
    · rw [if_pos z]
      exact Or.inr ⟨n, by omega, z.1, rfl⟩
    · rw [if_neg z]
      exact ih.imp id (fun ⟨v, h1, h2⟩ => ⟨v, by omega, h2⟩)
theorem pc_mx_eq {m : Nat} {f g : Nat → Nat} : ∀ n, (∀ b, b < n → m.testBit b = true → f b = g b) → pc_mx m f n = pc_mx m g n := by
  intro n
  induction n with
  | zero => intro _; rfl
  | succ n ih =>
    intro h
    show (if m.testBit n = true ∧ pc_mx m f n < f n then f n else pc_mx m f n) = (if m.testBit n = true ∧ pc_mx m g n < g n then g n else pc_mx m g n)
    rw [ih (fun b hb => h b (by omega))]
    by_cases hm : m.testBit n = true
    · rw [h n (by omega) hm]
    · rw [if_neg (fun z => hm z.1), if_neg (fun z => hm z.1)]
theorem pc_bf_ex {N : Nat → Nat} {S : Nat} {w : Nat → Nat} (hU : pc_Up N) (hS : S < 1024) (hw : ∀ v, v < 10 → w v ≤ 9) :
    ∃ bf : Nat → Nat, (∀ a, a < 10 → bf a = pc_mx (N a &&& S) bf 10 + w a) ∧ (∀ a, S.testBit a = true → pc_BF N S w bf a) ∧ ∀ a, a < 10 → bf a ≤ 100 := by
  obtain ⟨bf, hb⟩ := pc_rec (fun bf a => pc_mx (N a &&& S) bf 10 + w a) (fun f g a ha h => congrArg (· + w a) (pc_mx_eq 10 (fun b _ hm => h b (hU a b ha ((pc_andi _ _ _).mp hm).1).1)))
  refine ⟨bf, hb, fun a ha => ?_, fun a ha => ?_⟩
  · have ha10 := pc_lo hS ha
    have e := hb a ha10
    refine ⟨by omega, fun v hv => ?_, ?_⟩
    · have := pc_mx_ge (bf := bf) 10 v (pc_lo hS ((pc_andi _ _ _).mp hv).2) hv
      omega
    · rcases pc_mx_ex (m := N a &&& S) (bf := bf) 10 with z | ⟨v, _, h2, h3⟩
      · exact Or.inl (by omega)
      · exact Or.inr ⟨v, h2, by omega⟩
  · have k : ∀ d a, a < 10 → 10 ≤ a + d → bf a ≤ 9 * d := by
      intro d
      induction d with
      | zero => intro a h1 h2; omega
      | succ d ih =>
        intro a ha hd
        have e := hb a ha
        have h9 := hw a ha
        rcases pc_mx_ex (m := N a &&& S) (bf := bf) 10 with z | ⟨v, h1, h2, h3⟩
        · omega
        · have u := hU a v ha ((pc_andi _ _ _).mp h2).1
          have := ih v u.2 (by omega)
          omega
    have := k 10 a ha (by omega)
    omega
/-- counting downwards: the head of the loop after j + 1, j, .. -/
def pc_dn (j : Nat) : Int32 := nI j + (-1)
theorem pc_dn_s (j : Nat) : pc_dn (j + 1) = nI j := by
  unfold pc_dn
  rw [← nI_1, Int32.add_assoc, show (1 : Int32) + (-1) = 0 from rfl, Int32.add_zero]
theorem pc_dn_0 : pc_dn 0 < 0 := by decide
/-! a mask's truth as 0 or 1 -/
def pc_b (b : Bool) : Int32 := if b = true then 1 else 0
theorem pc_sm_s (p : Nat → Bool) (w : Nat → Nat) (n : Nat) : pc_sm p w (n + 1) = pc_sm p w n + (if p n = true then w n else 0) := rfl
end
section
/-! the component's small methods, each with a general post -/
def pc_Ar (E : Nat → Int32) (e : Nat → Nat) : Prop := ∀ a, a < 10 → E a = nI (e a) ∧ e a < 1024
def pc_We (W : Nat → Int32) (w : Nat → Nat) : Prop := ∀ a, a < 10 → W a = nI (w a) ∧ w a ≤ 9
theorem pc_ar {E : Nat → Int32} {e : Nat → Nat} (h : pc_Ar E e) {a : Nat} (ha : a < 10) : E (nI a).toNatClampNeg = nI (e a) := by
  rw [nI_clamp (by omega)]; exact (h a ha).1
theorem pc_we {W : Nat → Int32} {w : Nat → Nat} (h : pc_We W w) {a : Nat} (ha : a < 10) : W (nI a).toNatClampNeg = nI (w a) := by
  rw [nI_clamp (by omega)]; exact (h a ha).1
theorem pc_in10 {a : Nat} (ha : a < 10) : vp_in (nI a) 10 := vp_in_nI ha (by decide)
theorem pc_inS {a : Nat} (ha : a < 1024) : vp_in (nI a) 1024 := vp_in_nI ha (by decide)
theorem pc_xhas {post : Int32 → Prop} {p q : Int32} {s v : Nat} (hp : p = nI s) (hq : q = nI v) (hs : s < 1024) (hv : v < 10) (h1 : s.testBit v = true → post 1) (h0 : ¬ s.testBit v = true → post 0) : wpX_has post p q := by
  subst hp hq
  show (((nI s >>> (nI v &&& 31)) &&& 1) = 0 → post 0) ∧ (¬ ((nI s >>> (nI v &&& 31)) &&& 1) = 0 → post 1)
  rw [pc_bitN hs hv]
  cases e : s.testBit v
  · exact br_t nI_0 (h0 (by rw [e]; decide))
  · exact br_f (by decide) (h1 e)
theorem pc_xif {A B : Prop} {p q : Int32} {s v : Nat} (hp : p = nI s) (hq : q = nI v) (hs : s < 1024) (hv : v < 10) (h1 : s.testBit v = true → B) (h0 : ¬ s.testBit v = true → A) : wpX_has (fun r => (r = 0 → A) ∧ (¬ r = 0 → B)) p q :=
  pc_xhas hp hq hs hv (fun z => br_f (by decide) (h1 z)) (fun z => br_t rfl (h0 z))
theorem pc_xcount_l {post : Int32 → Prop} {s : Nat} (hs : s < 1024) (hp : post (nI (pc_cn s))) : ∀ d i, i + d = 10 → wX_count_4 post (nI s) (d + 1) (nI (pc_sm s.testBit pc_one i)) (nI i) := by
  intro d
  induction d with
  | zero =>
    intro i hi
    have e : i = 10 := by omega
    subst e
    exact br_t (by decide) hp
  | succ d ih =>
    intro i hi
    have k := ih (i + 1) (by omega)
    rw [pc_sm_s] at k
    refine pk_le 10 i (fun z => absurd z (by omega)) (fun _ => pc_xif rfl rfl hs (by omega) (fun z => ?_) (fun z => ?_))
    · rw [if_pos z] at k
      exact nm_r (nI_1 _) (nm_r (nI_1 _) k)
    · rw [if_neg z] at k
      exact nm_r (nI_1 _) k
theorem pc_xcount {post : Int32 → Prop} {p : Int32} {s : Nat} (hp : p = nI s) (hs : s < 1024) (h : post (nI (pc_cn s))) : wpX_count post p := by
  subst hp
  exact ⟨11, pc_xcount_l hs h 10 0 rfl⟩
theorem pc_xweight_l {post : Int32 → Prop} {o : Int32} {E A W R B : Nat → Int32} {w : Nat → Nat} {s : Nat} (hW : pc_We W w) (hs : s < 1024) (hp : post (nI (pc_sm s.testBit w 10))) : ∀ d i, i + d = 10 → wX_weightOf_4 post (nI s) o E A W R B (d + 1) (nI (pc_sm s.testBit w i)) (nI i) := by
  intro d
  induction d with
  | zero =>
    intro i hi
    have e : i = 10 := by omega
    subst e
    exact br_t (by decide) hp
  | succ d ih =>
    intro i hi
    have k := ih (i + 1) (by omega)
    rw [pc_sm_s] at k
    refine pk_le 10 i (fun z => absurd z (by omega)) (fun _ => pc_xif rfl rfl hs (by omega) (fun z => ?_) (fun z => ?_))
    · rw [if_pos z] at k
      exact ⟨pc_in10 (by omega), nm_r (by rw [pc_we hW (by omega), nI_add]) (nm_r (nI_1 _) k)⟩
    · rw [if_neg z] at k
      exact nm_r (nI_1 _) k
theorem pc_xweight {post : Int32 → Prop} {o : Int32} {E A W R B : Nat → Int32} {w : Nat → Nat} {s : Nat} (hW : pc_We W w) (hs : s < 1024) (hp : post (nI (pc_sm s.testBit w 10))) : wpX_weightOf post (o, E, A, W, R, B) (nI s) :=
  ⟨11, pc_xweight_l hW hs hp 10 0 rfl⟩
theorem pc_c1 {A B : Prop} {s o : Nat} (hs : s < 1024) (f : (∀ v, s.testBit v = true → o.testBit v = true) → A) (g : ¬ (∀ v, s.testBit v = true → o.testBit v = true) → B) : ((nI s &&& (nI o ^^^ (-1))) = 0 → A) ∧ (¬ (nI s &&& (nI o ^^^ (-1))) = 0 → B) := by
  have h := pc_dflt o hs
  rw [pc_nnot, pc_eq0 (by omega), pc_df0]
  exact ⟨f, g⟩
theorem pc_c2 {A B : Prop} {s t : Nat} (ht : t < 1024) (f : (∀ v, s.testBit v = true → t.testBit v = true → False) → A) (g : ¬ (∀ v, s.testBit v = true → t.testBit v = true → False) → B) : ((nI s &&& nI t) = 0 → A) ∧ (¬ (nI s &&& nI t) = 0 → B) := by
  have h := pc_andlt s ht
  rw [nx_and, pc_eq0 (by omega), pc_and0]
  exact ⟨f, g⟩
theorem pc_xanti_l {post : Int32 → Prop} {E A W R B : Nat → Int32} {c : Nat → Nat} {o s : Nat} (hA : pc_Ar A c) (hs : s < 1024) (h1 : pc_AC c o s → post 1) (h0 : ¬ pc_AC c o s → post 0) : ∀ d i, i + d = 10 → wX_isAntichain_4 post (nI s) (nI o) E A W R B (d + 1) (nI (pc_of 0 s c i)) (nI i) := by
  intro d
  induction d with
  | zero =>
    intro i hi
    have e : i = 10 := by omega
    subst e
    have hl : pc_of 0 s c 10 < 1024 := pc_of_lt (by decide) (fun b hb _ => (hA b hb).2)
    refine br_t (by decide) (pc_c1 hs (fun x => pc_c2 hl (fun y => h1 ⟨x, fun u v hu hv hc => y v hv ((pc_of_t 10 v).mpr (Or.inr ⟨u, pc_lo hs hu, hu, hc⟩))⟩) (fun y => h0 (fun z => y (fun v hv ht => ?_)))) (fun x => h0 (fun z => x z.1)))
    rcases (pc_of_t 10 v).mp ht with t | ⟨b, _, t1, t2⟩
    · exact pc_n0 v t
    · exact z.2 b v t1 hv t2
  | succ d ih =>
    intro i hi
    have k := ih (i + 1) (by omega)
    have e : pc_of 0 s c (i + 1) = if s.testBit i = true then pc_of 0 s c i ||| c i else pc_of 0 s c i := rfl
    rw [e] at k
    refine pk_le 10 i (fun z => absurd z (by omega)) (fun _ => pc_xif rfl rfl hs (by omega) (fun z => ?_) (fun z => ?_))
    · rw [if_pos z] at k
      exact ⟨pc_in10 (by omega), nm_r (by rw [pc_ar hA (by omega), pc_nor]) (nm_r (nI_1 _) k)⟩
    · rw [if_neg z] at k
      exact nm_r (nI_1 _) k
theorem pc_xanti {post : Int32 → Prop} {E A W R B : Nat → Int32} {c : Nat → Nat} {o s : Nat} (hA : pc_Ar A c) (hs : s < 1024) (h1 : pc_AC c o s → post 1) (h0 : ¬ pc_AC c o s → post 0) : wpX_isAntichain post (nI o, E, A, W, R, B) (nI s) :=
  ⟨11, pc_xanti_l hA hs h1 h0 10 0 rfl⟩
theorem pc_xaif {P Q : Prop} {E A W R B : Nat → Int32} {c : Nat → Nat} {o s : Nat} (hA : pc_Ar A c) (hs : s < 1024) (h1 : pc_AC c o s → Q) (h0 : ¬ pc_AC c o s → P) : wpX_isAntichain (fun r => (r = 0 → P) ∧ (¬ r = 0 → Q)) (nI o, E, A, W, R, B) (nI s) :=
  pc_xanti hA hs (fun z => br_f (by decide) (h1 z)) (fun z => br_t rfl (h0 z))
theorem pc_xsw_l {post : Int32 → Prop} {E A W R B : Nat → Int32} {c : Nat → Nat} {o : Nat} (hA : pc_Ar A c) (hp : ∀ b, b < 1024 → pc_SW (pc_AC c o) pc_cn 1024 b → post (nI b)) : ∀ d i b, i + d = 1024 → b < 1024 → pc_SW (pc_AC c o) pc_cn i b → wX_smallestWidest_6 post (nI o) E A W R B (d + 1) (nI b) (nI (pc_cn b)) (nI i) := by
  intro d
  induction d with
  | zero =>
    intro i b hi hb hS
    have e : i = 1024 := by omega
    subst e
    exact br_t (by decide) (hp b hb hS)
  | succ d ih =>
    intro i b hi hb hS
    refine pk_le 1024 i (fun z => absurd z (by omega)) (fun _ => pc_xaif hA (by omega) (fun z => pc_xcount rfl (by omega) ?_) (fun z => ?_))
    · have c1 := pc_cn_le i
      have c2 := pc_cn_le b
      exact pk_le (pc_cn i) (pc_cn b) (fun y => nm_r (nI_1 _) (ih (i + 1) b (by omega) hb (pc_SW_n hS (fun _ => y)))) (fun y => nm_r (nI_1 _) (ih (i + 1) i (by omega) (by omega) (pc_SW_t hS z y)))
    · exact nm_r (nI_1 _) (ih (i + 1) b (by omega) hb (pc_SW_n hS (fun y => absurd y z)))
theorem pc_cn0 : pc_cn 0 = 0 := pc_sm_0 pc_one
theorem pc_xsw {post : Int32 → Prop} {E A W R B : Nat → Int32} {c : Nat → Nat} {o : Nat} (hA : pc_Ar A c) (hp : ∀ b, b < 1024 → pc_SW (pc_AC c o) pc_cn 1024 b → post (nI b)) : wpX_smallestWidest post (nI o, E, A, W, R, B) := by
  have k := pc_xsw_l (E := E) (W := W) (R := R) (B := B) hA hp 1024 0 0 rfl (by decide) (pc_SW0 _ _)
  rw [pc_cn0] at k
  exact ⟨1025, k⟩
theorem pc_sm90 {w : Nat → Nat} (hw : ∀ v, v < 10 → w v ≤ 9) (p : Nat → Bool) : pc_sm p w 10 ≤ 90 := pc_sm_le (c := 9) 10 hw
theorem pc_xheavy_l {post : Int32 → Prop} {E A W R B : Nat → Int32} {c w : Nat → Nat} {o : Nat} (hA : pc_Ar A c) (hW : pc_We W w) (hp : ∀ m, pc_Mx (pc_AC c o) (fun s => pc_sm s.testBit w 10) 1024 m → post (nI m)) : ∀ d i m, i + d = 1024 → pc_Mx (pc_AC c o) (fun s => pc_sm s.testBit w 10) i m → wX_heaviest_4 post (nI o) E A W R B (d + 1) (nI m) (nI i) := by
  intro d
  induction d with
  | zero =>
    intro i m hi hS
    have e : i = 1024 := by omega
    subst e
    exact br_t (by decide) (hp m hS)
  | succ d ih =>
    intro i m hi hS
    have hw : ∀ p, pc_sm p w 10 ≤ 90 := pc_sm90 (fun v hv => (hW v hv).2)
    have hm : m ≤ 90 := pc_Mx_b hS (fun s _ => hw _)
    have hi2 := hw i.testBit
    refine pk_le 1024 i (fun z => absurd z (by omega)) (fun _ => pc_xaif hA (by omega) (fun z => pc_xweight hW (by omega) ?_) (fun z => ?_))
    · exact pk_le (pc_sm i.testBit w 10) m (fun y => nm_r (nI_1 _) (ih (i + 1) m (by omega) (pc_Mx_n hS (fun _ => y)))) (fun y => nm_r (nI_1 _) (ih (i + 1) _ (by omega) (pc_Mx_t hS z y)))
    · exact nm_r (nI_1 _) (ih (i + 1) m (by omega) (pc_Mx_n hS (fun y => absurd y z)))
theorem pc_xheavy {post : Int32 → Prop} {E A W R B : Nat → Int32} {c w : Nat → Nat} {o : Nat} (hA : pc_Ar A c) (hW : pc_We W w) (hp : ∀ m, pc_Mx (pc_AC c o) (fun s => pc_sm s.testBit w 10) 1024 m → post (nI m)) : wpX_heaviest post (nI o, E, A, W, R, B) :=
  ⟨1025, pc_xheavy_l hA hW hp 1024 0 0 rfl (pc_Mx0 _ _)⟩
theorem pc_xants_l {post : Int32 → Prop} {E A W R B : Nat → Int32} {c : Nat → Nat} {o : Nat} (hA : pc_Ar A c) (hp : post (nI (pc_ct (pc_AC c o) 1024))) : ∀ d i, i + d = 1024 → wX_antichains_4 post (nI o) E A W R B (d + 1) (nI (pc_ct (pc_AC c o) i)) (nI i) := by
  intro d
  induction d with
  | zero =>
    intro i hi
    have e : i = 1024 := by omega
    subst e
    exact br_t (by decide) hp
  | succ d ih =>
    intro i hi
    have k := ih (i + 1) (by omega)
    refine pk_le 1024 i (fun z => absurd z (by omega)) (fun _ => pc_xaif hA (by omega) (fun z => ?_) (fun z => ?_))
    · rw [pc_ct_t z] at k
      exact nm_r (nI_1 _) (nm_r (nI_1 _) k)
    · rw [pc_ct_f z] at k
      exact nm_r (nI_1 _) k
theorem pc_xants {post : Int32 → Prop} {E A W R B : Nat → Int32} {c : Nat → Nat} {o : Nat} (hA : pc_Ar A c) (hp : post (nI (pc_ct (pc_AC c o) 1024))) : wpX_antichains post (nI o, E, A, W, R, B) :=
  ⟨1025, pc_xants_l hA hp 1024 0 rfl⟩
/-! pairs that are apart: the last d second ones, the last d first ones -/
def pc_ap0 (o : Nat) (c : Nat → Nat) (a b : Nat) : Nat := if o.testBit a = true ∧ o.testBit b = true ∧ ¬ (c a).testBit b = true then 1 else 0
def pc_ap1 (o : Nat) (c : Nat → Nat) (a : Nat) : Nat → Nat
  | 0 => 0
  | d + 1 => pc_ap0 o c a (9 - d) + pc_ap1 o c a d
def pc_ap2 (o : Nat) (c : Nat → Nat) : Nat → Nat
  | 0 => 0
  | d + 1 => pc_ap1 o c (9 - d) d + pc_ap2 o c d
theorem pc_ap1_t {o : Nat} {c : Nat → Nat} {a b d m : Nat} (hb : b + (d + 1) = 10) (h : o.testBit a = true ∧ o.testBit b = true ∧ ¬ (c a).testBit b = true) : m + pc_ap1 o c a (d + 1) = m + 1 + pc_ap1 o c a d := by
  have e : 9 - d = b := by omega
  show m + (pc_ap0 o c a (9 - d) + pc_ap1 o c a d) = _
  rw [e, pc_ap0, if_pos h]
  omega
theorem pc_ap1_f {o : Nat} {c : Nat → Nat} {a b d m : Nat} (hb : b + (d + 1) = 10) (h : ¬ (o.testBit a = true ∧ o.testBit b = true ∧ ¬ (c a).testBit b = true)) : m + pc_ap1 o c a (d + 1) = m + pc_ap1 o c a d := by
  have e : 9 - d = b := by omega
  show m + (pc_ap0 o c a (9 - d) + pc_ap1 o c a d) = _
  rw [e, pc_ap0, if_neg h]
  omega
theorem pc_xap_i {post : Int32 → Prop} {J : Int32 → Int32 → Prop} {E A W R B : Nat → Int32} {c : Nat → Nat} {o a : Nat} (hA : pc_Ar A c) (ho : o < 1024) (ha : a < 10) : ∀ d b m, b + d = 10 → J (nI (m + pc_ap1 o c a d)) (nI (a + 1)) → wX_apart_14 post J (nI a) (nI o) E A W R B (d + 1) (nI m) (nI b) := by
  intro d
  induction d with
  | zero =>
    intro b m hb hJ
    have e : b = 10 := by omega
    subst e
    exact br_t (by decide) (nm_r (nI_1 _) hJ)
  | succ d ih =>
    intro b m hb hJ
    refine pk_le 10 b (fun z => absurd z (by omega)) (fun _ => pc_xif rfl rfl ho ha (fun x => pc_xif rfl rfl ho (by omega) (fun y => ⟨pc_in10 ha, pc_xif (pc_ar hA ha) rfl (hA a ha).2 (by omega) (fun z => ?_) (fun z => ?_)⟩) (fun y => ?_)) (fun x => ?_))
    · rw [pc_ap1_f hb (fun t => t.2.2 z)] at hJ
      exact nm_r (nI_1 _) (ih (b + 1) m (by omega) hJ)
    · rw [pc_ap1_t hb ⟨x, y, z⟩] at hJ
      exact nm_r (nI_1 _) (nm_r (nI_1 _) (ih (b + 1) (m + 1) (by omega) hJ))
    · rw [pc_ap1_f hb (fun t => y t.2.1)] at hJ
      exact nm_r (nI_1 _) (ih (b + 1) m (by omega) hJ)
    · rw [pc_ap1_f hb (fun t => x t.1)] at hJ
      exact nm_r (nI_1 _) (ih (b + 1) m (by omega) hJ)
theorem pc_xap_l {post : Int32 → Prop} {E A W R B : Nat → Int32} {c : Nat → Nat} {o : Nat} (hA : pc_Ar A c) (ho : o < 1024) : ∀ d a m, a + d = 10 → post (nI (m + pc_ap2 o c d)) → wX_apart_4 post (nI o) E A W R B (d + 1) (nI m) (nI a) := by
  intro d
  induction d with
  | zero =>
    intro a m ha hp
    have e : a = 10 := by omega
    subst e
    exact br_t (by decide) hp
  | succ d ih =>
    intro a m ha hp
    have e : m + pc_ap2 o c (d + 1) = m + pc_ap1 o c a d + pc_ap2 o c d := by
      have e : 9 - d = a := by omega
      show m + (pc_ap1 o c (9 - d) d + pc_ap2 o c d) = _
      rw [e]; omega
    rw [e] at hp
    exact pk_le 10 a (fun z => absurd z (by omega)) (fun _ => nm_r (nI_1 _) ⟨d + 1, pc_xap_i hA ho (by omega) d (a + 1) m (by omega) (ih (a + 1) _ (by omega) hp)⟩)
theorem pc_xap {post : Int32 → Prop} {E A W R B : Nat → Int32} {c : Nat → Nat} {o : Nat} (hA : pc_Ar A c) (ho : o < 1024) (hp : post (nI (0 + pc_ap2 o c 10))) : wpX_apart post (nI o, E, A, W, R, B) :=
  ⟨11, pc_xap_l hA ho 10 0 0 rfl hp⟩
end
section
/-! the component's methods that store -/
theorem pc_dnpos (j : Nat) (hj : j < 2000) : ¬ nI j < 0 := nI_pos (by omega)
theorem pc_xfa_i {post : SX → Prop} {J : Int32 → (Nat → Int32) → (Nat → Int32) → (Nat → Int32) → (Nat → Int32) → (Nat → Int32) → Prop} {o : Int32} {E A W R B : Nat → Int32} {e c : Nat → Nat} {j : Nat}
    (hE : pc_Ar E e) (hc : pc_Cl e c) (hj : j < 10) (hA : ∀ b, j < b → b < 10 → A b = nI (c b)) (K : J (pc_dn j) E (upd A j (nI (c j))) W R B) :
    ∀ d i, j < i → i + d = 10 → wX_findAbove_18 post J (nI j) o E A W R B (d + 1) (nI (pc_of (e j) (e j) c i)) (nI i) := by
  intro d
  induction d with
  | zero =>
    intro i hi hd
    have e1 : i = 10 := by omega
    subst e1
    refine br_t (by decide) ⟨pc_in10 hj, nm_r ?_ (nm_e K)⟩
    rw [← (hc j hj).1, nI_clamp (by omega)]
  | succ d ih =>
    intro i hi hd
    have k := ih (i + 1) (by omega) (by omega)
    have e1 : pc_of (e j) (e j) c (i + 1) = if (e j).testBit i = true then pc_of (e j) (e j) c i ||| c i else pc_of (e j) (e j) c i := rfl
    rw [e1] at k
    refine pk_le 10 i (fun z => absurd z (by omega)) (fun _ => ⟨pc_in10 hj, pc_xif (pc_ar hE hj) rfl (hE j hj).2 (by omega) (fun z => ?_) (fun z => ?_)⟩)
    · rw [if_pos z] at k
      exact ⟨pc_in10 (by omega), nm_r (by rw [nI_clamp (by omega), hA i hi (by omega), pc_nor]) (nm_r (nI_1 _) k)⟩
    · rw [if_neg z] at k
      exact nm_r (nI_1 _) k
theorem pc_xfa_l {post : SX → Prop} {o : Int32} {E W R B : Nat → Int32} {e c : Nat → Nat} (hE : pc_Ar E e) (hU : pc_Up e) (hc : pc_Cl e c) (hp : ∀ A, pc_Ar A c → post (o, E, A, W, R, B)) :
    ∀ j, j ≤ 10 → ∀ A : Nat → Int32, (∀ b, j ≤ b → b < 10 → A b = nI (c b)) → wX_findAbove_3 post o (j + 1) (pc_dn j) E A W R B := by
  intro j
  induction j with
  | zero =>
    intro _ A hA
    exact br_t pc_dn_0 (hp A (fun a ha => ⟨hA a (Nat.zero_le a) ha, (hc a ha).2⟩))
  | succ j ih =>
    intro hj A hA
    rw [pc_dn_s]
    have h0 : pc_of (e j) (e j) c (j + 1) = e j := pc_of_0 (j + 1) (fun b hb hm => by have := (hU j b (by omega) hm).1; omega)
    have K : wX_findAbove_3 post o (j + 1) (pc_dn j) E (upd A j (nI (c j))) W R B := by
      refine ih (by omega) _ (fun b h1 h2 => ?_)
      by_cases z : b = j
      · subst z; exact pk_us
      · rw [pk_un z]; exact hA b (by omega) h2
    have k := pc_xfa_i (post := post) (J := wX_findAbove_3 post o (j + 1)) (o := o) (R := R) (B := B) (W := W) hE hc (by omega) (fun b h1 h2 => hA b (by omega) h2) K (9 - j) (j + 1) (by omega) (by omega)
    rw [h0] at k
    exact br_f (pc_dnpos j (by omega)) ⟨pc_in10 (by omega), nm_r (pc_ar hE (by omega)) (nm_r (nI_1 _) ⟨9 - j + 1, k⟩)⟩
theorem pc_xfa {post : SX → Prop} {o : Int32} {E A W R B : Nat → Int32} {e c : Nat → Nat} (hE : pc_Ar E e) (hU : pc_Up e) (hc : pc_Cl e c) (hp : ∀ A, pc_Ar A c → post (o, E, A, W, R, B)) : wpX_findAbove post (o, E, A, W, R, B) := by
  have k := pc_xfa_l (post := post) (o := o) (W := W) (R := R) (B := B) hE hU hc hp 10 (Nat.le_refl 10) A (fun b h1 h2 => by omega)
  rw [pc_dn_s] at k
  exact ⟨11, k⟩
/-! linkFrom: which sets are marked -/
def pc_Bl (R : Nat → Int32) (C : Nat → Prop) : Prop := ∀ s, s < 1024 → (C s → R s = 1) ∧ (¬ C s → R s = 0)
theorem pc_Bl_t {R : Nat → Int32} {C : Nat → Prop} (h : pc_Bl R C) {s : Nat} (hs : s < 1024) {P Q : Prop} (h1 : C s → Q) (h0 : ¬ C s → P) : (R (nI s).toNatClampNeg = 0 → P) ∧ (¬ R (nI s).toNatClampNeg = 0 → Q) := by
  rw [nI_clamp (by omega)]
  by_cases z : C s
  · rw [(h s hs).1 z]; exact br_f (by decide) (h1 z)
  · rw [(h s hs).2 z]; exact br_t rfl (h0 z)
theorem pc_Bl_u {R : Nat → Int32} {C D : Nat → Prop} {k : Nat} {x : Int32} (h : pc_Bl R C) (hx : (D k → x = 1) ∧ (¬ D k → x = 0)) (hD : ∀ s, s < 1024 → s ≠ k → (D s ↔ C s)) : pc_Bl (upd R k x) D := by
  intro s hs
  by_cases e : s = k
  · subst e; rw [pk_us]; exact hx
  · rw [pk_un e]
    have i := hD s hs e
    exact ⟨fun z => (h s hs).1 (i.mp z), fun z => (h s hs).2 (fun y => z (i.mpr y))⟩
theorem pc_Bl_c {R : Nat → Int32} {C D : Nat → Prop} (h : pc_Bl R C) (hD : ∀ s, s < 1024 → (D s ↔ C s)) : pc_Bl R D := by
  intro s hs
  have i := hD s hs
  exact ⟨fun z => (h s hs).1 (i.mp z), fun z => (h s hs).2 (fun y => z (i.mpr y))⟩
theorem pc_n1 : vp_nar .boolean 1 = 1 := rfl
theorem pc_n00 : vp_nar .boolean 0 = 0 := rfl
/-- marked after the sets from j upwards are done, and of set j - 1 the nexts below b -/
def pc_LF (C : Nat → Prop) (ch j : Nat) (T : Nat) : Prop := C T ∨ ∃ s b, j ≤ s ∧ s < 1024 ∧ C s ∧ ch.testBit b = true ∧ ¬ s.testBit b = true ∧ T = s ||| 2 ^ b
def pc_LG (C : Nat → Prop) (ch j i : Nat) (T : Nat) : Prop := pc_LF C ch (j + 1) T ∨ ∃ b, b < i ∧ ch.testBit b = true ∧ ¬ j.testBit b = true ∧ T = j ||| 2 ^ b
theorem pc_gt {s b : Nat} (h : ¬ s.testBit b = true) : s < s ||| 2 ^ b := by
  have h1 : s ≤ s ||| 2 ^ b := Nat.left_le_or
  have h2 : s ≠ s ||| 2 ^ b := by
    intro e
    rw [e] at h
    exact h ((pc_i s b b).mpr (Or.inr rfl))
  omega
theorem pc_xlf_i {post : SX → Prop} {J : Int32 → (Nat → Int32) → (Nat → Int32) → (Nat → Int32) → (Nat → Int32) → (Nat → Int32) → Prop} {o x1 : Int32} {E A W B : Nat → Int32} {C : Nat → Prop} {ch j : Nat}
    (hch : ch < 1024) (hj : j < 1024) (K : ∀ R, pc_Bl R (pc_LG C ch j 10) → J (pc_dn j) E A W R B) :
    ∀ d i R, i + d = 10 → pc_Bl R (pc_LG C ch j i) → wX_linkFrom_26 post J x1 (nI j) (nI (pc_df ch j)) o (d + 1) (nI i) E A W R B := by
  intro d
  induction d with
  | zero =>
    intro i R hi hR
    have e1 : i = 10 := by omega
    subst e1
    exact br_t (by decide) (nm_e (K R hR))
  | succ d ih =>
    intro i R hi hR
    refine pk_le 10 i (fun z => absurd z (by omega)) (fun _ => pc_xif rfl rfl (pc_dflt j hch) (by omega) (fun z => ?_) (fun z => ?_))
    · have hz := (pc_df_i ch j i).mp z
      have hl : j ||| 2 ^ i < 1024 := pc_ilt hj (by omega)
      have e2 : nI j ||| ((1 : Int32) <<< (nI i &&& 31)) = nI (j ||| 2 ^ i) := by rw [pc_shl i (by omega), pc_nor]
      rw [e2]
      refine ⟨pc_inS hl, nm_e (nm_r (nI_1 _) (ih (i + 1) _ (by omega) ?_))⟩
      rw [nI_clamp (by omega), pc_n1]
      refine pc_Bl_u hR ⟨fun _ => rfl, fun n => absurd (Or.inr ⟨i, by omega, hz.1, hz.2, rfl⟩) n⟩ (fun s _ hs => ?_)
      constructor
      · rintro (t | ⟨b, t1, t2, t3, t4⟩)
        · exact Or.inl t
        · refine Or.inr ⟨b, ?_, t2, t3, t4⟩
          by_cases y : b = i
          · rw [y] at t4; exact absurd t4 hs
          · omega
      · rintro (t | ⟨b, t1, t2⟩)
        · exact Or.inl t
        · exact Or.inr ⟨b, by omega, t2⟩
    · refine nm_r (nI_1 _) (ih (i + 1) R (by omega) (pc_Bl_c hR (fun s _ => ?_)))
      constructor
      · rintro (t | ⟨b, t1, t2, t3, t4⟩)
        · exact Or.inl t
        · refine Or.inr ⟨b, ?_, t2, t3, t4⟩
          by_cases y : b = i
          · rw [y] at t2 t3; exact absurd ((pc_df_i ch j i).mpr ⟨t2, t3⟩) z
          · omega
      · rintro (t | ⟨b, t1, t2⟩)
        · exact Or.inl t
        · exact Or.inr ⟨b, by omega, t2⟩
theorem pc_xlf_l {post : SX → Prop} {o : Int32} {E A W B : Nat → Int32} {C : Nat → Prop} {ch : Nat} (hch : ch < 1024) (hp : ∀ R, pc_Bl R (pc_LF C ch 0) → post (o, E, A, W, R, B)) :
    ∀ j, j ≤ 1024 → ∀ R, pc_Bl R (pc_LF C ch j) → wX_linkFrom_4 post (nI ch) o (j + 1) (pc_dn j) E A W R B := by
  intro j
  induction j with
  | zero =>
    intro _ R hR
    exact br_t pc_dn_0 (hp R hR)
  | succ j ih =>
    intro hj R hR
    rw [pc_dn_s]
    have hb : ∀ T, T < j + 1 → (pc_LF C ch (j + 1) T ↔ C T) := by
      intro T hT
      constructor
      · rintro (t | ⟨s, b, t1, t2, t3, t4, t5, t6⟩)
        · exact t
        · have := pc_gt t5; omega
      · exact Or.inl
    refine br_f (pc_dnpos j (by omega)) ⟨pc_inS (by omega), pc_Bl_t hR (by omega) (fun z => ?_) (fun z => ?_)⟩
    · have hC := (hb j (by omega)).mp z
      refine nm_r (pc_nnot ch j) ⟨11, pc_xlf_i (C := C) hch (by omega) (fun R' hR' => ih (by omega) R' (pc_Bl_c hR' (fun T _ => ?_))) 10 0 R rfl (pc_Bl_c hR (fun T _ => ?_))⟩
      · constructor
        · rintro (t | ⟨s, b, t1, t2, t3, t4, t5, t6⟩)
          · exact Or.inl (Or.inl t)
          · by_cases y : s = j
            · rw [y] at t5 t6
              exact Or.inr ⟨b, pc_lo hch t4, t4, t5, t6⟩
            · exact Or.inl (Or.inr ⟨s, b, by omega, t2, t3, t4, t5, t6⟩)
        · rintro ((t | ⟨s, b, t1, t2⟩) | ⟨b, t1, t2, t3, t4⟩)
          · exact Or.inl t
          · exact Or.inr ⟨s, b, by omega, t2⟩
          · exact Or.inr ⟨j, b, Nat.le_refl j, by omega, hC, t2, t3, t4⟩
      · constructor
        · rintro (t | ⟨b, t1, _⟩)
          · exact t
          · omega
        · exact Or.inl
    · have hC : ¬ C j := fun y => z ((hb j (by omega)).mpr y)
      refine nm_e (ih (by omega) R (pc_Bl_c hR (fun T _ => ?_)))
      constructor
      · rintro (t | ⟨s, b, t1, t2, t3, t4⟩)
        · exact Or.inl t
        · by_cases y : s = j
          · rw [y] at t3; exact absurd t3 hC
          · exact Or.inr ⟨s, b, by omega, t2, t3, t4⟩
      · rintro (t | ⟨s, b, t1, t2⟩)
        · exact Or.inl t
        · exact Or.inr ⟨s, b, by omega, t2⟩
theorem pc_xlf {post : SX → Prop} {o p : Int32} {E A W R B : Nat → Int32} {C : Nat → Prop} {ch : Nat} (hpe : p = nI ch) (hch : ch < 1024) (hR : pc_Bl R C) (hp : ∀ R, pc_Bl R (pc_LF C ch 0) → post (o, E, A, W, R, B)) : wpX_linkFrom post (o, E, A, W, R, B) p := by
  subst hpe
  have k := pc_xlf_l (post := post) (o := o) (E := E) (A := A) (W := W) (B := B) hch hp 1024 (Nat.le_refl _) R (pc_Bl_c hR (fun T _ => ⟨fun t => t.elim id (fun ⟨s, b, t1, t2, _⟩ => absurd t2 (by omega)), Or.inl⟩))
  rw [pc_dn_s] at k
  exact ⟨1025, k⟩
end
section
/-! mostLinks over aboveOf -/
theorem pc_xmlA_c {post : Int32 → SX → Prop} {o : Int32} {E A W R B : Nat → Int32} {C : Nat → Prop} (hR : pc_Bl R C) (hp : ∀ m, m ≤ 10 → pc_Mx C pc_cn 1024 m → post (nI m) (o, E, A, W, R, B)) : ∀ d i m, i + d = 1024 → pc_Mx C pc_cn i m → wX_mostLinks__aboveOf_70 post o E A W R B (d + 1) (nI m) (nI i) := by
  intro d
  induction d with
  | zero =>
    intro i m hi hm
    have e : i = 1024 := by omega
    subst e
    exact br_t (by decide) (hp m (pc_Mx_b hm (fun s _ => pc_cn_le s)) hm)
  | succ d ih =>
    intro i m hi hm
    have h1 := pc_Mx_b hm (fun s _ => pc_cn_le s)
    have h2 := pc_cn_le i
    refine pk_le 1024 i (fun z => absurd z (by omega)) (fun _ => ⟨pc_inS (by omega), pc_Bl_t hR (by omega) (fun z => pc_xcount rfl (by omega) ?_) (fun z => ?_)⟩)
    · exact pk_le (pc_cn i) m (fun y => nm_r (nI_1 _) (ih (i + 1) m (by omega) (pc_Mx_n hm (fun _ => y)))) (fun y => nm_r (nI_1 _) (ih (i + 1) _ (by omega) (pc_Mx_t hm z y)))
    · exact nm_r (nI_1 _) (ih (i + 1) m (by omega) (pc_Mx_n hm (fun y => absurd y z)))
theorem pc_xmlA_b {post : Int32 → SX → Prop} {E A W B : Nat → Int32} {N : Nat → Nat} {o : Nat} (hN : pc_Ar A N) (ho : o < 1024) (hp : ∀ m R, m ≤ 10 → pc_Mx (pc_RS N o 10) pc_cn 1024 m → post (nI m) (nI o, E, A, W, R, B)) : ∀ d i R, i + d = 10 → pc_Bl R (pc_RS N o i) → wX_mostLinks__aboveOf_31 post (d + 1) (nI i) (nI o) E A W R B := by
  intro d
  induction d with
  | zero =>
    intro i R hi hR
    have e : i = 10 := by omega
    subst e
    exact br_t (by decide) ⟨1025, pc_xmlA_c hR (fun m h1 h2 => hp m R h1 h2) 1024 0 0 rfl (pc_Mx0 _ _)⟩
  | succ d ih =>
    intro i R hi hR
    refine pk_le 10 i (fun z => absurd z (by omega)) (fun _ => pc_xif rfl rfl ho (by omega) (fun z => ⟨pc_in10 (by omega), pc_xlf (ch := N i &&& o) (by rw [pc_ar hN (by omega), nx_and]) (pc_andlt _ ho) hR (fun R' hR' => ?_)⟩) (fun z => ?_))
    · refine nm_r (nI_1 _) (ih (i + 1) R' (by omega) (pc_Bl_c hR' (fun T _ => ?_)))
      constructor
      · rintro (t | ⟨_, b, T', t1, t2, t3, t4⟩)
        · exact Or.inl t
        · exact Or.inr ⟨T', b, Nat.zero_le _, pc_RS_lt ho i T' t3, t3, t1, t2, t4⟩
      · rintro (t | ⟨s, b, t1, t2, t3, t4, t5, t6⟩)
        · exact Or.inl t
        · exact Or.inr ⟨z, b, s, t4, t5, t3, t6⟩
    · refine nm_r (nI_1 _) (ih (i + 1) R (by omega) (pc_Bl_c hR (fun T _ => ?_)))
      exact ⟨fun t => t.elim id (fun y => absurd y.1 z), Or.inl⟩
theorem pc_xmlA_a {post : Int32 → SX → Prop} {E A W B : Nat → Int32} {N : Nat → Nat} {o : Nat} (hN : pc_Ar A N) (ho : o < 1024) (hp : ∀ m R, m ≤ 10 → pc_Mx (pc_RS N o 10) pc_cn 1024 m → post (nI m) (nI o, E, A, W, R, B)) : ∀ d i R, 0 < i → i + d = 1024 → (∀ s, s < i → (s = 0 → R s = 1) ∧ (¬ s = 0 → R s = 0)) → wX_mostLinks__aboveOf_9 post (nI o) (d + 1) (nI i) E A W R B := by
  intro d
  induction d with
  | zero =>
    intro i R h0 hi hR
    have e : i = 1024 := by omega
    subst e
    exact br_t (by decide) ⟨11, pc_xmlA_b hN ho hp 10 0 R rfl (fun s hs => hR s hs)⟩
  | succ d ih =>
    intro i R h0 hi hR
    refine pk_le 1024 i (fun z => absurd z (by omega)) (fun _ => ⟨pc_inS (by omega), nm_e (nm_r (nI_1 _) (ih (i + 1) _ (by omega) (by omega) (fun s hs => ?_)))⟩)
    rw [nI_clamp (by omega), pc_n00]
    by_cases e : s = i
    · rw [e, pk_us]
      exact ⟨fun z => absurd z (by omega), fun _ => rfl⟩
    · rw [pk_un e]
      exact hR s (by omega)
theorem pc_xmlA {post : Int32 → SX → Prop} {E A W R B : Nat → Int32} {N : Nat → Nat} {o : Nat} (hN : pc_Ar A N) (ho : o < 1024) (hp : ∀ m R, m ≤ 10 → pc_Mx (pc_RS N o 10) pc_cn 1024 m → post (nI m) (nI o, E, A, W, R, B)) : wpX_mostLinks__aboveOf post (nI o, E, A, W, R, B) := by
  refine nm_e ⟨1024, pc_xmlA_a hN ho hp 1023 1 _ (by decide) rfl (fun s hs => ?_)⟩
  have e : s = 0 := by omega
  subst e
  rw [pk_us]
  exact ⟨fun _ => rfl, fun z => absurd rfl z⟩
theorem pc_xlcA {post : Int32 → SX → Prop} {E A W R B : Nat → Int32} {N : Nat → Nat} {o : Nat} (hN : pc_Ar A N) (ho : o < 1024) (hp : ∀ m R, m ≤ 10 → pc_Mx (pc_RS N o 10) pc_cn 1024 m → post (nI (pc_cn o) - nI m) (nI o, E, A, W, R, B)) : wpX_leastCover__aboveOf post (nI o, E, A, W, R, B) :=
  pc_xcount rfl ho (pc_xmlA hN ho hp)
/-! mostLinks over edgesFrom -/
theorem pc_xmlE_c {post : Int32 → SX → Prop} {o : Int32} {E A W R B : Nat → Int32} {C : Nat → Prop} (hR : pc_Bl R C) (hp : ∀ m, m ≤ 10 → pc_Mx C pc_cn 1024 m → post (nI m) (o, E, A, W, R, B)) : ∀ d i m, i + d = 1024 → pc_Mx C pc_cn i m → wX_mostLinks__edgesFrom_70 post o E A W R B (d + 1) (nI m) (nI i) := by
  intro d
  induction d with
  | zero =>
    intro i m hi hm
    have e : i = 1024 := by omega
    subst e
    exact br_t (by decide) (hp m (pc_Mx_b hm (fun s _ => pc_cn_le s)) hm)
  | succ d ih =>
    intro i m hi hm
    have h1 := pc_Mx_b hm (fun s _ => pc_cn_le s)
    have h2 := pc_cn_le i
    refine pk_le 1024 i (fun z => absurd z (by omega)) (fun _ => ⟨pc_inS (by omega), pc_Bl_t hR (by omega) (fun z => pc_xcount rfl (by omega) ?_) (fun z => ?_)⟩)
    · exact pk_le (pc_cn i) m (fun y => nm_r (nI_1 _) (ih (i + 1) m (by omega) (pc_Mx_n hm (fun _ => y)))) (fun y => nm_r (nI_1 _) (ih (i + 1) _ (by omega) (pc_Mx_t hm z y)))
    · exact nm_r (nI_1 _) (ih (i + 1) m (by omega) (pc_Mx_n hm (fun y => absurd y z)))
theorem pc_xmlE_b {post : Int32 → SX → Prop} {E A W B : Nat → Int32} {N : Nat → Nat} {o : Nat} (hN : pc_Ar E N) (ho : o < 1024) (hp : ∀ m R, m ≤ 10 → pc_Mx (pc_RS N o 10) pc_cn 1024 m → post (nI m) (nI o, E, A, W, R, B)) : ∀ d i R, i + d = 10 → pc_Bl R (pc_RS N o i) → wX_mostLinks__edgesFrom_31 post (d + 1) (nI i) (nI o) E A W R B := by
  intro d
  induction d with
  | zero =>
    intro i R hi hR
    have e : i = 10 := by omega
    subst e
    exact br_t (by decide) ⟨1025, pc_xmlE_c hR (fun m h1 h2 => hp m R h1 h2) 1024 0 0 rfl (pc_Mx0 _ _)⟩
  | succ d ih =>
    intro i R hi hR
    refine pk_le 10 i (fun z => absurd z (by omega)) (fun _ => pc_xif rfl rfl ho (by omega) (fun z => ⟨pc_in10 (by omega), pc_xlf (ch := N i &&& o) (by rw [pc_ar hN (by omega), nx_and]) (pc_andlt _ ho) hR (fun R' hR' => ?_)⟩) (fun z => ?_))
    · refine nm_r (nI_1 _) (ih (i + 1) R' (by omega) (pc_Bl_c hR' (fun T _ => ?_)))
      constructor
      · rintro (t | ⟨_, b, T', t1, t2, t3, t4⟩)
        · exact Or.inl t
        · exact Or.inr ⟨T', b, Nat.zero_le _, pc_RS_lt ho i T' t3, t3, t1, t2, t4⟩
      · rintro (t | ⟨s, b, t1, t2, t3, t4, t5, t6⟩)
        · exact Or.inl t
        · exact Or.inr ⟨z, b, s, t4, t5, t3, t6⟩
    · refine nm_r (nI_1 _) (ih (i + 1) R (by omega) (pc_Bl_c hR (fun T _ => ?_)))
      exact ⟨fun t => t.elim id (fun y => absurd y.1 z), Or.inl⟩
theorem pc_xmlE_a {post : Int32 → SX → Prop} {E A W B : Nat → Int32} {N : Nat → Nat} {o : Nat} (hN : pc_Ar E N) (ho : o < 1024) (hp : ∀ m R, m ≤ 10 → pc_Mx (pc_RS N o 10) pc_cn 1024 m → post (nI m) (nI o, E, A, W, R, B)) : ∀ d i R, 0 < i → i + d = 1024 → (∀ s, s < i → (s = 0 → R s = 1) ∧ (¬ s = 0 → R s = 0)) → wX_mostLinks__edgesFrom_9 post (nI o) (d + 1) (nI i) E A W R B := by
  intro d
  induction d with
  | zero =>
    intro i R h0 hi hR
    have e : i = 1024 := by omega
    subst e
    exact br_t (by decide) ⟨11, pc_xmlE_b hN ho hp 10 0 R rfl (fun s hs => hR s hs)⟩
  | succ d ih =>
    intro i R h0 hi hR
    refine pk_le 1024 i (fun z => absurd z (by omega)) (fun _ => ⟨pc_inS (by omega), nm_e (nm_r (nI_1 _) (ih (i + 1) _ (by omega) (by omega) (fun s hs => ?_)))⟩)
    rw [nI_clamp (by omega), pc_n00]
    by_cases e : s = i
    · rw [e, pk_us]
      exact ⟨fun z => absurd z (by omega), fun _ => rfl⟩
    · rw [pk_un e]
      exact hR s (by omega)
theorem pc_xmlE {post : Int32 → SX → Prop} {E A W R B : Nat → Int32} {N : Nat → Nat} {o : Nat} (hN : pc_Ar E N) (ho : o < 1024) (hp : ∀ m R, m ≤ 10 → pc_Mx (pc_RS N o 10) pc_cn 1024 m → post (nI m) (nI o, E, A, W, R, B)) : wpX_mostLinks__edgesFrom post (nI o, E, A, W, R, B) := by
  refine nm_e ⟨1024, pc_xmlE_a hN ho hp 1023 1 _ (by decide) rfl (fun s hs => ?_)⟩
  have e : s = 0 := by omega
  subst e
  rw [pk_us]
  exact ⟨fun _ => rfl, fun z => absurd rfl z⟩
theorem pc_xlcE {post : Int32 → SX → Prop} {E A W R B : Nat → Int32} {N : Nat → Nat} {o : Nat} (hN : pc_Ar E N) (ho : o < 1024) (hp : ∀ m R, m ≤ 10 → pc_Mx (pc_RS N o 10) pc_cn 1024 m → post (nI (pc_cn o) - nI m) (nI o, E, A, W, R, B)) : wpX_leastCover__edgesFrom post (nI o, E, A, W, R, B) :=
  pc_xcount rfl ho (pc_xmlE hN ho hp)
end
section
/-! the component's greatest chain -/
theorem pc_xba_l {post : Int32 → Prop} {o : Int32} {E A W R B : Nat → Int32} {bf : Nat → Nat} {s : Nat} (hs : s < 1024) (hB : ∀ v, s.testBit v = true → B v = nI (bf v) ∧ bf v ≤ 100) (hp : post (nI (pc_mx s bf 10))) : ∀ d i, i + d = 10 → pc_mx s bf i ≤ 100 → wX_bestAmong_4 post (nI s) o E A W R B (d + 1) (nI (pc_mx s bf i)) (nI i) := by
  intro d
  induction d with
  | zero =>
    intro i hi _
    have e : i = 10 := by omega
    subst e
    exact br_t (by decide) hp
  | succ d ih =>
    intro i hi hm
    have e : pc_mx s bf (i + 1) = if s.testBit i = true ∧ pc_mx s bf i < bf i then bf i else pc_mx s bf i := rfl
    have k := ih (i + 1) (by omega)
    rw [e] at k
    refine pk_le 10 i (fun z => absurd z (by omega)) (fun _ => pc_xif rfl rfl hs (by omega) (fun z => ?_) (fun z => ?_))
    · have hb := hB i z
      have ec : B (nI i).toNatClampNeg = nI (bf i) := by rw [nI_clamp (by omega)]; exact hb.1
      have hb2 := hb.2
      refine ⟨pc_in10 (by omega), pk_le (bf i) (pc_mx s bf i) (fun y => ?_) (fun y => ?_) ec⟩
      · rw [if_neg (fun t => by omega)] at k
        exact nm_r (nI_1 _) (k hm)
      · rw [if_pos ⟨z, y⟩] at k
        exact ⟨pc_in10 (by omega), nm_r ec (nm_r (nI_1 _) (k hb2))⟩
    · rw [if_neg (fun t => z t.1)] at k
      exact nm_r (nI_1 _) (k hm)
theorem pc_xba {post : Int32 → Prop} {o p : Int32} {E A W R B : Nat → Int32} {bf : Nat → Nat} {s : Nat} (he : p = nI s) (hs : s < 1024) (hB : ∀ v, s.testBit v = true → B v = nI (bf v) ∧ bf v ≤ 100) (hp : post (nI (pc_mx s bf 10))) : wpX_bestAmong post (o, E, A, W, R, B) p := by
  subst he
  exact ⟨11, pc_xba_l hs hB hp 10 0 rfl (Nat.zero_le _)⟩
/-- w: the weights, or 1 for each -/
def pc_Wt (x : Int32) (W : Nat → Int32) (w : Nat → Nat) : Prop := (x = 0 → w = pc_one) ∧ (¬ x = 0 → pc_We W w)
theorem pc_xgc_j {post : Int32 → SX → Prop} {J : Int32 → Int32 → (Nat → Int32) → (Nat → Int32) → (Nat → Int32) → (Nat → Int32) → (Nat → Int32) → Prop} {o x1 z0 z1 : Int32} {E A W R B : Nat → Int32} {m j y : Nat} (hj : j < 10) (hm : m ≤ 100) (hy : y ≤ 100) (hz : z1 + z0 = nI y)
    (K1 : y ≤ m → J (nI m) (pc_dn j) E A W R (upd B j (nI y))) (K2 : m < y → J (nI y) (pc_dn j) E A W R (upd B j (nI y))) : wX_greatestChain_58 post J x1 (nI m) (nI j) z0 z1 (nI j) o E A W R B := by
  refine ⟨pc_in10 hj, nm_r (e' := upd B j (nI y)) (by rw [hz, nI_clamp (by omega)]) ⟨pc_in10 hj, ?_⟩⟩
  have ec : upd B j (nI y) (nI j).toNatClampNeg = nI y := by rw [nI_clamp (by omega), pk_us]
  exact pk_le y m (fun t => nm_e (K1 t)) (fun t => ⟨pc_in10 hj, nm_r ec (nm_e (K2 t))⟩) ec
theorem pc_xgc_l {post : Int32 → SX → Prop} {x : Int32} {E A W R : Nat → Int32} {c w bf : Nat → Nat} {o : Nat} (hA : pc_Ar A c) (hU : pc_Up c) (ho : o < 1024) (hx : pc_Wt x W w)
    (hbf : ∀ a, a < 10 → bf a = pc_mx (c a &&& o) bf 10 + w a) (h100 : ∀ a, a < 10 → bf a ≤ 100)
    (hp : ∀ m B, (m = 0 ∨ ∃ a, o.testBit a = true ∧ bf a = m) → (∀ a, o.testBit a = true → bf a ≤ m) → post (nI m) (nI o, E, A, W, R, B)) :
    ∀ j, j ≤ 10 → ∀ (m : Nat) (B : Nat → Int32), (∀ a, j ≤ a → o.testBit a = true → B a = nI (bf a)) → (m = 0 ∨ ∃ a, o.testBit a = true ∧ bf a = m) → (∀ a, j ≤ a → o.testBit a = true → bf a ≤ m) → wX_greatestChain_5 post x (nI o) (j + 1) (nI m) (pc_dn j) E A W R B := by
  intro j
  induction j with
  | zero =>
    intro _ m B hB h1 h2
    exact br_t pc_dn_0 (hp m B h1 (fun a ha => h2 a (Nat.zero_le a) ha))
  | succ j ih =>
    intro hj m B hB h1 h2
    rw [pc_dn_s]
    have hm : m ≤ 100 := by
      rcases h1 with e | ⟨a, ha, e⟩
      · omega
      · have := h100 a (pc_lo ho ha); omega
    have hj10 : j < 10 := by omega
    have hy := h100 j hj10
    refine br_f (pc_dnpos j (by omega)) (pc_xif rfl rfl ho hj10 (fun z => ⟨pc_in10 hj10, pc_xba (bf := bf) (s := c j &&& o) (by rw [pc_ar hA hj10, nx_and]) (pc_andlt _ ho) (fun v hv => ?_) ?_⟩) (fun z => ?_))
    · have hv' := (pc_andi _ _ _).mp hv
      have u := hU j v hj10 hv'.1
      exact ⟨hB v (by omega) hv'.2, h100 v u.2⟩
    · have K1 : bf j ≤ m → wX_greatestChain_5 post x (nI o) (j + 1) (nI m) (pc_dn j) E A W R (upd B j (nI (bf j))) := by
        intro y
        refine ih (by omega) m _ (fun a h3 h4 => ?_) h1 (fun a h3 h4 => ?_)
        · by_cases e : a = j
          · rw [e, pk_us]
          · rw [pk_un e]; exact hB a (by omega) h4
        · by_cases e : a = j
          · rw [e]; exact y
          · exact h2 a (by omega) h4
      have K2 : m < bf j → wX_greatestChain_5 post x (nI o) (j + 1) (nI (bf j)) (pc_dn j) E A W R (upd B j (nI (bf j))) := by
        intro y
        refine ih (by omega) (bf j) _ (fun a h3 h4 => ?_) (Or.inr ⟨j, z, rfl⟩) (fun a h3 h4 => ?_)
        · by_cases e : a = j
          · rw [e, pk_us]
          · rw [pk_un e]; exact hB a (by omega) h4
        · by_cases e : a = j
          · rw [e]; exact Nat.le_refl _
          · have := h2 a (by omega) h4; omega
      refine br_c (fun y => pc_xgc_j hj10 hm hy ?_ K1 K2) (fun y => ⟨pc_in10 hj10, pc_xgc_j hj10 hm hy ?_ K1 K2⟩)
      · rw [hbf j hj10, hx.1 y]
        exact nI_1 _
      · rw [pc_we (hx.2 y) hj10, nI_add, ← hbf j hj10]
    · refine nm_e (ih (by omega) m B (fun a h3 h4 => ?_) h1 (fun a h3 h4 => ?_))
      · by_cases e : a = j
        · rw [e] at h4; exact absurd h4 z
        · exact hB a (by omega) h4
      · by_cases e : a = j
        · rw [e] at h4; exact absurd h4 z
        · exact h2 a (by omega) h4
theorem pc_xgc {post : Int32 → SX → Prop} {x : Int32} {E A W R B : Nat → Int32} {c w bf : Nat → Nat} {o : Nat} (hA : pc_Ar A c) (hU : pc_Up c) (ho : o < 1024) (hx : pc_Wt x W w)
    (hbf : ∀ a, a < 10 → bf a = pc_mx (c a &&& o) bf 10 + w a) (h100 : ∀ a, a < 10 → bf a ≤ 100)
    (hp : ∀ m B, (m = 0 ∨ ∃ a, o.testBit a = true ∧ bf a = m) → (∀ a, o.testBit a = true → bf a ≤ m) → post (nI m) (nI o, E, A, W, R, B)) : wpX_greatestChain post (nI o, E, A, W, R, B) x := by
  have k := pc_xgc_l (post := post) (E := E) (R := R) hA hU ho hx hbf h100 hp 10 (Nat.le_refl _) 0 B (fun a h1 h2 => by have := pc_lo ho h2; omega) (Or.inl rfl) (fun a h1 h2 => by have := pc_lo ho h2; omega)
  rw [pc_dn_s] at k
  exact ⟨11, k⟩
end
section
/-! the reference's small methods -/
theorem pc_yhas {post : Int32 → Prop} {o p q : Int32} {E U W G D : Nat → Int32} {s v : Nat} (hp : p = nI s) (hq : q = nI v) (hs : s < 1024) (hv : v < 10) (h1 : s.testBit v = true → post 1) (h0 : ¬ s.testBit v = true → post 0) : wpY_has post (o, E, U, W, G, D) p q := by
  subst hp hq
  show (((nI s >>> (nI v &&& 31)) &&& 1) = 1 → post 1) ∧ (¬ ((nI s >>> (nI v &&& 31)) &&& 1) = 1 → post 0)
  rw [pc_bitN hs hv]
  cases e : s.testBit v
  · exact br_f (by decide) (h0 (by rw [e]; decide))
  · exact br_t rfl (h1 e)
theorem pc_yif {P Q : Prop} {o p q : Int32} {E U W G D : Nat → Int32} {s v : Nat} (hp : p = nI s) (hq : q = nI v) (hs : s < 1024) (hv : v < 10) (h1 : s.testBit v = true → Q) (h0 : ¬ s.testBit v = true → P) : wpY_has (fun r => (r = 0 → P) ∧ (¬ r = 0 → Q)) (o, E, U, W, G, D) p q :=
  pc_yhas hp hq hs hv (fun z => br_f (by decide) (h1 z)) (fun z => br_t rfl (h0 z))
theorem pc_ycl_i {post : SY → Prop} {J : Int32 → (Nat → Int32) → (Nat → Int32) → (Nat → Int32) → (Nat → Int32) → (Nat → Int32) → Prop} {o : Int32} {E W G D : Nat → Int32} {e c : Nat → Nat} {j : Nat}
    (hE : pc_Ar E e) (hc : pc_Cl e c) (hj : j < 10) (K : ∀ U : Nat → Int32, (∀ b, j ≤ b → b < 10 → U b = nI (c b)) → J (pc_dn j) E U W G D) :
    ∀ d i U, j < i → i + d = 10 → U j = nI (pc_of (e j) (e j) c i) → (∀ b, j < b → b < 10 → U b = nI (c b)) → wY_close_23 post J (nI j) o (d + 1) (nI i) E U W G D := by
  intro d
  induction d with
  | zero =>
    intro i U hi hd h1 h2
    have e1 : i = 10 := by omega
    subst e1
    refine br_t (by decide) (nm_e (K U (fun b h3 h4 => ?_)))
    by_cases z : b = j
    · subst z; rw [h1, ← (hc b hj).1]
    · exact h2 b (by omega) h4
  | succ d ih =>
    intro i U hi hd h1 h2
    have e1 : pc_of (e j) (e j) c (i + 1) = if (e j).testBit i = true then pc_of (e j) (e j) c i ||| c i else pc_of (e j) (e j) c i := rfl
    have k := fun U' => ih (i + 1) U' (by omega) (by omega)
    rw [e1] at k
    refine pk_le 10 i (fun z => absurd z (by omega)) (fun _ => ⟨pc_in10 hj, pc_yif (pc_ar hE hj) rfl (hE j hj).2 (by omega) (fun z => ?_) (fun z => ?_)⟩)
    · rw [if_pos z] at k
      refine ⟨pc_in10 hj, pc_in10 (by omega), pc_in10 hj, nm_e (nm_r (nI_1 _) (k _ ?_ (fun b h3 h4 => ?_)))⟩
      · rw [nI_clamp (by omega), nI_clamp (by omega), pk_us, h1, h2 i hi (by omega), pc_nor]
      · rw [nI_clamp (by omega), pk_un (by omega)]
        exact h2 b h3 h4
    · rw [if_neg z] at k
      exact nm_r (nI_1 _) (k U h1 h2)
theorem pc_ycl_l {post : SY → Prop} {o : Int32} {E W G D : Nat → Int32} {e c : Nat → Nat} (hE : pc_Ar E e) (hU : pc_Up e) (hc : pc_Cl e c) (hp : ∀ U, pc_Ar U c → post (o, E, U, W, G, D)) :
    ∀ j, j ≤ 10 → ∀ U : Nat → Int32, (∀ b, j ≤ b → b < 10 → U b = nI (c b)) → wY_close_3 post o (j + 1) (pc_dn j) E U W G D := by
  intro j
  induction j with
  | zero =>
    intro _ U hA
    exact br_t pc_dn_0 (hp U (fun a ha => ⟨hA a (Nat.zero_le a) ha, (hc a ha).2⟩))
  | succ j ih =>
    intro hj U hA
    rw [pc_dn_s]
    have h0 : pc_of (e j) (e j) c (j + 1) = e j := pc_of_0 (j + 1) (fun b hb hm => by have := (hU j b (by omega) hm).1; omega)
    refine br_f (pc_dnpos j (by omega)) ⟨pc_in10 (by omega), pc_in10 (by omega), nm_e (nm_r (nI_1 _) ⟨9 - j + 1, pc_ycl_i hE hc (by omega) (fun U' h => ih (by omega) U' h) (9 - j) (j + 1) _ (by omega) (by omega) ?_ (fun b h1 h2 => ?_)⟩)⟩
    · rw [h0, pc_ar hE (by omega), nI_clamp (by omega), pk_us]
    · rw [nI_clamp (by omega), pk_un (by omega)]
      exact hA b (by omega) h2
theorem pc_ycl {post : SY → Prop} {o : Int32} {E U W G D : Nat → Int32} {e c : Nat → Nat} (hE : pc_Ar E e) (hU : pc_Up e) (hc : pc_Cl e c) (hp : ∀ U, pc_Ar U c → post (o, E, U, W, G, D)) : wpY_close post (o, E, U, W, G, D) := by
  have k := pc_ycl_l (post := post) (o := o) (W := W) (G := G) (D := D) hE hU hc hp 10 (Nat.le_refl 10) U (fun b h1 h2 => by omega)
  rw [pc_dn_s] at k
  exact ⟨11, k⟩
theorem pc_yanti_l {post : Int32 → Prop} {E U W G D : Nat → Int32} {c : Nat → Nat} {o s : Nat} (hA : pc_Ar U c) (hs : s < 1024) (hsub : ∀ v, s.testBit v = true → o.testBit v = true) (h1 : pc_AC c o s → post 1) (h0 : ¬ pc_AC c o s → post 0) : ∀ d i, i + d = 10 → (∀ u v, u < i → s.testBit u = true → s.testBit v = true → (c u).testBit v = true → False) → wY_anti_15 post (nI s) (nI o) E U W G D (d + 1) (nI i) := by
  intro d
  induction d with
  | zero =>
    intro i hi hI
    have e : i = 10 := by omega
    subst e
    exact br_t (by decide) (h1 ⟨hsub, fun u v hu hv hc => hI u v (pc_lo hs hu) hu hv hc⟩)
  | succ d ih =>
    intro i hi hI
    refine pk_le 10 i (fun z => absurd z (by omega)) (fun _ => pc_yif rfl rfl hs (by omega) (fun z => ⟨pc_in10 (by omega), ?_⟩) (fun z => ?_))
    · rw [pc_ar hA (show i < 10 by omega)]
      refine pc_c2 hs (fun y => nm_r (nI_1 _) (ih (i + 1) (by omega) (fun u v hu h2 h3 h4 => ?_))) (fun y => h0 (fun t => y (fun v h3 h4 => t.2 i v z h4 h3)))
      by_cases e : u = i
      · rw [e] at h4; exact y v h4 h3
      · exact hI u v (by omega) h2 h3 h4
    · refine nm_r (nI_1 _) (ih (i + 1) (by omega) (fun u v hu h2 h3 h4 => ?_))
      by_cases e : u = i
      · rw [e] at h2; exact z h2
      · exact hI u v (by omega) h2 h3 h4
theorem pc_yanti {post : Int32 → Prop} {E U W G D : Nat → Int32} {c : Nat → Nat} {o s : Nat} (hA : pc_Ar U c) (hs : s < 1024) (h1 : pc_AC c o s → post 1) (h0 : ¬ pc_AC c o s → post 0) : wpY_anti post (nI o, E, U, W, G, D) (nI s) :=
  pc_c1 hs (fun x => ⟨11, pc_yanti_l hA hs x h1 h0 10 0 rfl (fun u _ hu => absurd hu (Nat.not_lt_zero u))⟩) (fun x => h0 (fun z => x z.1))
theorem pc_yaif {P Q : Prop} {E U W G D : Nat → Int32} {c : Nat → Nat} {o s : Nat} (hA : pc_Ar U c) (hs : s < 1024) (h1 : pc_AC c o s → Q) (h0 : ¬ pc_AC c o s → P) : wpY_anti (fun r => (r = 0 → P) ∧ (¬ r = 0 → Q)) (nI o, E, U, W, G, D) (nI s) :=
  pc_yanti hA hs (fun z => br_f (by decide) (h1 z)) (fun z => br_t rfl (h0 z))
theorem pc_ysize_l {post : Int32 → Prop} {o : Int32} {E U W G D : Nat → Int32} {s : Nat} (hs : s < 1024) (hp : post (nI (pc_cn s))) : ∀ d i, i + d = 10 → wY_size_4 post (nI s) o E U W G D (d + 1) (nI (pc_sm s.testBit pc_one i)) (nI i) := by
  intro d
  induction d with
  | zero =>
    intro i hi
    have e : i = 10 := by omega
    subst e
    exact br_t (by decide) hp
  | succ d ih =>
    intro i hi
    have k := ih (i + 1) (by omega)
    rw [pc_sm_s] at k
    refine pk_le 10 i (fun z => absurd z (by omega)) (fun _ => nm_r ?_ (nm_r (nI_1 _) k))
    rw [pc_bitN hs (by omega), nI_add]
    cases e : s.testBit i <;> rfl
theorem pc_ysize {post : Int32 → Prop} {o : Int32} {E U W G D : Nat → Int32} {s : Nat} (hs : s < 1024) (hp : post (nI (pc_cn s))) : wpY_size post (o, E, U, W, G, D) (nI s) :=
  ⟨11, pc_ysize_l hs hp 10 0 rfl⟩
theorem pc_ysum_l {post : Int32 → Prop} {o : Int32} {E U W G D : Nat → Int32} {w : Nat → Nat} {s : Nat} (hW : pc_We W w) (hs : s < 1024) (hp : post (nI (pc_sm s.testBit w 10))) : ∀ d i, i + d = 10 → wY_sum_4 post (nI s) o E U W G D (d + 1) (nI (pc_sm s.testBit w i)) (nI i) := by
  intro d
  induction d with
  | zero =>
    intro i hi
    have e : i = 10 := by omega
    subst e
    exact br_t (by decide) hp
  | succ d ih =>
    intro i hi
    have k := ih (i + 1) (by omega)
    rw [pc_sm_s] at k
    refine pk_le 10 i (fun z => absurd z (by omega)) (fun _ => pc_yif rfl rfl hs (by omega) (fun z => ?_) (fun z => ?_))
    · rw [if_pos z] at k
      exact ⟨pc_in10 (by omega), nm_r (by rw [pc_we hW (by omega), nI_add]) (nm_r (nI_1 _) k)⟩
    · rw [if_neg z] at k
      exact nm_r (nI_1 _) k
theorem pc_ysum {post : Int32 → Prop} {o : Int32} {E U W G D : Nat → Int32} {w : Nat → Nat} {s : Nat} (hW : pc_We W w) (hs : s < 1024) (hp : post (nI (pc_sm s.testBit w 10))) : wpY_sum post (o, E, U, W, G, D) (nI s) :=
  ⟨11, pc_ysum_l hW hs hp 10 0 rfl⟩
/-! row -/
def pc_Sel (x : Int32) (E U : Nat → Int32) (N : Nat → Nat) : Prop := (x = 0 → pc_Ar U N) ∧ (¬ x = 0 → pc_Ar E N)
def pc_RI (s i : Nat) (x : Int32) : Prop := (x = -1 ∧ ∀ w, w < i → s.testBit w = true → False) ∨ ∃ l, x = nI l ∧ l < i ∧ s.testBit l = true ∧ ∀ w, l < w → w < i → s.testBit w = true → False
def pc_RB (N : Nat → Nat) (s i : Nat) : Prop := ∀ u v, u < v → v < i → s.testBit u = true → s.testBit v = true → (∀ w, u < w → w < v → s.testBit w = true → False) → (N u).testBit v = true
theorem pc_yrow_l {post : Int32 → Prop} {o x : Int32} {E U W G D : Nat → Int32} {N : Nat → Nat} {s : Nat} (hN : pc_Sel x E U N) (hs : s < 1024) (h1 : pc_Row N s → post 1) (h0 : ¬ pc_Row N s → post 0) : ∀ d i y, i + d = 10 → pc_RI s i y → pc_RB N s i → wY_row_5 post (nI s) x o E U W G D (d + 1) y (nI i) := by
  intro d
  induction d with
  | zero =>
    intro i y hi _ hB
    have e : i = 10 := by omega
    subst e
    exact br_t (by decide) (h1 (fun u v huv hu hv hg => hB u v huv (pc_lo hs hv) hu hv hg))
  | succ d ih =>
    intro i y hi hI hB
    refine pk_le 10 i (fun z => absurd z (by omega)) (fun _ => pc_yif rfl rfl hs (by omega) (fun z => ?_) (fun z => ?_))
    · have hnew : pc_RI s (i + 1) (nI i) := Or.inr ⟨i, rfl, by omega, z, fun w h2 h3 => by omega⟩
      rcases hI with ⟨rfl, hI⟩ | ⟨l, rfl, hl, hsl, hI⟩
      · refine br_t (by decide) (nm_r (nI_1 _) (ih (i + 1) _ (by omega) hnew (fun u v huv hv h2 h3 h4 => ?_)))
        by_cases e : v = i
        · exact (hI u (by omega) h2).elim
        · exact hB u v huv (by omega) h2 h3 h4
      · have hK : (N l).testBit i = true → wY_row_5 post (nI s) x o E U W G D (d + 1) (nI i) (nI (i + 1)) := by
          intro t
          refine ih (i + 1) _ (by omega) hnew (fun u v huv hv h2 h3 h4 => ?_)
          by_cases e : v = i
          · have e2 : u = l := by
              rcases Nat.lt_trichotomy u l with q | q | q
              · exact (h4 l q (by omega) hsl).elim
              · exact q
              · exact (hI u q (by omega) h2).elim
            rw [e, e2]; exact t
          · exact hB u v huv (by omega) h2 h3 h4
        have hF : ¬ (N l).testBit i = true → post 0 := fun t => h0 (fun hR => t (hR l i (by omega) hsl z (fun w q1 q2 q3 => hI w q1 q2 q3)))
        refine br_f (nI_pos (by omega)) (br_c (fun q => ⟨pc_in10 (by omega), ?_⟩) (fun q => ⟨pc_in10 (by omega), ?_⟩))
        · exact pc_yif (pc_ar (hN.1 q) (by omega)) rfl ((hN.1 q) l (by omega)).2 (by omega) (fun t => nm_r (nI_1 _) (hK t)) hF
        · exact pc_yif (pc_ar (hN.2 q) (by omega)) rfl ((hN.2 q) l (by omega)).2 (by omega) (fun t => nm_r (nI_1 _) (hK t)) hF
    · refine nm_r (nI_1 _) (ih (i + 1) y (by omega) ?_ (fun u v huv hv h2 h3 h4 => ?_))
      · rcases hI with ⟨e, hI⟩ | ⟨l, e, hl, hsl, hI⟩
        · refine Or.inl ⟨e, fun w hw hsw => ?_⟩
          by_cases q : w = i
          · rw [q] at hsw; exact z hsw
          · exact hI w (by omega) hsw
        · refine Or.inr ⟨l, e, by omega, hsl, fun w h2 h3 hsw => ?_⟩
          by_cases q : w = i
          · rw [q] at hsw; exact z hsw
          · exact hI w h2 (by omega) hsw
      · by_cases e : v = i
        · rw [e] at h3; exact absurd h3 z
        · exact hB u v huv (by omega) h2 h3 h4
theorem pc_yrow {post : Int32 → Prop} {o x : Int32} {E U W G D : Nat → Int32} {N : Nat → Nat} {s : Nat} (hN : pc_Sel x E U N) (hs : s < 1024) (h1 : pc_Row N s → post 1) (h0 : ¬ pc_Row N s → post 0) : wpY_row post (o, E, U, W, G, D) (nI s) x :=
  ⟨11, pc_yrow_l hN hs h1 h0 10 0 _ rfl (Or.inl ⟨rfl, fun w hw => absurd hw (Nat.not_lt_zero w)⟩) (fun u v _ hv => absurd hv (Nat.not_lt_zero v))⟩
theorem pc_ychain {P Q : Prop} {E U W G D : Nat → Int32} {c : Nat → Nat} {o s : Nat} (hA : pc_Ar U c) (hs : s < 1024) (h1 : pc_Ch c o s → Q) (h0 : ¬ pc_Ch c o s → P) : wpY_chain (fun r => (r = 0 → P) ∧ (¬ r = 0 → Q)) (nI o, E, U, W, G, D) (nI s) := by
  have hN : pc_Sel 0 E U c := ⟨fun _ => hA, fun z => absurd rfl z⟩
  exact pc_c1 hs (fun x => pc_yrow hN hs (fun z => br_f (by decide) (br_f (by decide) (h1 ⟨x, z⟩))) (fun z => br_t rfl (br_t rfl (h0 (fun y => z y.2))))) (fun x => br_t rfl (h0 (fun y => x y.1)))
end
section
/-! the reference over all sets -/
theorem pc_ywidth_l {post : Int32 → SY → Prop} {E U W G D : Nat → Int32} {c : Nat → Nat} {o : Nat} (hA : pc_Ar U c) (hp : ∀ m, m ≤ 90 → pc_Mx (pc_AC c o) (pc_cn) 1024 m → post (nI m) (nI o, E, U, W, G, D)) : ∀ d i m, i + d = 1024 → pc_Mx (pc_AC c o) (pc_cn) i m → wY_width_8 post (nI o) E U W G D (d + 1) (nI m) (nI i) := by
  intro d
  induction d with
  | zero =>
    intro i m hi hm
    have e : i = 1024 := by omega
    subst e
    exact br_t (by decide) (hp m (pc_Mx_b hm (fun s _ => Nat.le_trans (pc_cn_le s) (by decide))) hm)
  | succ d ih =>
    intro i m hi hm
    have h1 : m ≤ 90 := pc_Mx_b hm (fun s _ => Nat.le_trans (pc_cn_le s) (by decide))
    have h2 : pc_cn i ≤ 90 := Nat.le_trans (pc_cn_le i) (by decide)
    refine pk_le 1024 i (fun z => absurd z (by omega)) (fun _ => pc_yaif hA (by omega) (fun z => pc_ysize (by omega) ?_) (fun z => ?_))
    · exact pk_le (pc_cn i) m (fun y => nm_r (nI_1 _) (ih (i + 1) m (by omega) (pc_Mx_n hm (fun _ => y)))) (fun y => pc_ysize (by omega) (nm_r (nI_1 _) (ih (i + 1) _ (by omega) (pc_Mx_t hm z y))))
    · exact nm_r (nI_1 _) (ih (i + 1) m (by omega) (pc_Mx_n hm (fun y => absurd y z)))
theorem pc_ywidth {post : Int32 → SY → Prop} {E U W G D : Nat → Int32} {e c : Nat → Nat} {o : Nat} (hE : pc_Ar E e) (hU : pc_Up e) (hc : pc_Cl e c) (hp : ∀ m U, m ≤ 90 → pc_Ar U c → pc_Mx (pc_AC c o) (pc_cn) 1024 m → post (nI m) (nI o, E, U, W, G, D)) : wpY_width post (nI o, E, U, W, G, D) :=
  pc_ycl hE hU hc (fun U hA => ⟨1025, pc_ywidth_l hA (fun m h1 h2 => hp m U h1 hA h2) 1024 0 0 rfl (pc_Mx0 _ _)⟩)
theorem pc_yheavy_l {post : Int32 → SY → Prop} {E U W G D : Nat → Int32} {c w : Nat → Nat} {o : Nat} (hA : pc_Ar U c) (hW : pc_We W w) (hp : ∀ m, m ≤ 90 → pc_Mx (pc_AC c o) (fun s => pc_sm s.testBit w 10) 1024 m → post (nI m) (nI o, E, U, W, G, D)) : ∀ d i m, i + d = 1024 → pc_Mx (pc_AC c o) (fun s => pc_sm s.testBit w 10) i m → wY_heaviest_8 post (nI o) E U W G D (d + 1) (nI m) (nI i) := by
  intro d
  induction d with
  | zero =>
    intro i m hi hm
    have e : i = 1024 := by omega
    subst e
    exact br_t (by decide) (hp m (pc_Mx_b hm (fun s _ => pc_sm90 (fun v hv => (hW v hv).2) s.testBit)) hm)
  | succ d ih =>
    intro i m hi hm
    have h1 : m ≤ 90 := pc_Mx_b hm (fun s _ => pc_sm90 (fun v hv => (hW v hv).2) s.testBit)
    have h2 : pc_sm i.testBit w 10 ≤ 90 := pc_sm90 (fun v hv => (hW v hv).2) i.testBit
    refine pk_le 1024 i (fun z => absurd z (by omega)) (fun _ => pc_yaif hA (by omega) (fun z => pc_ysum hW (by omega) ?_) (fun z => ?_))
    · exact pk_le (pc_sm i.testBit w 10) m (fun y => nm_r (nI_1 _) (ih (i + 1) m (by omega) (pc_Mx_n hm (fun _ => y)))) (fun y => pc_ysum hW (by omega) (nm_r (nI_1 _) (ih (i + 1) _ (by omega) (pc_Mx_t hm z y))))
    · exact nm_r (nI_1 _) (ih (i + 1) m (by omega) (pc_Mx_n hm (fun y => absurd y z)))
theorem pc_yheavy {post : Int32 → SY → Prop} {E U W G D : Nat → Int32} {e c w : Nat → Nat} {o : Nat} (hE : pc_Ar E e) (hU : pc_Up e) (hc : pc_Cl e c) (hW : pc_We W w) (hp : ∀ m U, m ≤ 90 → pc_Ar U c → pc_Mx (pc_AC c o) (fun s => pc_sm s.testBit w 10) 1024 m → post (nI m) (nI o, E, U, W, G, D)) : wpY_heaviest post (nI o, E, U, W, G, D) :=
  pc_ycl hE hU hc (fun U hA => ⟨1025, pc_yheavy_l hA hW (fun m h1 h2 => hp m U h1 hA h2) 1024 0 0 rfl (pc_Mx0 _ _)⟩)
theorem pc_yheight_l {post : Int32 → SY → Prop} {E U W G D : Nat → Int32} {c : Nat → Nat} {o : Nat} (hA : pc_Ar U c) (hp : ∀ m, m ≤ 90 → pc_Mx (pc_Ch c o) (pc_cn) 1024 m → post (nI m) (nI o, E, U, W, G, D)) : ∀ d i m, i + d = 1024 → pc_Mx (pc_Ch c o) (pc_cn) i m → wY_height_8 post (nI o) E U W G D (d + 1) (nI m) (nI i) := by
  intro d
  induction d with
  | zero =>
    intro i m hi hm
    have e : i = 1024 := by omega
    subst e
    exact br_t (by decide) (hp m (pc_Mx_b hm (fun s _ => Nat.le_trans (pc_cn_le s) (by decide))) hm)
  | succ d ih =>
    intro i m hi hm
    have h1 : m ≤ 90 := pc_Mx_b hm (fun s _ => Nat.le_trans (pc_cn_le s) (by decide))
    have h2 : pc_cn i ≤ 90 := Nat.le_trans (pc_cn_le i) (by decide)
    refine pk_le 1024 i (fun z => absurd z (by omega)) (fun _ => pc_ychain hA (by omega) (fun z => pc_ysize (by omega) ?_) (fun z => ?_))
    · exact pk_le (pc_cn i) m (fun y => nm_r (nI_1 _) (ih (i + 1) m (by omega) (pc_Mx_n hm (fun _ => y)))) (fun y => pc_ysize (by omega) (nm_r (nI_1 _) (ih (i + 1) _ (by omega) (pc_Mx_t hm z y))))
    · exact nm_r (nI_1 _) (ih (i + 1) m (by omega) (pc_Mx_n hm (fun y => absurd y z)))
theorem pc_yheight {post : Int32 → SY → Prop} {E U W G D : Nat → Int32} {e c : Nat → Nat} {o : Nat} (hE : pc_Ar E e) (hU : pc_Up e) (hc : pc_Cl e c) (hp : ∀ m U, m ≤ 90 → pc_Ar U c → pc_Mx (pc_Ch c o) (pc_cn) 1024 m → post (nI m) (nI o, E, U, W, G, D)) : wpY_height post (nI o, E, U, W, G, D) :=
  pc_ycl hE hU hc (fun U hA => ⟨1025, pc_yheight_l hA (fun m h1 h2 => hp m U h1 hA h2) 1024 0 0 rfl (pc_Mx0 _ _)⟩)
theorem pc_yhchain_l {post : Int32 → SY → Prop} {E U W G D : Nat → Int32} {c w : Nat → Nat} {o : Nat} (hA : pc_Ar U c) (hW : pc_We W w) (hp : ∀ m, m ≤ 90 → pc_Mx (pc_Ch c o) (fun s => pc_sm s.testBit w 10) 1024 m → post (nI m) (nI o, E, U, W, G, D)) : ∀ d i m, i + d = 1024 → pc_Mx (pc_Ch c o) (fun s => pc_sm s.testBit w 10) i m → wY_heaviestChain_8 post (nI o) E U W G D (d + 1) (nI m) (nI i) := by
  intro d
  induction d with
  | zero =>
    intro i m hi hm
    have e : i = 1024 := by omega
    subst e
    exact br_t (by decide) (hp m (pc_Mx_b hm (fun s _ => pc_sm90 (fun v hv => (hW v hv).2) s.testBit)) hm)
  | succ d ih =>
    intro i m hi hm
    have h1 : m ≤ 90 := pc_Mx_b hm (fun s _ => pc_sm90 (fun v hv => (hW v hv).2) s.testBit)
    have h2 : pc_sm i.testBit w 10 ≤ 90 := pc_sm90 (fun v hv => (hW v hv).2) i.testBit
    refine pk_le 1024 i (fun z => absurd z (by omega)) (fun _ => pc_ychain hA (by omega) (fun z => pc_ysum hW (by omega) ?_) (fun z => ?_))
    · exact pk_le (pc_sm i.testBit w 10) m (fun y => nm_r (nI_1 _) (ih (i + 1) m (by omega) (pc_Mx_n hm (fun _ => y)))) (fun y => pc_ysum hW (by omega) (nm_r (nI_1 _) (ih (i + 1) _ (by omega) (pc_Mx_t hm z y))))
    · exact nm_r (nI_1 _) (ih (i + 1) m (by omega) (pc_Mx_n hm (fun y => absurd y z)))
theorem pc_yhchain {post : Int32 → SY → Prop} {E U W G D : Nat → Int32} {e c w : Nat → Nat} {o : Nat} (hE : pc_Ar E e) (hU : pc_Up e) (hc : pc_Cl e c) (hW : pc_We W w) (hp : ∀ m U, m ≤ 90 → pc_Ar U c → pc_Mx (pc_Ch c o) (fun s => pc_sm s.testBit w 10) 1024 m → post (nI m) (nI o, E, U, W, G, D)) : wpY_heaviestChain post (nI o, E, U, W, G, D) :=
  pc_ycl hE hU hc (fun U hA => ⟨1025, pc_yhchain_l hA hW (fun m h1 h2 => hp m U h1 hA h2) 1024 0 0 rfl (pc_Mx0 _ _)⟩)
theorem pc_yants_l {post : Int32 → SY → Prop} {E U W G D : Nat → Int32} {c : Nat → Nat} {o : Nat} (hA : pc_Ar U c) (hp : post (nI (pc_ct (pc_AC c o) 1024)) (nI o, E, U, W, G, D)) : ∀ d i, i + d = 1024 → wY_antichains_8 post (nI o) E U W G D (d + 1) (nI (pc_ct (pc_AC c o) i)) (nI i) := by
  intro d
  induction d with
  | zero =>
    intro i hi
    have e : i = 1024 := by omega
    subst e
    exact br_t (by decide) hp
  | succ d ih =>
    intro i hi
    have k := ih (i + 1) (by omega)
    refine pk_le 1024 i (fun z => absurd z (by omega)) (fun _ => pc_yaif hA (by omega) (fun z => ?_) (fun z => ?_))
    · rw [pc_ct_t z] at k
      exact nm_r (nI_1 _) (nm_r (nI_1 _) k)
    · rw [pc_ct_f z] at k
      exact nm_r (nI_1 _) k
theorem pc_yants {post : Int32 → SY → Prop} {E U W G D : Nat → Int32} {e c : Nat → Nat} {o : Nat} (hE : pc_Ar E e) (hU : pc_Up e) (hc : pc_Cl e c) (hp : ∀ U, pc_Ar U c → post (nI (pc_ct (pc_AC c o) 1024)) (nI o, E, U, W, G, D)) : wpY_antichains post (nI o, E, U, W, G, D) :=
  pc_ycl hE hU hc (fun U hA => ⟨1025, pc_yants_l hA (hp U hA) 1024 0 rfl⟩)
theorem pc_yac_l {post : Int32 → SY → Prop} {E U W G D : Nat → Int32} {c : Nat → Nat} {o b : Nat} (hA : pc_Ar U c) (hb : b < 1024) (hS : pc_SW (pc_AC c o) pc_cn 1024 b) (hp : post (nI b) (nI o, E, U, W, G, D)) : ∀ d i, i + d = 1024 → (∀ t, t < i → pc_AC c o t → pc_cn t = pc_cn b → False) → wY_antichain_7 post (nI (pc_cn b)) (nI o) E U W G D (d + 1) (nI i) := by
  intro d
  induction d with
  | zero =>
    intro i hi hn
    have e := pc_SW_e (pc_AC0 c o) hS (by decide) hn (by omega) (Or.inl (by omega))
    omega
  | succ d ih =>
    intro i hi hn
    have h1 := pc_cn_le i
    have h2 := pc_cn_le b
    refine pk_le 1024 i (fun z => absurd z (by omega)) (fun _ => pc_yaif hA (by omega) (fun z => pc_ysize (by omega) (pk_eq (pc_cn i) (pc_cn b) (fun y => ?_) (fun y => ?_))) (fun z => ?_))
    · have e := pc_SW_e (pc_AC0 c o) hS (by decide) hn (by omega) (Or.inr ⟨z, y⟩)
      rw [e]; exact hp
    · refine nm_r (nI_1 _) (ih (i + 1) (by omega) (fun t ht h3 h4 => ?_))
      by_cases q : t = i
      · rw [q] at h4; exact y h4
      · exact hn t (by omega) h3 h4
    · refine nm_r (nI_1 _) (ih (i + 1) (by omega) (fun t ht h3 h4 => ?_))
      by_cases q : t = i
      · rw [q] at h3; exact z h3
      · exact hn t (by omega) h3 h4
theorem pc_yac {post : Int32 → SY → Prop} {E U W G D : Nat → Int32} {e c : Nat → Nat} {o b : Nat} (hE : pc_Ar E e) (hU : pc_Up e) (hc : pc_Cl e c) (hb : b < 1024) (hS : pc_SW (pc_AC c o) pc_cn 1024 b) (hp : ∀ U, post (nI b) (nI o, E, U, W, G, D)) : wpY_antichain post (nI o, E, U, W, G, D) := by
  refine pc_ywidth (o := o) hE hU hc (fun m U _ hA hm => ?_)
  rw [pc_SW_m pc_cn0 hS hm]
  exact ⟨1025, pc_yac_l hA hb hS (hp U) 1024 0 rfl (fun t ht => absurd ht (Nat.not_lt_zero t))⟩
theorem pc_yap_i {post : Int32 → SY → Prop} {J : Int32 → Int32 → Prop} {E U W G D : Nat → Int32} {c : Nat → Nat} {o a : Nat} (hA : pc_Ar U c) (ho : o < 1024) (ha : a < 10) : ∀ d b m, b + d = 10 → J (nI (m + pc_ap1 o c a d)) (nI (a + 1)) → wY_apart_18 post J (nI a) (nI o) E U W G D (d + 1) (nI m) (nI b) := by
  intro d
  induction d with
  | zero =>
    intro b m hb hJ
    have e : b = 10 := by omega
    subst e
    exact br_t (by decide) (nm_r (nI_1 _) hJ)
  | succ d ih =>
    intro b m hb hJ
    refine pk_le 10 b (fun z => absurd z (by omega)) (fun _ => pc_yif rfl rfl ho ha (fun x => pc_yif rfl rfl ho (by omega) (fun y => ⟨pc_in10 ha, pc_yif (pc_ar hA ha) rfl (hA a ha).2 (by omega) (fun z => ?_) (fun z => ?_)⟩) (fun y => ?_)) (fun x => ?_))
    · rw [pc_ap1_f hb (fun t => t.2.2 z)] at hJ
      exact nm_r (nI_1 _) (ih (b + 1) m (by omega) hJ)
    · rw [pc_ap1_t hb ⟨x, y, z⟩] at hJ
      exact nm_r (nI_1 _) (nm_r (nI_1 _) (ih (b + 1) (m + 1) (by omega) hJ))
    · rw [pc_ap1_f hb (fun t => y t.2.1)] at hJ
      exact nm_r (nI_1 _) (ih (b + 1) m (by omega) hJ)
    · rw [pc_ap1_f hb (fun t => x t.1)] at hJ
      exact nm_r (nI_1 _) (ih (b + 1) m (by omega) hJ)
theorem pc_yap_l {post : Int32 → SY → Prop} {E U W G D : Nat → Int32} {c : Nat → Nat} {o : Nat} (hA : pc_Ar U c) (ho : o < 1024) : ∀ d a m, a + d = 10 → post (nI (m + pc_ap2 o c d)) (nI o, E, U, W, G, D) → wY_apart_8 post (nI o) E U W G D (d + 1) (nI m) (nI a) := by
  intro d
  induction d with
  | zero =>
    intro a m ha hp
    have e : a = 10 := by omega
    subst e
    exact br_t (by decide) hp
  | succ d ih =>
    intro a m ha hp
    have e : m + pc_ap2 o c (d + 1) = m + pc_ap1 o c a d + pc_ap2 o c d := by
      have e : 9 - d = a := by omega
      show m + (pc_ap1 o c (9 - d) d + pc_ap2 o c d) = _
      rw [e]; omega
    rw [e] at hp
    exact pk_le 10 a (fun z => absurd z (by omega)) (fun _ => nm_r (nI_1 _) ⟨d + 1, pc_yap_i hA ho (by omega) d (a + 1) m (by omega) (ih (a + 1) _ (by omega) hp)⟩)
theorem pc_yap {post : Int32 → SY → Prop} {E U W G D : Nat → Int32} {e c : Nat → Nat} {o : Nat} (hE : pc_Ar E e) (hU : pc_Up e) (hc : pc_Cl e c) (ho : o < 1024) (hp : ∀ U, post (nI (0 + pc_ap2 o c 10)) (nI o, E, U, W, G, D)) : wpY_apart post (nI o, E, U, W, G, D) :=
  pc_ycl hE hU hc (fun U hA => ⟨11, pc_yap_l hA ho 10 0 0 rfl (hp U)⟩)
end
section
/-! the reference's fewest: the table of the fewest rows of each set -/
theorem pc_subi (P S : Nat) : P &&& S = P ↔ ∀ v, P.testBit v = true → S.testBit v = true := by
  constructor
  · intro h v hv
    rw [← h] at hv
    exact ((pc_andi _ _ _).mp hv).2
  · intro h
    apply Nat.eq_of_testBit_eq
    intro v
    rw [Nat.testBit_and]
    cases x : P.testBit v
    · rfl
    · rw [h v x]; rfl
theorem pc_c3 {A B : Prop} {p a : Nat} (hp : p < 1024) (f : ¬ p.testBit a = true → A) (g : p.testBit a = true → B) : ((nI p &&& nI (2 ^ a)) = 0 → A) ∧ (¬ (nI p &&& nI (2 ^ a)) = 0 → B) := by
  have h : p &&& 2 ^ a ≤ p := Nat.and_le_left
  rw [nx_and, pc_eq0 (by omega), pc_and2]
  by_cases z : p.testBit a = true
  · exact br_f (fun n => n z) (g z)
  · exact br_t z (f z)
theorem pc_nx {p S : Nat} (h : 0 < p) : (nI p - 1) &&& nI S = nI ((p - 1) &&& S) := by
  have e : nI p - 1 = nI (p - 1) := pk_sub (b := 1) h
  rw [e, nx_and]
def pc_F1 (N nd : Nat → Nat) (S a p l : Nat) : Prop := ∀ P, p < P → P &&& S = P → P.testBit a = true → pc_Row N P → l ≤ nd (pc_df S P) + 1
def pc_F2 (N nd : Nat → Nat) (S a l : Nat) : Prop := l = 11 ∨ ∃ P, P &&& S = P ∧ P.testBit a = true ∧ pc_Row N P ∧ l = nd (pc_df S P) + 1
theorem pc_F1_n {N nd : Nat → Nat} {S a p l l' : Nat} (h : pc_F1 N nd S a p l) (hl : l' ≤ l) (hp : p &&& S = p) (hv : p.testBit a = true → pc_Row N p → l' ≤ nd (pc_df S p) + 1) : pc_F1 N nd S a ((p - 1) &&& S) l' := by
  intro P h1 h2 h3 h4
  rcases Nat.lt_trichotomy P p with z | z | z
  · have := pc_sub p P S h2 hp z
    omega
  · rw [z] at h3 h4 ⊢; exact hv h3 h4
  · have := h P z h2 h3 h4; omega
theorem pc_yf_i {post : Int32 → SY → Prop} {J : Int32 → (Nat → Int32) → (Nat → Int32) → (Nat → Int32) → (Nat → Int32) → (Nat → Int32) → Prop} {o x1 : Int32} {E U W G D : Nat → Int32} {N nd : Nat → Nat} {S a : Nat}
    (hS : S < 1024) (ha : pc_Lo S a) (hG : ∀ s, 0 < s → s ≤ S → (pc_Row N s → G s = 1) ∧ (¬ pc_Row N s → G s = 0)) (hD : ∀ s, s < S → D s = nI (nd s) ∧ nd s ≤ 11)
    (K : ∀ l, l ≤ 11 → pc_F1 N nd S a 0 l → pc_F2 N nd S a l → J (nI (S + 1)) E U W G (upd D S (nI l))) :
    ∀ n p l, p < n → l ≤ 11 → p &&& S = p → pc_F1 N nd S a p l → pc_F2 N nd S a l → wY_fewest_44 post J x1 (nI S) (nI (2 ^ a)) o E U W G D n (nI l) (nI p) := by
  intro n
  induction n with
  | zero => intro p l h; omega
  | succ n ih =>
    intro p l hpn hl hp h1 h2
    have hpS : p ≤ S := by rw [← hp]; exact Nat.and_le_right
    refine pk_le p 0 (fun z => ?_) (fun z => ?_)
    · have e : p = 0 := by omega
      subst e
      refine ⟨pc_inS hS, nm_r (e' := upd D S (nI l)) (by rw [nI_clamp (by omega)]) (nm_r (nI_1 _) (K l hl h1 h2))⟩
    · have hlt : (p - 1) &&& S ≤ p - 1 := Nat.and_le_left
      have hss : ((p - 1) &&& S) &&& S = (p - 1) &&& S := by rw [Nat.and_assoc, Nat.and_self]
      have go : (p.testBit a = true → pc_Row N p → l ≤ nd (pc_df S p) + 1) → wY_fewest_44 post J x1 (nI S) (nI (2 ^ a)) o E U W G D n (nI l) (nI ((p - 1) &&& S)) :=
        fun hv => ih _ l (by omega) hl hss (pc_F1_n h1 (Nat.le_refl l) hp hv) h2
      refine pc_c3 (by omega) (fun y => nm_r (pc_nx z) (go (fun t => absurd t y))) (fun y => ⟨pc_inS (by omega), ?_⟩)
      rw [nI_clamp (show p < 2 ^ 31 by omega)]
      by_cases hR : pc_Row N p
      · rw [(hG p z hpS).1 hR]
        have hd : pc_df S p < S := pc_df_ls ha.1 y
        have hDd := hD _ hd
        have hd2 := hDd.2
        have ei : nI S &&& (nI p ^^^ (-1)) = nI (pc_df S p) := pc_nnot S p
        have ed : D (nI S &&& (nI p ^^^ (-1))).toNatClampNeg + 1 = nI (nd (pc_df S p) + 1) := by rw [ei, nI_clamp (by omega), hDd.1, nI_1]
        refine br_f (by decide) ⟨by rw [ei]; exact pc_inS (by omega), pk_le l (nd (pc_df S p) + 1) (fun t => nm_r (pc_nx z) (go (fun _ _ => t))) (fun t => ⟨by rw [ei]; exact pc_inS (by omega), nm_r ed (nm_r (pc_nx z) ?_)⟩) rfl ed⟩
        exact ih _ _ (by omega) (by omega) hss (pc_F1_n h1 (by omega) hp (fun _ _ => Nat.le_refl _)) (Or.inr ⟨p, hp, y, hR, rfl⟩)
      · rw [(hG p z hpS).2 hR]
        exact br_t rfl (nm_r (pc_nx z) (go (fun _ t => absurd t hR)))
def pc_NDk (N nd : Nat → Nat) (k : Nat) : Prop := nd 0 = 0 ∧ ∀ S, 0 < S → S < k →
  (∀ P a, pc_Lo S a → P.testBit a = true → (∀ v, P.testBit v = true → S.testBit v = true) → pc_Row N P → nd S ≤ nd (pc_df S P) + 1) ∧
  (nd S = 11 ∨ ∃ P a, pc_Lo S a ∧ P.testBit a = true ∧ (∀ v, P.testBit v = true → S.testBit v = true) ∧ pc_Row N P ∧ nd S = nd (pc_df S P) + 1)
theorem pc_NDk_s {N nd : Nat → Nat} {k a l : Nat} (h : pc_NDk N nd k) (hk : 0 < k) (ha : pc_Lo k a) (h1 : pc_F1 N nd k a 0 l) (h2 : pc_F2 N nd k a l) : pc_NDk N (fun s => if s = k then l else nd s) (k + 1) := by
  refine ⟨?_, fun S h0 hS => ?_⟩
  · dsimp only
    rw [if_neg (by omega)]; exact h.1
  · dsimp only
    by_cases e : S = k
    · subst e
      rw [if_pos rfl]
      refine ⟨fun P b hb hP hs hR => ?_, ?_⟩
      · have hlt := pc_df_ls hb.1 hP
        rw [if_neg (by omega)]
        have e2 := pc_Lo_u ha hb
        refine h1 P ?_ ((pc_subi P S).mpr hs) (by rw [e2]; exact hP) hR
        rcases Nat.eq_zero_or_pos P with q | q
        · rw [q] at hP; exact absurd hP (pc_n0 b)
        · exact q
      · rcases h2 with t | ⟨P, t1, t2, t3, t4⟩
        · exact Or.inl t
        · have hlt := pc_df_ls ha.1 t2
          exact Or.inr ⟨P, a, ha, t2, (pc_subi P S).mp t1, t3, by rw [if_neg (by omega)]; exact t4⟩
    · have hh := h.2 S h0 (by omega)
      rw [if_neg e]
      refine ⟨fun P b hb hP hs hR => ?_, ?_⟩
      · have hlt := pc_df_ls hb.1 hP
        rw [if_neg (by omega)]
        exact hh.1 P b hb hP hs hR
      · rcases hh.2 with t | ⟨P, b, t1, t2, t3, t4, t5⟩
        · exact Or.inl t
        · have hlt := pc_df_ls t1.1 t2
          exact Or.inr ⟨P, b, t1, t2, t3, t4, by rw [if_neg (by omega)]; exact t5⟩
theorem pc_yf_l {post : Int32 → SY → Prop} {x : Int32} {E U W : Nat → Int32} {N : Nat → Nat} {o : Nat} (hN : pc_Sel x E U N) (ho : o < 1024) (hp : ∀ (nd : Nat → Nat) (G D : Nat → Int32), pc_ND N nd → post (nI (nd o)) (nI o, E, U, W, G, D)) :
    ∀ d k (nd : Nat → Nat) (G D : Nat → Int32), 0 < k → k + d = 1024 → pc_NDk N nd k → (∀ s, 0 < s → s < k → (pc_Row N s → G s = 1) ∧ (¬ pc_Row N s → G s = 0)) → (∀ s, s < k → D s = nI (nd s) ∧ nd s ≤ 11) → wY_fewest_13 post x (nI o) (d + 1) (nI k) E U W G D := by
  intro d
  induction d with
  | zero =>
    intro k nd G D h0 hk hnd hG hD
    have e : k = 1024 := by omega
    subst e
    refine br_t (by decide) ⟨pc_inS ho, ?_⟩
    rw [nI_clamp (by omega), (hD o ho).1]
    exact hp nd G D hnd
  | succ d ih =>
    intro k nd G D h0 hk hnd hG hD
    have hk10 : k < 1024 := by omega
    obtain ⟨a, ha, hlow⟩ := pc_low_s hk10 (by omega)
    have go : ∀ g : Int32, (pc_Row N k → g = 1) → (¬ pc_Row N k → g = 0) → ∃ n44 : Nat, wY_fewest_44 post (wY_fewest_13 post x (nI o) (d + 1)) x (nI k) (nI (2 ^ a)) (nI o) E U W (upd G k g) D n44 11 (nI k) := by
      intro g g1 g0
      have hG' : ∀ s, 0 < s → s < k + 1 → (pc_Row N s → upd G k g s = 1) ∧ (¬ pc_Row N s → upd G k g s = 0) := by
        intro s s0 sk
        by_cases e : s = k
        · rw [e, pk_us]; exact ⟨g1, g0⟩
        · rw [pk_un e]; exact hG s s0 (by omega)
      refine ⟨k + 1, pc_yf_i (nd := nd) hk10 ha (fun s s0 sk => hG' s s0 (by omega)) hD (fun l hl h1 h2 => ih (k + 1) _ _ _ (by omega) (by omega) (pc_NDk_s hnd h0 ha h1 h2) hG' (fun s hs => ?_)) (k + 1) k 11 (by omega) (by decide) (Nat.and_self k) (fun P h1 h2 => ?_) (Or.inl rfl)⟩
      · by_cases e : s = k
        · rw [e, pk_us, if_pos rfl]; exact ⟨rfl, hl⟩
        · rw [pk_un e, if_neg e]; exact hD s (by omega)
      · have : P ≤ k := by rw [← h2]; exact Nat.and_le_right
        omega
    refine pk_le 1024 k (fun z => absurd z (by omega)) (fun _ => pc_yrow hN hk10 (fun z => ⟨pc_inS hk10, nm_r (e' := upd G k 1) (by rw [nI_clamp (by omega), pc_n1]) (nm_r hlow (go 1 (fun _ => rfl) (fun y => absurd z y)))⟩) (fun z => ⟨pc_inS hk10, nm_r (e' := upd G k 0) (by rw [nI_clamp (by omega), pc_n00]) (nm_r hlow (go 0 (fun y => absurd y z) (fun _ => rfl)))⟩))
theorem pc_yf {post : Int32 → SY → Prop} {x : Int32} {E U W G D : Nat → Int32} {e c N : Nat → Nat} {o : Nat} (hE : pc_Ar E e) (hU : pc_Up e) (hc : pc_Cl e c) (hN : ∀ U, pc_Ar U c → pc_Sel x E U N) (ho : o < 1024) (hp : ∀ (nd : Nat → Nat) (U G D : Nat → Int32), pc_ND N nd → post (nI (nd o)) (nI o, E, U, W, G, D)) : wpY_fewest post (nI o, E, U, W, G, D) x := by
  refine pc_ycl hE hU hc (fun U hA => nm_e ⟨1024, pc_yf_l (hN U hA) ho (fun nd G D h => hp nd U G D h) 1023 1 (fun _ => 0) G _ (by decide) rfl ⟨rfl, fun S h1 h2 => by omega⟩ (fun s h1 h2 => by omega) (fun s hs => ?_)⟩)
  have e : s = 0 := by omega
  subst e
  rw [pk_us]
  exact ⟨rfl, by decide⟩
end
section
/-! the relation: the same edges, weights and vertices that are on; the component's aboveOf is what is above -/
def i_Rel (_ : Nat) (u : SX) (v : SY) : Prop := ∃ (o : Nat) (E A W R B F U V G D : Nat → Int32) (e c w : Nat → Nat), u = (nI o, E, A, W, R, B) ∧ v = (nI o, F, U, V, G, D) ∧ o < 1024 ∧ pc_Ar E e ∧ pc_Ar F e ∧ pc_Up e ∧ pc_Cl e c ∧ pc_Ar A c ∧ pc_We W w ∧ pc_We V w
theorem i_up {k : Nat} {u : SX} {v : SY} (h : i_Rel k u v) : i_Rel (k + 4) u v := h
theorem pc_x0 {post : SX → Prop} {o : Int32} {E A R B : Nat → Int32} (hp : ∀ W, pc_We W pc_one → post (o, E, A, W, R, B)) : ∀ d i (W : Nat → Int32), i + d = 10 → (∀ v, v < i → W v = 1) → wX_init_54 post o (d + 1) (nI i) E A W R B := by
  intro d
  induction d with
  | zero =>
    intro i W hi hW
    have e : i = 10 := by omega
    subst e
    exact br_t (by decide) (hp W (fun a ha => ⟨hW a ha, (by decide : (1 : Nat) ≤ 9)⟩))
  | succ d ih =>
    intro i W hi hW
    refine pk_le 10 i (fun z => absurd z (by omega)) (fun _ => ⟨pc_in10 (by omega), nm_e (nm_r (nI_1 _) (ih (i + 1) _ (by omega) (fun v hv => ?_)))⟩)
    rw [nI_clamp (by omega)]
    by_cases e : v = i
    · rw [e, pk_us]
    · rw [pk_un e]; exact hW v (by omega)
theorem pc_y0 {post : SY → Prop} {o : Int32} {E U G D : Nat → Int32} (hp : ∀ W, pc_We W pc_one → post (o, E, U, W, G, D)) : ∀ d i (W : Nat → Int32), i + d = 10 → (∀ v, v < i → W v = 1) → wY_init_55 post o (d + 1) (nI i) E U W G D := by
  intro d
  induction d with
  | zero =>
    intro i W hi hW
    have e : i = 10 := by omega
    subst e
    exact br_t (by decide) (hp W (fun a ha => ⟨hW a ha, (by decide : (1 : Nat) ≤ 9)⟩))
  | succ d ih =>
    intro i W hi hW
    refine pk_le 10 i (fun z => absurd z (by omega)) (fun _ => ⟨pc_in10 (by omega), nm_e (nm_r (nI_1 _) (ih (i + 1) _ (by omega) (fun v hv => ?_)))⟩)
    rw [nI_clamp (by omega)]
    by_cases e : v = i
    · rw [e, pk_us]
    · rw [pk_un e]; exact hW v (by omega)
theorem pc_ar0 : pc_Ar (fun _ => 0) (fun _ => 0) := fun _ _ => ⟨nI_0.symm, (by decide : (0 : Nat) < 1024)⟩
theorem i_vc0 : wpX_init (fun u => wpY_init (fun v => i_Rel 0 u v)) := by
  refine ⟨11, pc_x0 (fun W hW => ⟨11, pc_y0 (fun V hV => ?_) 10 0 _ rfl (fun v h => absurd h (Nat.not_lt_zero v))⟩) 10 0 _ rfl (fun v h => absurd h (Nat.not_lt_zero v))⟩
  refine ⟨1023, _, _, W, _, _, _, _, V, _, _, fun _ => 0, fun _ => 0, pc_one, rfl, rfl, by decide, pc_ar0, pc_ar0, fun a b _ h => absurd h (pc_n0 b), fun a ha => ⟨?_, (by decide : (0 : Nat) < 1024)⟩, pc_ar0, hW, hV⟩
  exact (pc_of_0 10 (fun b _ h => pc_n0 b h)).symm
/-! arguments -/
theorem pc_lt10 (x : Int32) : ¬ x < 10 ↔ 9 < x := by
  have e9 : (9 : Int32).toInt = 9 := by decide
  have e10 : (10 : Int32).toInt = 10 := by decide
  rw [Int32.lt_iff_toInt_lt, Int32.lt_iff_toInt_lt, e9, e10]
  omega
theorem pc_le9 (x : Int32) : x ≤ 9 ↔ x < 10 := by
  have e9 : (9 : Int32).toInt = 9 := by decide
  have e10 : (10 : Int32).toInt = 10 := by decide
  rw [Int32.lt_iff_toInt_lt, Int32.le_iff_toInt_le, e9, e10]
  omega
theorem pc_arg {x : Int32} (h0 : ¬ x < 0) (h : x < 10) : ∃ a, a < 10 ∧ x = nI a := by
  obtain ⟨j, hj, rfl⟩ := nI_of h0
  refine ⟨j, ?_, rfl⟩
  have h : nI j < nI 10 := h
  rw [nI_ltI hj (by decide)] at h
  exact h
theorem pc_xv {P Q : Prop} {x : Int32} (f : (x < 0 ∨ 9 < x) → P) (g : ∀ a, a < 10 → x = nI a → Q) : wpX_isVertex (fun r => (r = 0 → P) ∧ (¬ r = 0 → Q)) x := by
  refine br_c (fun h => br_t rfl (f (Or.inl h))) (fun h0 => br_c (fun h => br_t rfl (f (Or.inr ?_))) (fun h => br_f (by decide) ?_))
  · exact (pc_lt10 x).mp (fun y => absurd h (Int32.not_le.mpr y))
  · obtain ⟨a, h1, h2⟩ := pc_arg h0 (Int32.not_le.mp h)
    exact g a h1 h2
theorem pc_yv (u : SY) {P Q : Prop} {x : Int32} (f : (x < 0 ∨ 9 < x) → Q) (g : ∀ a, a < 10 → x = nI a → P) : wpY_bad (fun r => (r = 0 → P) ∧ (¬ r = 0 → Q)) u x := by
  obtain ⟨o, E, U, W, G, D⟩ := u
  refine br_c (fun h => br_f (by decide) (f (Or.inl h))) (fun h0 => br_c (fun h => br_t rfl ?_) (fun h => br_f (by decide) (f (Or.inr (Int32.not_le.mp h)))))
  obtain ⟨a, h1, h2⟩ := pc_arg h0 ((pc_le9 x).mp h)
  exact g a h1 h2
theorem pc_vbad {a : Nat} (ha : a < 10) : ¬ (nI a < 0 ∨ 9 < nI a) := by
  rintro (h | h)
  · exact nI_pos (by omega) h
  · exact nI_nlt (a := 9) (b := a) (by omega) (by decide) h
end
section
/-! the calls that change something -/
theorem pc_xwith {post : Int32 → Prop} {p q z : Int32} {s b : Nat} (hp : p = nI s) (hq : q = nI b) (hb : b < 10) (h0 : z = 0 → post (nI (pc_df s (2 ^ b)))) (h1 : ¬ z = 0 → post (nI (s ||| 2 ^ b))) : wpX_with post p q z := by
  subst hp hq
  refine nm_r (pc_shl b hb) (br_c (fun t => ?_) (fun t => ?_))
  · rw [pc_nnot]; exact h0 t
  · rw [pc_nor]; exact h1 t
def pc_put (z : Int32) (s b : Nat) : Nat := if z = 0 then pc_df s (2 ^ b) else s ||| 2 ^ b
theorem pc_put_lt {z : Int32} {s b : Nat} (hs : s < 1024) (hb : b < 10) : pc_put z s b < 1024 := by
  unfold pc_put
  split
  · exact pc_dflt _ hs
  · exact pc_ilt hs hb
theorem pc_put_i {z : Int32} {s b v : Nat} (h : (pc_put z s b).testBit v = true) : s.testBit v = true ∨ v = b := by
  unfold pc_put at h
  split at h
  · exact Or.inl ((pc_df_i _ _ _).mp h).1
  · exact (pc_i s b v).mp h
theorem pc_xput {post : Int32 → Prop} {p q z : Int32} {s b : Nat} (hp : p = nI s) (hq : q = nI b) (hb : b < 10) (h : post (nI (pc_put z s b))) : wpX_with post p q z := by
  refine pc_xwith hp hq hb (fun t => ?_) (fun t => ?_)
  · rw [pc_put, if_pos t] at h; exact h
  · rw [pc_put, if_neg t] at h; exact h
theorem pc_upAr {E : Nat → Int32} {e : Nat → Nat} (h : pc_Ar E e) {a x : Nat} (hx : x < 1024) : pc_Ar (upd E a (nI x)) (fun v => if v = a then x else e v) := by
  intro v hv
  dsimp only
  by_cases z : v = a
  · rw [z, pk_us, if_pos rfl]; exact ⟨rfl, hx⟩
  · rw [pk_un z, if_neg z]; exact h v hv
theorem pc_upWe {W : Nat → Int32} {w : Nat → Nat} (h : pc_We W w) {a x : Nat} (hx : x ≤ 9) : pc_We (upd W a (nI x)) (fun v => if v = a then x else w v) := by
  intro v hv
  dsimp only
  by_cases z : v = a
  · rw [z, pk_us, if_pos rfl]; exact ⟨rfl, hx⟩
  · rw [pk_un z, if_neg z]; exact h v hv
theorem pc_b01 (b : Bool) : nI b.toNat = if b = true then 1 else 0 := by cases b <;> rfl
theorem i_vc_edge {k : Nat} {u : SX} {v : SY} (I : i_Rel k u v) (hk : k + 4 ≤ 2048) (v1 : Int32) (v2 : Int32) (v3 : Int32) : wpX_edge (fun r u' => wpY_edge (fun r' v' => r' = r ∧ i_Rel (k + 4) u' v') v v1 v2 (lw_bz v3)) u v1 v2 (lw_bz v3) := by
  obtain ⟨o, E, A, W, R, B, F, U, V, G, D, e, c, w, rfl, rfl, ho, hE, hF, hU, hc, hA, hW, hV⟩ := I
  have same : i_Rel (k + 4) (nI o, E, A, W, R, B) (nI o, F, U, V, G, D) := ⟨o, E, A, W, R, B, F, U, V, G, D, e, c, w, rfl, rfl, ho, hE, hF, hU, hc, hA, hW, hV⟩
  generalize lw_bz v3 = z
  by_cases h0 : v1 < 0
  · exact br_t h0 (br_t h0 ⟨rfl, same⟩)
  · by_cases h1 : v2 ≤ v1
    · refine br_f h0 (br_t h1 (br_f h0 (br_c (fun _ => ⟨rfl, same⟩) (fun _ => br_f (Int32.not_lt.mpr h1) ⟨rfl, same⟩))))
    · by_cases h2 : v2 < 10
      · have h12 : v1 < v2 := Int32.not_le.mp h1
        obtain ⟨a, ha, rfl⟩ := pc_arg h0 (Int32.lt_trans h12 h2)
        obtain ⟨b, hb, rfl⟩ := pc_arg (fun y => h0 (Int32.lt_trans h12 y)) h2
        have hab : a < b := (nI_ltI (by omega) (by omega)).mp h12
        have hlt : pc_put z (e a) b < 1024 := pc_put_lt (hE a ha).2 hb
        have hU' : pc_Up (fun v => if v = a then pc_put z (e a) b else e v) := by
          intro x y hx hy
          dsimp only at hy
          by_cases q : x = a
          · rw [if_pos q] at hy
            rcases pc_put_i hy with t | t
            · rw [q]; exact hU a y ha t
            · omega
          · rw [if_neg q] at hy
            exact hU x y hx hy
        have hE' := pc_upAr hE (a := a) hlt
        have hF' := pc_upAr hF (a := a) hlt
        obtain ⟨c', hc'⟩ := pc_cl_ex hU' (fun x hx => (hE' x hx).2)
        have go : ∀ r : Int32, r = nI ((e a).testBit b).toNat → wX_edge_35 (fun r u' => wpY_edge (fun r' v' => r' = r ∧ i_Rel (k + 4) u' v') (nI o, F, U, V, G, D) (nI a) (nI b) z) (nI a) (nI b) z r (nI o) E A W R B := by
          intro r hr
          refine ⟨pc_in10 ha, pc_xput (pc_ar hE ha) rfl hb ⟨pc_in10 ha, nm_r (e' := upd E a (nI (pc_put z (e a) b))) (by rw [nI_clamp (by omega)]) (pc_xfa hE' hU' hc' (fun A' hA' => ?_))⟩⟩
          refine br_f h0 (br_f (fun t => (pc_lt10 (nI b)).mpr t h2) (br_t h12 ⟨pc_in10 ha, nm_r (e' := r) (by rw [pc_ar hF ha, pc_bitN (hF a ha).2 hb, hr]) ?_⟩))
          have fin : i_Rel (k + 4) (nI o, upd E a (nI (pc_put z (e a) b)), A', W, R, B) (nI o, upd F a (nI (pc_put z (e a) b)), U, V, G, D) := ⟨o, _, A', W, R, B, _, U, V, G, D, _, c', w, rfl, rfl, ho, hE', hF', hU', hc', hA', hW, hV⟩
          refine br_c (fun t => ⟨pc_in10 ha, pc_in10 ha, nm_r (e' := upd F a (nI (pc_put z (e a) b))) ?_ ⟨rfl, fin⟩⟩) (fun t => ⟨pc_in10 ha, pc_in10 ha, nm_r (e' := upd F a (nI (pc_put z (e a) b))) ?_ ⟨rfl, fin⟩⟩)
          · rw [pc_ar hF ha, pc_shl b hb, pc_nnot, nI_clamp (by omega), pc_put, if_pos t]
          · rw [pc_ar hF ha, pc_shl b hb, pc_nor, nI_clamp (by omega), pc_put, if_neg t]
        refine br_f h0 (br_f h1 (br_t h2 ⟨pc_in10 ha, pc_xif (pc_ar hE ha) rfl (hE a ha).2 hb (fun t => go 1 ?_) (fun t => go 0 ?_)⟩))
        · rw [t]; rfl
        · rw [pc_b01, if_neg t]
      · exact br_f h0 (br_f h1 (br_f h2 (br_f h0 (br_t ((pc_lt10 v2).mp h2) ⟨rfl, same⟩))))
theorem i_vc_turn {k : Nat} {u : SX} {v : SY} (I : i_Rel k u v) (hk : k + 4 ≤ 2048) (v1 : Int32) (v2 : Int32) : wpX_turn (fun r u' => wpY_turn (fun r' v' => r' = r ∧ i_Rel (k + 4) u' v') v v1 (lw_bz v2)) u v1 (lw_bz v2) := by
  obtain ⟨o, E, A, W, R, B, F, U, V, G, D, e, c, w, rfl, rfl, ho, hE, hF, hU, hc, hA, hW, hV⟩ := I
  generalize lw_bz v2 = z
  refine pc_xv (fun hbad => pc_yv (nI o, F, U, V, G, D) (fun _ => ⟨rfl, o, E, A, W, R, B, F, U, V, G, D, e, c, w, rfl, rfl, ho, hE, hF, hU, hc, hA, hW, hV⟩) (fun a ha e1 => ?_)) (fun a ha e1 => ?_)
  · rw [e1] at hbad; exact absurd hbad (pc_vbad ha)
  · subst e1
    have go : ∀ r : Int32, r = nI (o.testBit a).toNat → wX_turn_25 (fun r u' => wpY_turn (fun r' v' => r' = r ∧ i_Rel (k + 4) u' v') (nI o, F, U, V, G, D) (nI a) z) (nI a) z r (nI o) E A W R B := by
      intro r hr
      refine pc_xput rfl rfl ha (pc_yv (nI o, F, U, V, G, D) (fun t => absurd t (pc_vbad ha)) (fun _ _ _ => nm_r (e' := r) (by rw [pc_bitN ho ha, hr]) ?_))
      have fin : i_Rel (k + 4) (nI (pc_put z o a), E, A, W, R, B) (nI (pc_put z o a), F, U, V, G, D) := ⟨_, E, A, W, R, B, F, U, V, G, D, e, c, w, rfl, rfl, pc_put_lt ho ha, hE, hF, hU, hc, hA, hW, hV⟩
      refine br_c (fun t => nm_r (e' := nI (pc_put z o a)) ?_ ⟨rfl, fin⟩) (fun t => nm_r (e' := nI (pc_put z o a)) ?_ ⟨rfl, fin⟩)
      · rw [pc_shl a ha, pc_nnot, pc_put, if_pos t]
      · rw [pc_shl a ha, pc_nor, pc_put, if_neg t]
    refine pc_xif rfl rfl ho ha (fun t => go 1 ?_) (fun t => go 0 ?_)
    · rw [t]; rfl
    · rw [pc_b01, if_neg t]
theorem i_vc_weight {k : Nat} {u : SX} {v : SY} (I : i_Rel k u v) (hk : k + 4 ≤ 2048) (v1 : Int32) (v2 : Int32) : wpX_weight (fun r u' => wpY_weight (fun r' v' => r' = r ∧ i_Rel (k + 4) u' v') v v1 v2) u v1 v2 := by
  obtain ⟨o, E, A, W, R, B, F, U, V, G, D, e, c, w, rfl, rfl, ho, hE, hF, hU, hc, hA, hW, hV⟩ := I
  have same : i_Rel (k + 4) (nI o, E, A, W, R, B) (nI o, F, U, V, G, D) := ⟨o, E, A, W, R, B, F, U, V, G, D, e, c, w, rfl, rfl, ho, hE, hF, hU, hc, hA, hW, hV⟩
  refine pc_xv (fun hbad => pc_yv (nI o, F, U, V, G, D) (fun _ => ⟨rfl, same⟩) (fun a ha e1 => ?_)) (fun a ha e1 => ?_)
  · rw [e1] at hbad; exact absurd hbad (pc_vbad ha)
  · subst e1
    by_cases h0 : v2 < 0
    · exact br_t h0 (pc_yv (nI o, F, U, V, G, D) (fun t => absurd t (pc_vbad ha)) (fun _ _ _ => br_t h0 ⟨rfl, same⟩))
    · by_cases h9 : v2 ≤ 9
      · obtain ⟨x, hx, rfl⟩ := pc_arg h0 ((pc_le9 v2).mp h9)
        refine br_f h0 (br_t h9 ⟨pc_in10 ha, nm_r (pc_we hW ha) ⟨pc_in10 ha, nm_r (e' := upd W a (nI x)) (by rw [nI_clamp (by omega)]) ?_⟩⟩)
        refine pc_yv (nI o, F, U, V, G, D) (fun t => absurd t (pc_vbad ha)) (fun _ _ _ => br_f h0 (br_t h9 ⟨pc_in10 ha, nm_r (pc_we hV ha) ⟨pc_in10 ha, nm_r (e' := upd V a (nI x)) (by rw [nI_clamp (by omega)]) ⟨rfl, ?_⟩⟩⟩))
        exact ⟨o, E, A, _, R, B, F, U, _, G, D, e, c, _, rfl, rfl, ho, hE, hF, hU, hc, hA, pc_upWe hW (by omega), pc_upWe hV (by omega)⟩
      · exact br_f h0 (br_f h9 (pc_yv (nI o, F, U, V, G, D) (fun t => absurd t (pc_vbad ha)) (fun _ _ _ => br_f h0 (br_f h9 ⟨rfl, same⟩))))
theorem i_vc_above {k : Nat} {u : SX} {v : SY} (I : i_Rel k u v) (hk : k + 4 ≤ 2048) (v1 : Int32) (v2 : Int32) : wpX_above (fun r => wpY_above (fun r' v' => r' = r ∧ i_Rel (k + 4) u v') v v1 v2) u v1 v2 := by
  obtain ⟨o, E, A, W, R, B, F, U, V, G, D, e, c, w, rfl, rfl, ho, hE, hF, hU, hc, hA, hW, hV⟩ := I
  have same : ∀ U, i_Rel (k + 4) (nI o, E, A, W, R, B) (nI o, F, U, V, G, D) := fun U => ⟨o, E, A, W, R, B, F, U, V, G, D, e, c, w, rfl, rfl, ho, hE, hF, hU, hc, hA, hW, hV⟩
  refine pc_xv (fun hbad => pc_yv (nI o, F, U, V, G, D) (fun _ => ⟨rfl, same U⟩) (fun a ha e1 => ?_)) (fun a ha e1 => pc_xv (fun hbad => ?_) (fun b hb e2 => ?_))
  · rw [e1] at hbad; exact absurd hbad (pc_vbad ha)
  · subst e1
    refine pc_yv (nI o, F, U, V, G, D) (fun t => absurd t (pc_vbad ha)) (fun _ _ _ => pc_yv (nI o, F, U, V, G, D) (fun _ => ⟨rfl, same U⟩) (fun b hb e2 => ?_))
    rw [e2] at hbad; exact absurd hbad (pc_vbad hb)
  · subst e1 e2
    refine ⟨pc_in10 ha, pc_xif (pc_ar hA ha) rfl (hA a ha).2 hb (fun t => ?_) (fun t => ?_)⟩
    · exact pc_yv (nI o, F, U, V, G, D) (fun t => absurd t (pc_vbad ha)) (fun _ _ _ => pc_yv (nI o, F, U, V, G, D) (fun t => absurd t (pc_vbad hb)) (fun _ _ _ => pc_ycl hF hU hc (fun U' hU' => ⟨pc_in10 ha, pc_yhas (pc_ar hU' ha) rfl (hU' a ha).2 hb (fun _ => ⟨rfl, rfl, same U'⟩) (fun y => absurd t y)⟩)))
    · exact pc_yv (nI o, F, U, V, G, D) (fun t => absurd t (pc_vbad ha)) (fun _ _ _ => pc_yv (nI o, F, U, V, G, D) (fun t => absurd t (pc_vbad hb)) (fun _ _ _ => pc_ycl hF hU hc (fun U' hU' => ⟨pc_in10 ha, pc_yhas (pc_ar hU' ha) rfl (hU' a ha).2 hb (fun y => absurd y t) (fun _ => ⟨rfl, rfl, same U'⟩)⟩)))
/-! the calls that ask -/
theorem pc_final {N nd : Nat → Nat} {o m : Nat} (hU : pc_Up N) (ho : o < 1024) (hm : pc_Mx (pc_RS N o 10) pc_cn 1024 m) (hD : pc_ND N nd) : nI (nd o) = nI (pc_cn o) - nI m := by
  have h := pc_cover hU hD ho (hm.1.imp id (fun ⟨T, _, h⟩ => ⟨T, h⟩)) (fun T hT => hm.2 T (pc_RS_lt ho 10 T hT) hT)
  rw [pk_sub (by omega)]
  exact congrArg nI (by omega)
theorem i_vc_chains {k : Nat} {u : SX} {v : SY} (I : i_Rel k u v) (hk : k + 4 ≤ 2048) : wpX_chains (fun r u' => wpY_chains (fun r' v' => r' = r ∧ i_Rel (k + 4) u' v') v) u := by
  obtain ⟨o, E, A, W, R, B, F, U, V, G, D, e, c, w, rfl, rfl, ho, hE, hF, hU, hc, hA, hW, hV⟩ := I
  unfold wpX_chains
  dsimp only
  refine pc_xlcA hA ho (fun m R' _ hm => ?_)
  unfold wpY_chains
  dsimp only
  refine pc_yf (N := c) hF hU hc (fun U' hU' => ⟨fun _ => hU', fun z => absurd rfl z⟩) ho (fun nd U' G' D' hD => ⟨pc_final (pc_Cl_U hU hc) ho hm hD, ?_⟩)
  exact ⟨o, E, A, W, R', B, F, U', V, G', D', e, c, w, rfl, rfl, ho, hE, hF, hU, hc, hA, hW, hV⟩
theorem i_vc_paths {k : Nat} {u : SX} {v : SY} (I : i_Rel k u v) (hk : k + 4 ≤ 2048) : wpX_paths (fun r u' => wpY_paths (fun r' v' => r' = r ∧ i_Rel (k + 4) u' v') v) u := by
  obtain ⟨o, E, A, W, R, B, F, U, V, G, D, e, c, w, rfl, rfl, ho, hE, hF, hU, hc, hA, hW, hV⟩ := I
  unfold wpX_paths
  dsimp only
  refine pc_xlcE hE ho (fun m R' _ hm => ?_)
  unfold wpY_paths
  dsimp only
  refine pc_yf (N := e) hF hU hc (fun U' hU' => ⟨fun z => absurd z (by decide), fun _ => hF⟩) ho (fun nd U' G' D' hD => ⟨pc_final hU ho hm hD, ?_⟩)
  exact ⟨o, E, A, W, R', B, F, U', V, G', D', e, c, w, rfl, rfl, ho, hE, hF, hU, hc, hA, hW, hV⟩
theorem i_vc_width {k : Nat} {u : SX} {v : SY} (I : i_Rel k u v) (hk : k + 4 ≤ 2048) : wpX_width (fun r => wpY_width (fun r' v' => r' = r ∧ i_Rel (k + 4) u v') v) u := by
  obtain ⟨o, E, A, W, R, B, F, U, V, G, D, e, c, w, rfl, rfl, ho, hE, hF, hU, hc, hA, hW, hV⟩ := I
  refine pc_xsw hA (fun b hb hS => pc_xcount rfl hb (pc_ywidth hF hU hc (fun m U' _ _ hm => ⟨by rw [pc_SW_m pc_cn0 hS hm], ?_⟩)))
  exact ⟨o, E, A, W, R, B, F, U', V, G, D, e, c, w, rfl, rfl, ho, hE, hF, hU, hc, hA, hW, hV⟩
theorem i_vc_antichain {k : Nat} {u : SX} {v : SY} (I : i_Rel k u v) (hk : k + 4 ≤ 2048) : wpX_antichain (fun r => wpY_antichain (fun r' v' => r' = r ∧ i_Rel (k + 4) u v') v) u := by
  obtain ⟨o, E, A, W, R, B, F, U, V, G, D, e, c, w, rfl, rfl, ho, hE, hF, hU, hc, hA, hW, hV⟩ := I
  refine pc_xsw hA (fun b hb hS => pc_yac hF hU hc hb hS (fun U' => ⟨rfl, ?_⟩))
  exact ⟨o, E, A, W, R, B, F, U', V, G, D, e, c, w, rfl, rfl, ho, hE, hF, hU, hc, hA, hW, hV⟩
theorem i_vc_heaviest {k : Nat} {u : SX} {v : SY} (I : i_Rel k u v) (hk : k + 4 ≤ 2048) : wpX_heaviest (fun r => wpY_heaviest (fun r' v' => r' = r ∧ i_Rel (k + 4) u v') v) u := by
  obtain ⟨o, E, A, W, R, B, F, U, V, G, D, e, c, w, rfl, rfl, ho, hE, hF, hU, hc, hA, hW, hV⟩ := I
  refine pc_xheavy hA hW (fun m hm => pc_yheavy hF hU hc hV (fun m' U' _ _ hm' => ⟨by rw [pc_Mx_u (fun s _ => Iff.rfl) hm' hm], ?_⟩))
  exact ⟨o, E, A, W, R, B, F, U', V, G, D, e, c, w, rfl, rfl, ho, hE, hF, hU, hc, hA, hW, hV⟩
theorem i_vc_height {k : Nat} {u : SX} {v : SY} (I : i_Rel k u v) (hk : k + 4 ≤ 2048) : wpX_height (fun r u' => wpY_height (fun r' v' => r' = r ∧ i_Rel (k + 4) u' v') v) u := by
  obtain ⟨o, E, A, W, R, B, F, U, V, G, D, e, c, w, rfl, rfl, ho, hE, hF, hU, hc, hA, hW, hV⟩ := I
  have hUc := pc_Cl_U hU hc
  obtain ⟨bf, b1, b2, b3⟩ := pc_bf_ex (w := pc_one) hUc ho (fun _ _ => (by decide : (1 : Nat) ≤ 9))
  refine pc_xgc (w := pc_one) hA hUc ho ⟨fun _ => rfl, fun z => absurd rfl z⟩ b1 b3 (fun m B' h1 h2 => pc_yheight hF hU hc (fun m' U' _ _ hm' => ⟨?_, ?_⟩))
  · rw [pc_chain hUc ho b2 h1 h2 hm']
  · exact ⟨o, E, A, W, R, B', F, U', V, G, D, e, c, w, rfl, rfl, ho, hE, hF, hU, hc, hA, hW, hV⟩
theorem i_vc_heaviestChain {k : Nat} {u : SX} {v : SY} (I : i_Rel k u v) (hk : k + 4 ≤ 2048) : wpX_heaviestChain (fun r u' => wpY_heaviestChain (fun r' v' => r' = r ∧ i_Rel (k + 4) u' v') v) u := by
  obtain ⟨o, E, A, W, R, B, F, U, V, G, D, e, c, w, rfl, rfl, ho, hE, hF, hU, hc, hA, hW, hV⟩ := I
  have hUc := pc_Cl_U hU hc
  obtain ⟨bf, b1, b2, b3⟩ := pc_bf_ex (w := w) hUc ho (fun v hv => (hW v hv).2)
  refine pc_xgc (w := w) hA hUc ho ⟨fun z => absurd z (by decide), fun _ => hW⟩ b1 b3 (fun m B' h1 h2 => pc_yhchain hF hU hc hV (fun m' U' _ _ hm' => ⟨?_, ?_⟩))
  · rw [pc_chain hUc ho b2 h1 h2 hm']
  · exact ⟨o, E, A, W, R, B', F, U', V, G, D, e, c, w, rfl, rfl, ho, hE, hF, hU, hc, hA, hW, hV⟩
theorem i_vc_antichains {k : Nat} {u : SX} {v : SY} (I : i_Rel k u v) (hk : k + 4 ≤ 2048) : wpX_antichains (fun r => wpY_antichains (fun r' v' => r' = r ∧ i_Rel (k + 4) u v') v) u := by
  obtain ⟨o, E, A, W, R, B, F, U, V, G, D, e, c, w, rfl, rfl, ho, hE, hF, hU, hc, hA, hW, hV⟩ := I
  exact pc_xants hA (pc_yants hF hU hc (fun U' _ => ⟨rfl, o, E, A, W, R, B, F, U', V, G, D, e, c, w, rfl, rfl, ho, hE, hF, hU, hc, hA, hW, hV⟩))
theorem i_vc_apart {k : Nat} {u : SX} {v : SY} (I : i_Rel k u v) (hk : k + 4 ≤ 2048) : wpX_apart (fun r => wpY_apart (fun r' v' => r' = r ∧ i_Rel (k + 4) u v') v) u := by
  obtain ⟨o, E, A, W, R, B, F, U, V, G, D, e, c, w, rfl, rfl, ho, hE, hF, hU, hc, hA, hW, hV⟩ := I
  exact pc_xap hA ho (pc_yap hF hU hc ho (fun U' => ⟨rfl, o, E, A, W, R, B, F, U', V, G, D, e, c, w, rfl, rfl, ho, hE, hF, hU, hc, hA, hW, hV⟩))
end
