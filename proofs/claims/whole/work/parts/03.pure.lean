/-! the greatest value over the sets of a kind -/
def pc_Mx (C : Nat → Prop) (f : Nat → Nat) (k m : Nat) : Prop := (m = 0 ∨ ∃ s, s < k ∧ C s ∧ f s = m) ∧ ∀ s, s < k → C s → f s ≤ m
theorem pc_Mx0 (C : Nat → Prop) (f : Nat → Nat) : pc_Mx C f 0 0 := ⟨Or.inl rfl, fun s h => absurd h (Nat.not_lt_zero s)⟩
theorem pc_Mx_t {C : Nat → Prop} {f : Nat → Nat} {k m : Nat} (h : pc_Mx C f k m) (hc : C k) (hf : m < f k) : pc_Mx C f (k + 1) (f k) := by
  refine ⟨Or.inr ⟨k, by omega, hc, rfl⟩, fun s hs c => ?_⟩
  by_cases e : s = k
  · rw [e]; exact Nat.le_refl _
  · have := h.2 s (by omega) c; omega
theorem pc_Mx_n {C : Nat → Prop} {f : Nat → Nat} {k m : Nat} (h : pc_Mx C f k m) (hf : C k → f k ≤ m) : pc_Mx C f (k + 1) m := by
  refine ⟨h.1.imp id (fun ⟨s, h1, h2⟩ => ⟨s, by omega, h2⟩), fun s hs c => ?_⟩
  by_cases e : s = k
  · rw [e] at c ⊢; exact hf c
  · exact h.2 s (by omega) c
theorem pc_Mx_u {C D : Nat → Prop} {f : Nat → Nat} {k m m' : Nat} (hCD : ∀ s, s < k → (C s ↔ D s)) (h : pc_Mx C f k m) (g : pc_Mx D f k m') : m = m' := by
  have h1 : m ≤ m' := by
    rcases h.1 with e | ⟨s, h1, h2, h3⟩
    · omega
    · have := g.2 s h1 ((hCD s h1).mp h2); omega
  have h2 : m' ≤ m := by
    rcases g.1 with e | ⟨s, h1, h2, h3⟩
    · omega
    · have := h.2 s h1 ((hCD s h1).mpr h2); omega
  omega
theorem pc_Mx_b {C : Nat → Prop} {f : Nat → Nat} {k m B : Nat} (h : pc_Mx C f k m) (hB : ∀ s, s < k → f s ≤ B) : m ≤ B := by
  rcases h.1 with e | ⟨s, h1, _, h3⟩
  · omega
  · have := hB s h1; omega
/-- b: of the sets below k of a kind with the greatest value m the smallest one, 0 if none is above 0 -/
def pc_SW (C : Nat → Prop) (f : Nat → Nat) (k b : Nat) : Prop := (b = 0 ∨ (b < k ∧ C b)) ∧ (∀ s, s < k → C s → f s ≤ f b) ∧ ∀ s, s < b → C s → f s < f b
theorem pc_SW0 (C : Nat → Prop) (f : Nat → Nat) : pc_SW C f 0 0 := ⟨Or.inl rfl, fun s h => absurd h (Nat.not_lt_zero s), fun s h => absurd h (Nat.not_lt_zero s)⟩
theorem pc_SW_t {C : Nat → Prop} {f : Nat → Nat} {k b : Nat} (h : pc_SW C f k b) (hc : C k) (hf : f b < f k) : pc_SW C f (k + 1) k := by
  refine ⟨Or.inr ⟨by omega, hc⟩, fun s hs c => ?_, fun s hs c => ?_⟩
  · by_cases e : s = k
    · rw [e]; exact Nat.le_refl _
    · have := h.2.1 s (by omega) c; omega
  · have := h.2.1 s hs c; omega
theorem pc_SW_n {C : Nat → Prop} {f : Nat → Nat} {k b : Nat} (h : pc_SW C f k b) (hf : C k → f k ≤ f b) : pc_SW C f (k + 1) b := by
  refine ⟨h.1.imp id (fun ⟨x, y⟩ => ⟨by omega, y⟩), fun s hs c => ?_, h.2.2⟩
  by_cases e : s = k
  · rw [e] at c ⊢; exact hf c
  · exact h.2.1 s (by omega) c
theorem pc_SW_m {C : Nat → Prop} {f : Nat → Nat} {k b m : Nat} (hf0 : f 0 = 0) (h : pc_SW C f k b) (g : pc_Mx C f k m) : m = f b := by
  have h1 : m ≤ f b := by
    rcases g.1 with e | ⟨s, h1, h2, h3⟩
    · omega
    · have := h.2.1 s h1 h2; omega
  have h2 : f b ≤ m := by
    rcases h.1 with e | ⟨h1, h2⟩
    · rw [e, hf0]; exact Nat.zero_le _
    · exact g.2 b h1 h2
  omega
theorem pc_SW_e {C : Nat → Prop} {f : Nat → Nat} {k b s : Nat} (hC0 : C 0) (h : pc_SW C f k b) (hk : 0 < k) (hn : ∀ t, t < s → C t → f t = f b → False) (hs : s ≤ k) (hv : s = k ∨ (C s ∧ f s = f b)) : s = b := by
  have hb : b < k ∧ C b := by
    rcases h.1 with e | e
    · rw [e]; exact ⟨hk, hC0⟩
    · exact e
  rcases Nat.lt_trichotomy s b with z | z | z
  · rcases hv with e | e
    · omega
    · have := h.2.2 s z e.1; omega
  · exact z
  · exact (hn b z hb.2 rfl).elim
/-! how many sets are of a kind -/
noncomputable def pc_ct (C : Nat → Prop) : Nat → Nat
  | 0 => 0
  | n + 1 => pc_ct C n + (@ite Nat (C n) (Classical.propDecidable _) 1 0)
theorem pc_ct_t {C : Nat → Prop} {n : Nat} (h : C n) : pc_ct C (n + 1) = pc_ct C n + 1 := congrArg (pc_ct C n + ·) (@if_pos _ (Classical.propDecidable _) h _ _ _)
theorem pc_ct_f {C : Nat → Prop} {n : Nat} (h : ¬ C n) : pc_ct C (n + 1) = pc_ct C n := congrArg (pc_ct C n + ·) (@if_neg _ (Classical.propDecidable _) h _ _ _)
theorem pc_ct_le (C : Nat → Prop) : ∀ n, pc_ct C n ≤ n := by
  intro n
  induction n with
  | zero => exact Nat.le_refl 0
  | succ n ih =>
    by_cases h : C n
    · rw [pc_ct_t h]; omega
    · rw [pc_ct_f h]; omega
/-! the greatest chain -/
def pc_BF (N : Nat → Nat) (S : Nat) (w bf : Nat → Nat) (a : Nat) : Prop :=
  w a ≤ bf a ∧ (∀ v, (N a &&& S).testBit v = true → w a + bf v ≤ bf a) ∧ (bf a = w a ∨ ∃ v, (N a &&& S).testBit v = true ∧ bf a = w a + bf v)
def pc_Ch (N : Nat → Nat) (S s : Nat) : Prop := (∀ v, s.testBit v = true → S.testBit v = true) ∧ pc_Row N s
theorem pc_andi (x y v : Nat) : (x &&& y).testBit v = true ↔ x.testBit v = true ∧ y.testBit v = true := by rw [Nat.testBit_and, Bool.and_eq_true]
theorem pc_Ch_le {N : Nat → Nat} {S : Nat} {w bf : Nat → Nat} (hS : S < 1024) (hB : ∀ a, S.testBit a = true → pc_BF N S w bf a) : ∀ s, pc_Ch N S s → ∀ a, pc_Lo s a → pc_sm s.testBit w 10 ≤ bf a := by
  intro s
  induction s using Nat.strongRecOn with
  | ind s ih =>
    intro hc a ha
    have hSa := hc.1 a ha.1
    have ha10 := pc_lo hS hSa
    have hna : ¬ (pc_df s (2 ^ a)).testBit a = true := fun z => (pc_dfa.mp z).2 rfl
    have e : pc_sm s.testBit w 10 = pc_sm (pc_df s (2 ^ a)).testBit w 10 + w a := by
      have e := pc_sm_i (w := w) ha10 hna
      rw [← pc_split ha.1] at e
      exact e
    have hb := hB a hSa
    by_cases hz : pc_df s (2 ^ a) = 0
    · rw [e, hz, pc_sm_0, Nat.zero_add]
      exact hb.1
    · obtain ⟨b, hlb⟩ := pc_Lo_ex hz
      obtain ⟨hab, hN⟩ := pc_RowN hc.2 ha hlb
      have hlt : pc_df s (2 ^ a) < s := pc_df_ls ha.1 (by rw [Nat.testBit_two_pow]; exact decide_eq_true rfl)
      have i := ih _ hlt ⟨fun v hv => hc.1 v (pc_dfa.mp hv).1, pc_RowD hc.2 ha⟩ b hlb
      have h2 := hb.2.1 b ((pc_andi _ _ _).mpr ⟨hN, hc.1 b (pc_dfa.mp hlb.1).1⟩)
      omega
theorem pc_Ch_ex {N : Nat → Nat} {S : Nat} {w bf : Nat → Nat} (hU : pc_Up N) (hS : S < 1024) (hB : ∀ a, S.testBit a = true → pc_BF N S w bf a) : ∀ d a, 10 ≤ a + d → S.testBit a = true → ∃ s, pc_Ch N S s ∧ pc_Lo s a ∧ pc_sm s.testBit w 10 = bf a := by
  intro d
  induction d with
  | zero =>
    intro a h ha
    exact absurd (pc_lo hS ha) (by omega)
  | succ d ih =>
    intro a had ha
    have ha10 := pc_lo hS ha
    rcases (hB a ha).2.2 with e | ⟨b, hb, e⟩
    · refine ⟨0 ||| 2 ^ a, ⟨fun v hv => ?_, pc_Row1 N a⟩, ⟨(pc_i 0 a a).mpr (Or.inr rfl), fun v hv => ?_⟩, ?_⟩
      · rw [((pc_i 0 a v).mp hv).resolve_left (pc_n0 v)]; exact ha
      · rw [((pc_i 0 a v).mp hv).resolve_left (pc_n0 v)]; exact Nat.le_refl a
      · rw [pc_sm_i ha10 (pc_n0 a), pc_sm_0, e, Nat.zero_add]
    · have hb' := (pc_andi _ _ _).mp hb
      have hab := (hU a b ha10 hb'.1).1
      obtain ⟨s, s1, s2, s3⟩ := ih b (by omega) hb'.2
      have hna : ¬ s.testBit a = true := fun z => by have := s2.2 a z; omega
      refine ⟨s ||| 2 ^ a, ⟨fun v hv => ?_, pc_RowI hab s1.2 s2 hb'.1⟩, ⟨(pc_i s a a).mpr (Or.inr rfl), fun v hv => ?_⟩, ?_⟩
      · rcases (pc_i s a v).mp hv with z | z
        · exact s1.1 v z
        · rw [z]; exact ha
      · rcases (pc_i s a v).mp hv with z | z
        · have := s2.2 v z; omega
        · omega
      · rw [pc_sm_i ha10 hna, s3, e, Nat.add_comm]
theorem pc_chain {N : Nat → Nat} {S : Nat} {w bf : Nat → Nat} {m m' : Nat} (hU : pc_Up N) (hS : S < 1024) (hB : ∀ a, S.testBit a = true → pc_BF N S w bf a)
    (h1 : m = 0 ∨ ∃ a, S.testBit a = true ∧ bf a = m) (h2 : ∀ a, S.testBit a = true → bf a ≤ m) (g : pc_Mx (pc_Ch N S) (fun s => pc_sm s.testBit w 10) 1024 m') : m' = m := by
  have x1 : m ≤ m' := by
    rcases h1 with e | ⟨a, ha, e⟩
    · omega
    · obtain ⟨s, s1, s2, s3⟩ := pc_Ch_ex hU hS hB 10 a (by omega) ha
      have h : pc_sm s.testBit w 10 ≤ m' := g.2 s (pc_lt (fun v hv => pc_lo hS (s1.1 v hv))) s1
      omega
  have x2 : m' ≤ m := by
    rcases g.1 with e | ⟨s, hs, hc, e⟩
    · omega
    · have e : pc_sm s.testBit w 10 = m' := e
      by_cases h0 : s = 0
      · rw [h0, pc_sm_0] at e; omega
      · obtain ⟨a, ha⟩ := pc_Lo_ex h0
        have y1 := pc_Ch_le hS hB s hc a ha
        have y2 := h2 a (hc.1 a ha.1)
        omega
  omega
/-! what is above: the least that holds the edges and goes on over them -/
def pc_Cl1 (e c : Nat → Nat) (a : Nat) : Prop := ∀ v, (c a).testBit v = true ↔ (e a).testBit v = true ∨ ∃ b, (e a).testBit b = true ∧ (c b).testBit v = true
theorem pc_Cl_u {e c c' : Nat → Nat} (hU : pc_Up e) (h : ∀ a, a < 10 → pc_Cl1 e c a) (h' : ∀ a, a < 10 → pc_Cl1 e c' a) : ∀ d a, a < 10 → 10 ≤ a + d → c a = c' a := by
  intro d
  induction d with
  | zero => intro a h1 h2; omega
  | succ d ih =>
    intro a ha hd
    apply Nat.eq_of_testBit_eq
    intro v
    have k : (c a).testBit v = true ↔ (c' a).testBit v = true := by
      rw [h a ha v, h' a ha v]
      constructor
      · rintro (z | ⟨b, z1, z2⟩)
        · exact Or.inl z
        · have u := hU a b ha z1
          exact Or.inr ⟨b, z1, by rw [← ih b u.2 (by omega)]; exact z2⟩
      · rintro (z | ⟨b, z1, z2⟩)
        · exact Or.inl z
        · have u := hU a b ha z1
          exact Or.inr ⟨b, z1, by rw [ih b u.2 (by omega)]; exact z2⟩
    cases x : (c a).testBit v <;> cases y : (c' a).testBit v <;> simp_all
theorem pc_Cl_up {e c : Nat → Nat} (hU : pc_Up e) (h : ∀ a, a < 10 → pc_Cl1 e c a) : pc_Up c := by
  have k : ∀ d a b, a < 10 → 10 ≤ a + d → (c a).testBit b = true → a < b ∧ b < 10 := by
    intro d
    induction d with
    | zero => intro a b h1 h2; omega
    | succ d ih =>
      intro a b ha hd hb
      rcases (h a ha b).mp hb with z | ⟨t, z1, z2⟩
      · exact hU a b ha z
      · have u := hU a t ha z1
        have := ih t b u.2 (by omega) z2
        omega
  exact fun a b ha hb => k 10 a b ha (by omega) hb
/-! antichains -/
def pc_AC (N : Nat → Nat) (S s : Nat) : Prop := (∀ v, s.testBit v = true → S.testBit v = true) ∧ ∀ u v, s.testBit u = true → s.testBit v = true → (N u).testBit v = true → False
theorem pc_AC0 (N : Nat → Nat) (S : Nat) : pc_AC N S 0 := ⟨fun v h => absurd h (pc_n0 v), fun u _ h => absurd h (pc_n0 u)⟩
/-! all the parts of a set, from the set downwards -/
theorem pc_bit0 (a b : Nat) : (a &&& b) % 2 = if a % 2 = 1 ∧ b % 2 = 1 then 1 else 0 := by
  have h := @Nat.and_mod_two_eq_one a b
  by_cases z : a % 2 = 1 ∧ b % 2 = 1
  · rw [if_pos z]; exact h.mpr z
  · rw [if_neg z]
    have : ¬ (a &&& b) % 2 = 1 := fun y => z (h.mp y)
    omega
theorem pc_sub : ∀ q p s : Nat, p &&& s = p → q &&& s = q → p < q → p ≤ (q - 1) &&& s := by
  intro q
  induction q using Nat.strongRecOn with
  | ind q ih =>
    intro p s hp hq hpq
    have p2 : p / 2 &&& s / 2 = p / 2 := by rw [← Nat.and_div_two, hp]
    have q2 : q / 2 &&& s / 2 = q / 2 := by rw [← Nat.and_div_two, hq]
    have pm := pc_bit0 p s
    have qm := pc_bit0 q s
    have rm := pc_bit0 (q - 1) s
    rw [hp] at pm
    rw [hq] at qm
    have rd : ((q - 1) &&& s) / 2 = (q - 1) / 2 &&& s / 2 := Nat.and_div_two
    have key : ((q - 1) &&& s) = 2 * (((q - 1) &&& s) / 2) + ((q - 1) &&& s) % 2 := by omega
    by_cases ho : q % 2 = 1
    · have e : (q - 1) / 2 = q / 2 := by omega
      rw [e, q2] at rd
      by_cases hp1 : p % 2 = 1 ∧ s % 2 = 1
      · omega
      · rw [if_neg hp1] at pm
        omega
    · have e : (q - 1) / 2 = q / 2 - 1 := by omega
      have i := ih (q / 2) (by omega) (p / 2) (s / 2) p2 q2 (by omega)
      rw [e] at rd
      have ho' : (q - 1) % 2 = 1 := by omega
      by_cases hp1 : p % 2 = 1 ∧ s % 2 = 1
      · rw [if_pos ⟨ho', hp1.2⟩] at rm
        omega
      · rw [if_neg hp1] at pm
        omega
