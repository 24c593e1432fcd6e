/-! links: g a is the next of a, 10 for none; the fewest rows of a set are its vertices less the most links -/
def pc_M (N : Nat → Nat) (S : Nat) (g : Nat → Nat) : Prop :=
  (∀ a, a < 10 → g a < 10 → S.testBit a = true ∧ S.testBit (g a) = true ∧ (N a).testBit (g a) = true) ∧
  (∀ a b, a < 10 → b < 10 → g a < 10 → g a = g b → a = b)
def pc_ln (g : Nat → Nat) (n : Nat) : Nat := pc_sm (fun a => decide (g a < 10)) pc_one n
def pc_ND (N : Nat → Nat) (nd : Nat → Nat) : Prop := nd 0 = 0 ∧ ∀ S, 0 < S → S < 1024 →
  (∀ P a, pc_Lo S a → P.testBit a = true → (∀ v, P.testBit v = true → S.testBit v = true) → pc_Row N P → nd S ≤ nd (pc_df S P) + 1) ∧
  (nd S = 11 ∨ ∃ P a, pc_Lo S a ∧ P.testBit a = true ∧ (∀ v, P.testBit v = true → S.testBit v = true) ∧ pc_Row N P ∧ nd S = nd (pc_df S P) + 1)
theorem pc_M0 (N : Nat → Nat) (S : Nat) : pc_M N S (fun _ => 10) := ⟨fun _ _ h => absurd h (Nat.lt_irrefl 10), fun _ _ _ _ h _ => absurd h (Nat.lt_irrefl 10)⟩
theorem pc_ln0 (n : Nat) : pc_ln (fun _ => 10) n = 0 := pc_sm_zero n (fun _ _ h => absurd (of_decide_eq_true h) (Nat.lt_irrefl 10))
theorem pc_CE {N : Nat → Nat} {S : Nat} {g : Nat → Nat} (hU : pc_Up N) (hS : S < 1024) (hM : pc_M N S g) : ∀ d a, 10 ≤ a + d → S.testBit a = true →
    ∃ P, (∀ v, P.testBit v = true → S.testBit v = true) ∧ pc_Lo P a ∧ pc_Row N P ∧ (∀ v, P.testBit v = true → g v < 10 → P.testBit (g v) = true) ∧
      (∀ v, P.testBit v = true → v ≠ a → ∃ u, u < 10 ∧ P.testBit u = true ∧ g u = v) ∧
      pc_sm (fun v => P.testBit v && decide (g v < 10)) pc_one 10 + 1 = pc_cn P := by
  intro d
  induction d with
  | zero =>
    intro a h ha
    exact absurd (pc_lo hS ha) (by omega)
  | succ d ih =>
    intro a had ha
    have ha10 := pc_lo hS ha
    by_cases h : g a < 10
    · obtain ⟨_, hb, hN⟩ := hM.1 a ha10 h
      have hab := (hU a (g a) ha10 hN).1
      obtain ⟨P, p1, p2, p4, p5, p6, p7⟩ := ih (g a) (by omega) hb
      have hPa : ¬ P.testBit a = true := fun z => by have := p2.2 a z; omega
      refine ⟨P ||| 2 ^ a, ?_, ⟨(pc_i P a a).mpr (Or.inr rfl), ?_⟩, pc_RowI hab p4 p2 hN, ?_, ?_, ?_⟩
      · intro v hv
        rcases (pc_i P a v).mp hv with z | z
        · exact p1 v z
        · rw [z]; exact ha
      · intro w hw
        rcases (pc_i P a w).mp hw with z | z
        · have := p2.2 w z; omega
        · omega
      · intro v hv hg
        rcases (pc_i P a v).mp hv with z | z
        · exact (pc_i P a _).mpr (Or.inl (p5 v z hg))
        · rw [z]; exact (pc_i P a _).mpr (Or.inl p2.1)
      · intro v hv hn
        have hv' := ((pc_i P a v).mp hv).resolve_right hn
        by_cases e : v = g a
        · exact ⟨a, ha10, (pc_i P a a).mpr (Or.inr rfl), e.symm⟩
        · obtain ⟨u, h1, h2, h3⟩ := p6 v hv' e
          exact ⟨u, h1, (pc_i P a u).mpr (Or.inl h2), h3⟩
      · rw [pc_cn_i ha10 hPa, ← p7]
        refine congrArg (· + 1) ?_
        have e1 : pc_one a = 1 := rfl
        rw [← e1, ← pc_sm_single (w := pc_one) a 10 ha10]
        refine pc_sm_or 10 (fun v _ => ?_) (fun v _ h1 h2 => ?_)
        · rw [Nat.testBit_or, Nat.testBit_two_pow]
          by_cases e : a = v
          · subst e; simp [h]
          · simp [e]
        · have e : a = v := of_decide_eq_true h2
          subst e
          rw [Bool.and_eq_true] at h1
          exact hPa h1.1
    · refine ⟨0 ||| 2 ^ a, ?_, ⟨(pc_i 0 a a).mpr (Or.inr rfl), ?_⟩, pc_Row1 N a, ?_, ?_, ?_⟩
      · intro v hv
        rw [((pc_i 0 a v).mp hv).resolve_left (pc_n0 v)]; exact ha
      · intro w hw
        rw [((pc_i 0 a w).mp hw).resolve_left (pc_n0 w)]; exact Nat.le_refl a
      · intro v hv hg
        rw [((pc_i 0 a v).mp hv).resolve_left (pc_n0 v)] at hg
        exact absurd hg h
      · intro v hv hn
        exact absurd (((pc_i 0 a v).mp hv).resolve_left (pc_n0 v)) hn
      · rw [pc_cn_i ha10 (pc_n0 a), pc_sm_zero 10 (fun v _ z => ?_)]
        · show 0 + 1 = pc_sm (Nat.testBit 0) pc_one 10 + 1
          rw [pc_sm_0]
        · rw [Bool.and_eq_true] at z
          have e := ((pc_i 0 a v).mp z.1).resolve_left (pc_n0 v)
          have g' := of_decide_eq_true z.2
          rw [e] at g'
          exact h g'
theorem pc_B {N nd : Nat → Nat} (hU : pc_Up N) (hD : pc_ND N nd) : ∀ S, S < 1024 → ∀ g, pc_M N S g → nd S + pc_ln g 10 ≤ pc_cn S := by
  intro S
  induction S using Nat.strongRecOn with
  | ind S ih =>
    intro hS g hM
    by_cases h0 : S = 0
    · subst h0
      have e : pc_ln g 10 = 0 := pc_sm_zero 10 (fun a ha z => pc_n0 a (hM.1 a ha (of_decide_eq_true z)).1)
      rw [hD.1, e]
      exact Nat.zero_le _
    · obtain ⟨a, ha⟩ := pc_Lo_ex h0
      obtain ⟨P, p1, p2, p4, p5, p6, p7⟩ := pc_CE hU hS hM 10 a (by omega) ha.1
      have hn := (hD.2 S (by omega) hS).1 P a ha p2.1 p1 p4
      have hlt : pc_df S P < S := pc_df_ls ha.1 p2.1
      have hM' : pc_M N (pc_df S P) (fun v => if P.testBit v = true then 10 else g v) := by
        refine ⟨fun u hu hg => ?_, fun u v hu hv hg e => ?_⟩
        · dsimp only at hg
          by_cases z : P.testBit u = true
          · rw [if_pos z] at hg; omega
          · rw [if_neg z] at hg
            have hm := hM.1 u hu hg
            dsimp only
            rw [if_neg z]
            refine ⟨(pc_df_i S P u).mpr ⟨hm.1, z⟩, (pc_df_i S P _).mpr ⟨hm.2.1, fun y => ?_⟩, hm.2.2⟩
            by_cases e : g u = a
            · have h1 := ha.2 u hm.1
              have h2 := (hU u (g u) hu hm.2.2).1
              omega
            · obtain ⟨t, t1, t2, t3⟩ := p6 (g u) y e
              have e2 := hM.2 u t hu t1 hg t3.symm
              rw [e2] at z
              exact z t2
        · dsimp only at hg e
          by_cases z : P.testBit u = true
          · rw [if_pos z] at hg; omega
          · rw [if_neg z] at hg e
            by_cases y : P.testBit v = true
            · rw [if_pos y] at e; omega
            · rw [if_neg y] at e
              exact hM.2 u v hu hv hg e
      have i := ih (pc_df S P) hlt (by omega) _ hM'
      have hc := pc_cn_df p1
      have hl : pc_ln g 10 = pc_ln (fun v => if P.testBit v = true then 10 else g v) 10 + pc_sm (fun v => P.testBit v && decide (g v < 10)) pc_one 10 := by
        refine pc_sm_or 10 (fun v _ => ?_) (fun v _ h1 h2 => ?_)
        · by_cases z : P.testBit v = true
          · simp [z]
          · simp [z]
        · rw [Bool.and_eq_true] at h2
          have h3 := of_decide_eq_true h1
          dsimp only at h3
          rw [if_pos h2.1] at h3
          omega
      omega
/-- a row with k vertices has k - 1 links -/
theorem pc_RM {N : Nat → Nat} (hU : pc_Up N) : ∀ P, P ≠ 0 → P < 1024 → pc_Row N P → ∃ g, pc_M N P g ∧ pc_cn P = 1 + pc_ln g 10 := by
  intro P
  induction P using Nat.strongRecOn with
  | ind P ih =>
    intro h0 hP hR
    obtain ⟨a, ha⟩ := pc_Lo_ex h0
    have ha10 := pc_lo hP ha.1
    have hna : ¬ (pc_df P (2 ^ a)).testBit a = true := fun z => (pc_dfa.mp z).2 rfl
    have hc : pc_cn P = pc_cn (pc_df P (2 ^ a)) + 1 := by
      have e := pc_cn_i ha10 hna
      rw [← pc_split ha.1] at e
      exact e
    by_cases hz : pc_df P (2 ^ a) = 0
    · refine ⟨fun _ => 10, pc_M0 N P, ?_⟩
      rw [pc_ln0, hc, hz]
      show pc_sm (Nat.testBit 0) pc_one 10 + 1 = _
      rw [pc_sm_0]
    · obtain ⟨b, hb⟩ := pc_Lo_ex hz
      obtain ⟨hab, hN⟩ := pc_RowN hR ha hb
      have hlt : pc_df P (2 ^ a) < P := pc_df_ls ha.1 (by rw [Nat.testBit_two_pow]; exact decide_eq_true rfl)
      obtain ⟨g, hM, hg⟩ := ih _ hlt hz (by omega) (pc_RowD hR ha)
      have hb10 : b < 10 := pc_lo hP (pc_dfa.mp hb.1).1
      have hga : ¬ g a < 10 := fun z => hna (hM.1 a ha10 z).1
      have hgb : ∀ u, u < 10 → g u < 10 → g u ≠ b := by
        intro u hu z e
        have h1 := hM.1 u hu z
        have h2 := (hU u (g u) hu h1.2.2).1
        have h3 := hb.2 u h1.1
        omega
      refine ⟨fun v => if v = a then b else g v, ⟨fun u hu hg => ?_, fun u v hu hv hg e => ?_⟩, ?_⟩
      · dsimp only at hg ⊢
        by_cases z : u = a
        · subst z
          rw [if_pos rfl]
          exact ⟨ha.1, (pc_dfa.mp hb.1).1, hN⟩
        · rw [if_neg z] at hg ⊢
          have hm := hM.1 u hu hg
          exact ⟨(pc_dfa.mp hm.1).1, (pc_dfa.mp hm.2.1).1, hm.2.2⟩
      · dsimp only at hg e
        by_cases z : u = a
        · rw [if_pos z] at hg e
          by_cases y : v = a
          · omega
          · rw [if_neg y] at e
            exact absurd e.symm (hgb v hv (by omega))
        · rw [if_neg z] at hg e
          by_cases y : v = a
          · rw [if_pos y] at e
            exact absurd e (hgb u hu hg)
          · rw [if_neg y] at e
            exact hM.2 u v hu hv hg e
      · have hl : pc_ln (fun v => if v = a then b else g v) 10 = pc_ln g 10 + pc_one a := by
          rw [← pc_sm_single (w := pc_one) a 10 ha10]
          refine pc_sm_or 10 (fun v _ => ?_) (fun v _ h1 h2 => ?_)
          · by_cases e : v = a
            · subst e; simp [hb10]
            · have e' : ¬ a = v := fun z => e z.symm
              simp [e, e']
          · have e : a = v := of_decide_eq_true h2
            subst e
            exact hga (of_decide_eq_true h1)
        have e1 : pc_one a = 1 := rfl
        omega
theorem pc_A {N nd : Nat → Nat} (hU : pc_Up N) (hD : pc_ND N nd) : ∀ S, S < 1024 → ∃ g, pc_M N S g ∧ pc_cn S = nd S + pc_ln g 10 := by
  intro S
  induction S using Nat.strongRecOn with
  | ind S ih =>
    intro hS
    by_cases h0 : S = 0
    · subst h0
      refine ⟨fun _ => 10, pc_M0 N 0, ?_⟩
      rw [pc_ln0, hD.1]
      exact pc_sm_0 pc_one
    · have hb := pc_B hU hD S hS _ (pc_M0 N S)
      have hc := pc_cn_le S
      rcases (hD.2 S (by omega) hS).2 with e | ⟨P, a, ha, pa, ps, pr, e⟩
      · omega
      · have hlt : pc_df S P < S := pc_df_ls ha.1 pa
        have hP : P < 1024 := pc_lt (fun v hv => pc_lo hS (ps v hv))
        have hP0 : P ≠ 0 := fun z => by rw [z] at pa; exact pc_n0 a pa
        obtain ⟨g1, m1, c1⟩ := ih _ hlt (by omega)
        obtain ⟨g2, m2, c2⟩ := pc_RM hU P hP0 hP pr
        have hcc := pc_cn_df ps
        refine ⟨fun v => if P.testBit v = true then g2 v else g1 v, ⟨fun u hu hg => ?_, fun u v hu hv hg e => ?_⟩, ?_⟩
        · dsimp only at hg ⊢
          by_cases z : P.testBit u = true
          · rw [if_pos z] at hg ⊢
            have hm := m2.1 u hu hg
            exact ⟨ps u hm.1, ps _ hm.2.1, hm.2.2⟩
          · rw [if_neg z] at hg ⊢
            have hm := m1.1 u hu hg
            exact ⟨((pc_df_i S P u).mp hm.1).1, ((pc_df_i S P _).mp hm.2.1).1, hm.2.2⟩
        · dsimp only at hg e
          by_cases z : P.testBit u = true
          · rw [if_pos z] at hg e
            by_cases y : P.testBit v = true
            · rw [if_pos y] at e; exact m2.2 u v hu hv hg e
            · rw [if_neg y] at e
              have h1 := (m2.1 u hu hg).2.1
              have h2 := ((pc_df_i S P _).mp (m1.1 v hv (by omega)).2.1).2
              rw [e] at h1
              exact absurd h1 h2
          · rw [if_neg z] at hg e
            by_cases y : P.testBit v = true
            · rw [if_pos y] at e
              have h1 := (m2.1 v hv (by omega)).2.1
              have h2 := ((pc_df_i S P _).mp (m1.1 u hu hg).2.1).2
              rw [← e] at h1
              exact absurd h1 h2
            · rw [if_neg y] at e; exact m1.2 u v hu hv hg e
        · have hl : pc_ln (fun v => if P.testBit v = true then g2 v else g1 v) 10 = pc_ln g1 10 + pc_ln g2 10 := by
            refine pc_sm_or 10 (fun v hv => ?_) (fun v hv h1 h2 => ?_)
            · by_cases z : P.testBit v = true
              · have h1 : ¬ g1 v < 10 := fun y => ((pc_df_i S P v).mp (m1.1 v hv y).1).2 z
                simp [z, h1]
              · have h2 : ¬ g2 v < 10 := fun y => z (m2.1 v hv y).1
                simp [z, h2]
            · have x1 := (m1.1 v hv (of_decide_eq_true h1)).1
              have x2 := (m2.1 v hv (of_decide_eq_true h2)).1
              exact ((pc_df_i S P v).mp x1).2 x2
          omega
/-! the most links, found by the sets that can be just the nexts of the first k vertices -/
def pc_RS (N : Nat → Nat) (S : Nat) : Nat → Nat → Prop
  | 0 => fun T => T = 0
  | k + 1 => fun T => pc_RS N S k T ∨ (S.testBit k = true ∧ ∃ b T', (N k &&& S).testBit b = true ∧ ¬ T'.testBit b = true ∧ pc_RS N S k T' ∧ T = T' ||| 2 ^ b)
theorem pc_RS_s {N : Nat → Nat} {S : Nat} (hS : S < 1024) : ∀ k, k ≤ 10 → ∀ T, pc_RS N S k T → ∃ g, pc_M N S g ∧ (∀ a, k ≤ a → g a = 10) ∧ (∀ a, a < 10 → g a < 10 → T.testBit (g a) = true) ∧ pc_ln g 10 = pc_cn T := by
  intro k
  induction k with
  | zero =>
    intro _ T hT
    cases hT
    refine ⟨fun _ => 10, pc_M0 N S, fun _ _ => rfl, fun _ _ h => absurd h (Nat.lt_irrefl 10), ?_⟩
    rw [pc_ln0]
    exact (pc_sm_0 pc_one).symm
  | succ k ih =>
    intro hk T hT
    rcases hT with hT | ⟨hSk, b, T', hb, hT', hR, rfl⟩
    · obtain ⟨g, h1, h2, h3, h4⟩ := ih (by omega) T hT
      exact ⟨g, h1, fun a ha => h2 a (by omega), h3, h4⟩
    · obtain ⟨g, h1, h2, h3, h4⟩ := ih (by omega) T' hR
      rw [Nat.testBit_and, Bool.and_eq_true] at hb
      have hb10 : b < 10 := pc_lo hS hb.2
      have hgk : g k = 10 := h2 k (Nat.le_refl k)
      refine ⟨fun v => if v = k then b else g v, ⟨fun u hu hg => ?_, fun u v hu hv hg e => ?_⟩, fun u hu => ?_, fun u hu hg => ?_, ?_⟩
      · dsimp only at hg ⊢
        by_cases z : u = k
        · subst z
          rw [if_pos rfl]
          exact ⟨hSk, hb.2, hb.1⟩
        · rw [if_neg z] at hg ⊢
          exact h1.1 u hu hg
      · dsimp only at hg e
        by_cases z : u = k
        · rw [if_pos z] at hg e
          by_cases y : v = k
          · omega
          · rw [if_neg y] at e
            have := h3 v hv (by omega)
            rw [← e] at this
            exact absurd this hT'
        · rw [if_neg z] at hg e
          by_cases y : v = k
          · rw [if_pos y] at e
            have := h3 u hu hg
            rw [e] at this
            exact absurd this hT'
          · rw [if_neg y] at e
            exact h1.2 u v hu hv hg e
      · dsimp only
        rw [if_neg (by omega)]
        exact h2 u (by omega)
      · dsimp only at hg ⊢
        by_cases z : u = k
        · rw [if_pos z]
          exact (pc_i T' b b).mpr (Or.inr rfl)
        · rw [if_neg z] at hg ⊢
          exact (pc_i T' b _).mpr (Or.inl (h3 u hu hg))
      · rw [pc_cn_i hb10 hT', ← h4]
        have e1 : pc_one k = 1 := rfl
        rw [← e1, ← pc_sm_single (w := pc_one) k 10 (by omega)]
        refine pc_sm_or 10 (fun v _ => ?_) (fun v _ x1 x2 => ?_)
        · by_cases e : v = k
          · subst e; simp [hb10]
          · have e' : ¬ k = v := fun z => e z.symm
            simp [e, e']
        · have e : k = v := of_decide_eq_true x2
          subst e
          have := of_decide_eq_true x1
          omega
theorem pc_RS_c {N : Nat → Nat} {S : Nat} {g : Nat → Nat} (hM : pc_M N S g) : ∀ k, k ≤ 10 → ∃ T, pc_RS N S k T ∧ pc_cn T = pc_ln g k ∧ ∀ t, T.testBit t = true → ∃ a, a < k ∧ g a = t := by
  intro k
  induction k with
  | zero => exact fun _ => ⟨0, rfl, pc_sm_0 pc_one, fun t h => absurd h (pc_n0 t)⟩
  | succ k ih =>
    intro hk
    obtain ⟨T, h1, h2, h3⟩ := ih (by omega)
    have hl : pc_ln g (k + 1) = pc_ln g k + (if decide (g k < 10) = true then pc_one k else 0) := rfl
    by_cases z : g k < 10
    · have hm := hM.1 k (by omega) z
      have hT : ¬ T.testBit (g k) = true := by
        intro y
        obtain ⟨a, x1, x2⟩ := h3 _ y
        have := hM.2 a k (by omega) (by omega) (by omega) x2
        omega
      refine ⟨T ||| 2 ^ g k, Or.inr ⟨hm.1, g k, T, ?_, hT, h1, rfl⟩, ?_, fun t ht => ?_⟩
      · rw [Nat.testBit_and, hm.2.1, hm.2.2]; rfl
      · rw [pc_cn_i z hT, h2, hl, if_pos (decide_eq_true z)]
        rfl
      · rcases (pc_i T (g k) t).mp ht with y | y
        · obtain ⟨a, x1, x2⟩ := h3 t y
          exact ⟨a, by omega, x2⟩
        · exact ⟨k, by omega, y.symm⟩
    · refine ⟨T, Or.inl h1, ?_, fun t ht => ?_⟩
      · rw [hl, h2, if_neg (fun y => z (of_decide_eq_true y)), Nat.add_zero]
      · obtain ⟨a, x1, x2⟩ := h3 t ht
        exact ⟨a, by omega, x2⟩
theorem pc_RS_lt {N : Nat → Nat} {S : Nat} (hS : S < 1024) : ∀ k T, pc_RS N S k T → T < 1024 := by
  intro k
  induction k with
  | zero => intro T h; cases h; decide
  | succ k ih =>
    intro T h
    rcases h with h | ⟨_, b, T', hb, _, hR, rfl⟩
    · exact ih T h
    · rw [Nat.testBit_and, Bool.and_eq_true] at hb
      exact pc_ilt (ih T' hR) (pc_lo hS hb.2)
/-- the vertices less the most links: the fewest rows -/
theorem pc_cover {N nd : Nat → Nat} {S m : Nat} (hU : pc_Up N) (hD : pc_ND N nd) (hS : S < 1024)
    (h1 : m = 0 ∨ ∃ T, pc_RS N S 10 T ∧ pc_cn T = m) (h2 : ∀ T, pc_RS N S 10 T → pc_cn T ≤ m) : pc_cn S = nd S + m := by
  obtain ⟨g, hM, hg⟩ := pc_A hU hD S hS
  obtain ⟨T, t1, t2, _⟩ := pc_RS_c hM 10 (Nat.le_refl 10)
  have x := h2 T t1
  have y : nd S + m ≤ pc_cn S := by
    rcases h1 with e | ⟨T, hT, e⟩
    · have := pc_B hU hD S hS _ (pc_M0 N S)
      omega
    · obtain ⟨g', hM', _, _, hc⟩ := pc_RS_s hS 10 (Nat.le_refl 10) T hT
      have := pc_B hU hD S hS _ hM'
      omega
  omega
