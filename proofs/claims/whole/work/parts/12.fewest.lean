/-! the reference's fewest: the table of the fewest rows of each set -/
theorem pc_subi (P S : Nat) : P &&& S = P ↔ ∀ v, P.testBit v = true → S.testBit v = true := by
  constructor
  · intro h v hv
    rw [← h] at hv
    exact ((pc_andi _ _ _).mp hv).2
  · intro h
    apply Nat.eq_of_testBit_eq
    intro v
    rw [Nat.testBit_and]
    cases x : P.testBit v
    · rfl
    · rw [h v x]; rfl
theorem pc_c3 {A B : Prop} {p a : Nat} (hp : p < 1024) (f : ¬ p.testBit a = true → A) (g : p.testBit a = true → B) : ((nI p &&& nI (2 ^ a)) = 0 → A) ∧ (¬ (nI p &&& nI (2 ^ a)) = 0 → B) := by
  have h : p &&& 2 ^ a ≤ p := Nat.and_le_left
  rw [nx_and, pc_eq0 (by omega), pc_and2]
  by_cases z : p.testBit a = true
  · exact br_f (fun n => n z) (g z)
  · exact br_t z (f z)
theorem pc_nx {p S : Nat} (h : 0 < p) : (nI p - 1) &&& nI S = nI ((p - 1) &&& S) := by
  have e : nI p - 1 = nI (p - 1) := pk_sub (b := 1) h
  rw [e, nx_and]
def pc_F1 (N nd : Nat → Nat) (S a p l : Nat) : Prop := ∀ P, p < P → P &&& S = P → P.testBit a = true → pc_Row N P → l ≤ nd (pc_df S P) + 1
def pc_F2 (N nd : Nat → Nat) (S a l : Nat) : Prop := l = 11 ∨ ∃ P, P &&& S = P ∧ P.testBit a = true ∧ pc_Row N P ∧ l = nd (pc_df S P) + 1
theorem pc_F1_n {N nd : Nat → Nat} {S a p l l' : Nat} (h : pc_F1 N nd S a p l) (hl : l' ≤ l) (hp : p &&& S = p) (hv : p.testBit a = true → pc_Row N p → l' ≤ nd (pc_df S p) + 1) : pc_F1 N nd S a ((p - 1) &&& S) l' := by
  intro P h1 h2 h3 h4
  rcases Nat.lt_trichotomy P p with z | z | z
  · have := pc_sub p P S h2 hp z
    omega
  · rw [z] at h3 h4 ⊢; exact hv h3 h4
  · have := h P z h2 h3 h4; omega
theorem pc_yf_i {post : Int32 → SY → Prop} {J : Int32 → (Nat → Int32) → (Nat → Int32) → (Nat → Int32) → (Nat → Int32) → (Nat → Int32) → Prop} {o x1 : Int32} {E U W G D : Nat → Int32} {N nd : Nat → Nat} {S a : Nat}
    (hS : S < 1024) (ha : pc_Lo S a) (hG : ∀ s, 0 < s → s ≤ S → (pc_Row N s → G s = 1) ∧ (¬ pc_Row N s → G s = 0)) (hD : ∀ s, s < S → D s = nI (nd s) ∧ nd s ≤ 11)
    (K : ∀ l, l ≤ 11 → pc_F1 N nd S a 0 l → pc_F2 N nd S a l → J (nI (S + 1)) E U W G (upd D S (nI l))) :
    ∀ n p l, p < n → l ≤ 11 → p &&& S = p → pc_F1 N nd S a p l → pc_F2 N nd S a l → wY_fewest_44 post J x1 (nI S) (nI (2 ^ a)) o E U W G D n (nI l) (nI p) := by
  intro n
  induction n with
  | zero => intro p l h; omega
  | succ n ih =>
    intro p l hpn hl hp h1 h2
    have hpS : p ≤ S := by rw [← hp]; exact Nat.and_le_right
    refine pk_le p 0 (fun z => ?_) (fun z => ?_)
    · have e : p = 0 := by omega
      subst e
      refine ⟨pc_inS hS, nm_r (e' := upd D S (nI l)) (by rw [nI_clamp (by omega)]) (nm_r (nI_1 _) (K l hl h1 h2))⟩
    · have hlt : (p - 1) &&& S ≤ p - 1 := Nat.and_le_left
      have hss : ((p - 1) &&& S) &&& S = (p - 1) &&& S := by rw [Nat.and_assoc, Nat.and_self]
      have go : (p.testBit a = true → pc_Row N p → l ≤ nd (pc_df S p) + 1) → wY_fewest_44 post J x1 (nI S) (nI (2 ^ a)) o E U W G D n (nI l) (nI ((p - 1) &&& S)) :=
        fun hv => ih _ l (by omega) hl hss (pc_F1_n h1 (Nat.le_refl l) hp hv) h2
      refine pc_c3 (by omega) (fun y => nm_r (pc_nx z) (go (fun t => absurd t y))) (fun y => ⟨pc_inS (by omega), ?_⟩)
      rw [nI_clamp (show p < 2 ^ 31 by omega)]
      by_cases hR : pc_Row N p
      · rw [(hG p z hpS).1 hR]
        have hd : pc_df S p < S := pc_df_ls ha.1 y
        have hDd := hD _ hd
        have hd2 := hDd.2
        have ei : nI S &&& (nI p ^^^ (-1)) = nI (pc_df S p) := pc_nnot S p
        have ed : D (nI S &&& (nI p ^^^ (-1))).toNatClampNeg + 1 = nI (nd (pc_df S p) + 1) := by rw [ei, nI_clamp (by omega), hDd.1, nI_1]
        refine br_f (by decide) ⟨by rw [ei]; exact pc_inS (by omega), pk_le l (nd (pc_df S p) + 1) (fun t => nm_r (pc_nx z) (go (fun _ _ => t))) (fun t => ⟨by rw [ei]; exact pc_inS (by omega), nm_r ed (nm_r (pc_nx z) ?_)⟩) rfl ed⟩
        exact ih _ _ (by omega) (by omega) hss (pc_F1_n h1 (by omega) hp (fun _ _ => Nat.le_refl _)) (Or.inr ⟨p, hp, y, hR, rfl⟩)
      · rw [(hG p z hpS).2 hR]
        exact br_t rfl (nm_r (pc_nx z) (go (fun _ t => absurd t hR)))
def pc_NDk (N nd : Nat → Nat) (k : Nat) : Prop := nd 0 = 0 ∧ ∀ S, 0 < S → S < k →
  (∀ P a, pc_Lo S a → P.testBit a = true → (∀ v, P.testBit v = true → S.testBit v = true) → pc_Row N P → nd S ≤ nd (pc_df S P) + 1) ∧
  (nd S = 11 ∨ ∃ P a, pc_Lo S a ∧ P.testBit a = true ∧ (∀ v, P.testBit v = true → S.testBit v = true) ∧ pc_Row N P ∧ nd S = nd (pc_df S P) + 1)
theorem pc_NDk_s {N nd : Nat → Nat} {k a l : Nat} (h : pc_NDk N nd k) (hk : 0 < k) (ha : pc_Lo k a) (h1 : pc_F1 N nd k a 0 l) (h2 : pc_F2 N nd k a l) : pc_NDk N (fun s => if s = k then l else nd s) (k + 1) := by
  refine ⟨?_, fun S h0 hS => ?_⟩
  · dsimp only
    rw [if_neg (by omega)]; exact h.1
  · dsimp only
    by_cases e : S = k
    · subst e
      rw [if_pos rfl]
      refine ⟨fun P b hb hP hs hR => ?_, ?_⟩
      · have hlt := pc_df_ls hb.1 hP
        rw [if_neg (by omega)]
        have e2 := pc_Lo_u ha hb
        refine h1 P ?_ ((pc_subi P S).mpr hs) (by rw [e2]; exact hP) hR
        rcases Nat.eq_zero_or_pos P with q | q
        · rw [q] at hP; exact absurd hP (pc_n0 b)
        · exact q
      · rcases h2 with t | ⟨P, t1, t2, t3, t4⟩
        · exact Or.inl t
        · have hlt := pc_df_ls ha.1 t2
          exact Or.inr ⟨P, a, ha, t2, (pc_subi P S).mp t1, t3, by rw [if_neg (by omega)]; exact t4⟩
    · have hh := h.2 S h0 (by omega)
      rw [if_neg e]
      refine ⟨fun P b hb hP hs hR => ?_, ?_⟩
      · have hlt := pc_df_ls hb.1 hP
        rw [if_neg (by omega)]
        exact hh.1 P b hb hP hs hR
      · rcases hh.2 with t | ⟨P, b, t1, t2, t3, t4, t5⟩
        · exact Or.inl t
        · have hlt := pc_df_ls t1.1 t2
          exact Or.inr ⟨P, b, t1, t2, t3, t4, by rw [if_neg (by omega)]; exact t5⟩
theorem pc_yf_l {post : Int32 → SY → Prop} {x : Int32} {E U W : Nat → Int32} {N : Nat → Nat} {o : Nat} (hN : pc_Sel x E U N) (ho : o < 1024) (hp : ∀ (nd : Nat → Nat) (G D : Nat → Int32), pc_ND N nd → post (nI (nd o)) (nI o, E, U, W, G, D)) :
    ∀ d k (nd : Nat → Nat) (G D : Nat → Int32), 0 < k → k + d = 1024 → pc_NDk N nd k → (∀ s, 0 < s → s < k → (pc_Row N s → G s = 1) ∧ (¬ pc_Row N s → G s = 0)) → (∀ s, s < k → D s = nI (nd s) ∧ nd s ≤ 11) → wY_fewest_13 post x (nI o) (d + 1) (nI k) E U W G D := by
  intro d
  induction d with
  | zero =>
    intro k nd G D h0 hk hnd hG hD
    have e : k = 1024 := by omega
    subst e
    refine br_t (by decide) ⟨pc_inS ho, ?_⟩
    rw [nI_clamp (by omega), (hD o ho).1]
    exact hp nd G D hnd
  | succ d ih =>
    intro k nd G D h0 hk hnd hG hD
    have hk10 : k < 1024 := by omega
    obtain ⟨a, ha, hlow⟩ := pc_low_s hk10 (by omega)
    have go : ∀ g : Int32, (pc_Row N k → g = 1) → (¬ pc_Row N k → g = 0) → ∃ n44 : Nat, wY_fewest_44 post (wY_fewest_13 post x (nI o) (d + 1)) x (nI k) (nI (2 ^ a)) (nI o) E U W (upd G k g) D n44 11 (nI k) := by
      intro g g1 g0
      have hG' : ∀ s, 0 < s → s < k + 1 → (pc_Row N s → upd G k g s = 1) ∧ (¬ pc_Row N s → upd G k g s = 0) := by
        intro s s0 sk
        by_cases e : s = k
        · rw [e, pk_us]; exact ⟨g1, g0⟩
        · rw [pk_un e]; exact hG s s0 (by omega)
      refine ⟨k + 1, pc_yf_i (nd := nd) hk10 ha (fun s s0 sk => hG' s s0 (by omega)) hD (fun l hl h1 h2 => ih (k + 1) _ _ _ (by omega) (by omega) (pc_NDk_s hnd h0 ha h1 h2) hG' (fun s hs => ?_)) (k + 1) k 11 (by omega) (by decide) (Nat.and_self k) (fun P h1 h2 => ?_) (Or.inl rfl)⟩
      · by_cases e : s = k
        · rw [e, pk_us, if_pos rfl]; exact ⟨rfl, hl⟩
        · rw [pk_un e, if_neg e]; exact hD s (by omega)
      · have : P ≤ k := by rw [← h2]; exact Nat.and_le_right
        omega
    refine pk_le 1024 k (fun z => absurd z (by omega)) (fun _ => pc_yrow hN hk10 (fun z => ⟨pc_inS hk10, nm_r (e' := upd G k 1) (by rw [nI_clamp (by omega), pc_n1]) (nm_r hlow (go 1 (fun _ => rfl) (fun y => absurd z y)))⟩) (fun z => ⟨pc_inS hk10, nm_r (e' := upd G k 0) (by rw [nI_clamp (by omega), pc_n00]) (nm_r hlow (go 0 (fun y => absurd y z) (fun _ => rfl)))⟩))
theorem pc_yf {post : Int32 → SY → Prop} {x : Int32} {E U W G D : Nat → Int32} {e c N : Nat → Nat} {o : Nat} (hE : pc_Ar E e) (hU : pc_Up e) (hc : pc_Cl e c) (hN : ∀ U, pc_Ar U c → pc_Sel x E U N) (ho : o < 1024) (hp : ∀ (nd : Nat → Nat) (U G D : Nat → Int32), pc_ND N nd → post (nI (nd o)) (nI o, E, U, W, G, D)) : wpY_fewest post (nI o, E, U, W, G, D) x := by
  refine pc_ycl hE hU hc (fun U hA => nm_e ⟨1024, pc_yf_l (hN U hA) ho (fun nd G D h => hp nd U G D h) 1023 1 (fun _ => 0) G _ (by decide) rfl ⟨rfl, fun S h1 h2 => by omega⟩ (fun s h1 h2 => by omega) (fun s hs => ?_)⟩)
  have e : s = 0 := by omega
  subst e
  rw [pk_us]
  exact ⟨rfl, by decide⟩
