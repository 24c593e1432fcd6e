/-! the component's methods that store -/
theorem pc_dnpos (j : Nat) (hj : j < 2000) : ¬ nI j < 0 := nI_pos (by omega)
theorem pc_xfa_i {post : SX → Prop} {J : Int32 → (Nat → Int32) → (Nat → Int32) → (Nat → Int32) → (Nat → Int32) → (Nat → Int32) → Prop} {o : Int32} {E A W R B : Nat → Int32} {e c : Nat → Nat} {j : Nat}
    (hE : pc_Ar E e) (hc : pc_Cl e c) (hj : j < 10) (hA : ∀ b, j < b → b < 10 → A b = nI (c b)) (K : J (pc_dn j) E (upd A j (nI (c j))) W R B) :
    ∀ d i, j < i → i + d = 10 → wX_findAbove_18 post J (nI j) o E A W R B (d + 1) (nI (pc_of (e j) (e j) c i)) (nI i) := by
  intro d
  induction d with
  | zero =>
    intro i hi hd
    have e1 : i = 10 := by omega
    subst e1
    refine br_t (by decide) ⟨pc_in10 hj, nm_r ?_ (nm_e K)⟩
    rw [← (hc j hj).1, nI_clamp (by omega)]
  | succ d ih =>
    intro i hi hd
    have k := ih (i + 1) (by omega) (by omega)
    have e1 : pc_of (e j) (e j) c (i + 1) = if (e j).testBit i = true then pc_of (e j) (e j) c i ||| c i else pc_of (e j) (e j) c i := rfl
    rw [e1] at k
    refine pk_le 10 i (fun z => absurd z (by omega)) (fun _ => ⟨pc_in10 hj, pc_xif (pc_ar hE hj) rfl (hE j hj).2 (by omega) (fun z => ?_) (fun z => ?_)⟩)
    · rw [if_pos z] at k
      exact ⟨pc_in10 (by omega), nm_r (by rw [nI_clamp (by omega), hA i hi (by omega), pc_nor]) (nm_r (nI_1 _) k)⟩
    · rw [if_neg z] at k
      exact nm_r (nI_1 _) k
theorem pc_xfa_l {post : SX → Prop} {o : Int32} {E W R B : Nat → Int32} {e c : Nat → Nat} (hE : pc_Ar E e) (hU : pc_Up e) (hc : pc_Cl e c) (hp : ∀ A, pc_Ar A c → post (o, E, A, W, R, B)) :
    ∀ j, j ≤ 10 → ∀ A : Nat → Int32, (∀ b, j ≤ b → b < 10 → A b = nI (c b)) → wX_findAbove_3 post o (j + 1) (pc_dn j) E A W R B := by
  intro j
  induction j with
  | zero =>
    intro _ A hA
    exact br_t pc_dn_0 (hp A (fun a ha => ⟨hA a (Nat.zero_le a) ha, (hc a ha).2⟩))
  | succ j ih =>
    intro hj A hA
    rw [pc_dn_s]
    have h0 : pc_of (e j) (e j) c (j + 1) = e j := pc_of_0 (j + 1) (fun b hb hm => by have := (hU j b (by omega) hm).1; omega)
    have K : wX_findAbove_3 post o (j + 1) (pc_dn j) E (upd A j (nI (c j))) W R B := by
      refine ih (by omega) _ (fun b h1 h2 => ?_)
      by_cases z : b = j
      · subst z; exact pk_us
      · rw [pk_un z]; exact hA b (by omega) h2
    have k := pc_xfa_i (post := post) (J := wX_findAbove_3 post o (j + 1)) (o := o) (R := R) (B := B) (W := W) hE hc (by omega) (fun b h1 h2 => hA b (by omega) h2) K (9 - j) (j + 1) (by omega) (by omega)
    rw [h0] at k
    exact br_f (pc_dnpos j (by omega)) ⟨pc_in10 (by omega), nm_r (pc_ar hE (by omega)) (nm_r (nI_1 _) ⟨9 - j + 1, k⟩)⟩
theorem pc_xfa {post : SX → Prop} {o : Int32} {E A W R B : Nat → Int32} {e c : Nat → Nat} (hE : pc_Ar E e) (hU : pc_Up e) (hc : pc_Cl e c) (hp : ∀ A, pc_Ar A c → post (o, E, A, W, R, B)) : wpX_findAbove post (o, E, A, W, R, B) := by
  have k := pc_xfa_l (post := post) (o := o) (W := W) (R := R) (B := B) hE hU hc hp 10 (Nat.le_refl 10) A (fun b h1 h2 => by omega)
  rw [pc_dn_s] at k
  exact ⟨11, k⟩
/-! linkFrom: which sets are marked -/
def pc_Bl (R : Nat → Int32) (C : Nat → Prop) : Prop := ∀ s, s < 1024 → (C s → R s = 1) ∧ (¬ C s → R s = 0)
theorem pc_Bl_t {R : Nat → Int32} {C : Nat → Prop} (h : pc_Bl R C) {s : Nat} (hs : s < 1024) {P Q : Prop} (h1 : C s → Q) (h0 : ¬ C s → P) : (R (nI s).toNatClampNeg = 0 → P) ∧ (¬ R (nI s).toNatClampNeg = 0 → Q) := by
  rw [nI_clamp (by omega)]
  by_cases z : C s
  · rw [(h s hs).1 z]; exact br_f (by decide) (h1 z)
  · rw [(h s hs).2 z]; exact br_t rfl (h0 z)
theorem pc_Bl_u {R : Nat → Int32} {C D : Nat → Prop} {k : Nat} {x : Int32} (h : pc_Bl R C) (hx : (D k → x = 1) ∧ (¬ D k → x = 0)) (hD : ∀ s, s < 1024 → s ≠ k → (D s ↔ C s)) : pc_Bl (upd R k x) D := by
  intro s hs
  by_cases e : s = k
  · subst e; rw [pk_us]; exact hx
  · rw [pk_un e]
    have i := hD s hs e
    exact ⟨fun z => (h s hs).1 (i.mp z), fun z => (h s hs).2 (fun y => z (i.mpr y))⟩
theorem pc_Bl_c {R : Nat → Int32} {C D : Nat → Prop} (h : pc_Bl R C) (hD : ∀ s, s < 1024 → (D s ↔ C s)) : pc_Bl R D := by
  intro s hs
  have i := hD s hs
  exact ⟨fun z => (h s hs).1 (i.mp z), fun z => (h s hs).2 (fun y => z (i.mpr y))⟩
theorem pc_n1 : vp_nar .boolean 1 = 1 := rfl
theorem pc_n00 : vp_nar .boolean 0 = 0 := rfl
/-- marked after the sets from j upwards are done, and of set j - 1 the nexts below b -/
def pc_LF (C : Nat → Prop) (ch j : Nat) (T : Nat) : Prop := C T ∨ ∃ s b, j ≤ s ∧ s < 1024 ∧ C s ∧ ch.testBit b = true ∧ ¬ s.testBit b = true ∧ T = s ||| 2 ^ b
def pc_LG (C : Nat → Prop) (ch j i : Nat) (T : Nat) : Prop := pc_LF C ch (j + 1) T ∨ ∃ b, b < i ∧ ch.testBit b = true ∧ ¬ j.testBit b = true ∧ T = j ||| 2 ^ b
theorem pc_gt {s b : Nat} (h : ¬ s.testBit b = true) : s < s ||| 2 ^ b := by
  have h1 : s ≤ s ||| 2 ^ b := Nat.left_le_or
  have h2 : s ≠ s ||| 2 ^ b := by
    intro e
    rw [e] at h
    exact h ((pc_i s b b).mpr (Or.inr rfl))
  omega
theorem pc_xlf_i {post : SX → Prop} {J : Int32 → (Nat → Int32) → (Nat → Int32) → (Nat → Int32) → (Nat → Int32) → (Nat → Int32) → Prop} {o x1 : Int32} {E A W B : Nat → Int32} {C : Nat → Prop} {ch j : Nat}
    (hch : ch < 1024) (hj : j < 1024) (K : ∀ R, pc_Bl R (pc_LG C ch j 10) → J (pc_dn j) E A W R B) :
    ∀ d i R, i + d = 10 → pc_Bl R (pc_LG C ch j i) → wX_linkFrom_26 post J x1 (nI j) (nI (pc_df ch j)) o (d + 1) (nI i) E A W R B := by
  intro d
  induction d with
  | zero =>
    intro i R hi hR
    have e1 : i = 10 := by omega
    subst e1
    exact br_t (by decide) (nm_e (K R hR))
  | succ d ih =>
    intro i R hi hR
    refine pk_le 10 i (fun z => absurd z (by omega)) (fun _ => pc_xif rfl rfl (pc_dflt j hch) (by omega) (fun z => ?_) (fun z => ?_))
    · have hz := (pc_df_i ch j i).mp z
      have hl : j ||| 2 ^ i < 1024 := pc_ilt hj (by omega)
      have e2 : nI j ||| ((1 : Int32) <<< (nI i &&& 31)) = nI (j ||| 2 ^ i) := by rw [pc_shl i (by omega), pc_nor]
      rw [e2]
      refine ⟨pc_inS hl, nm_e (nm_r (nI_1 _) (ih (i + 1) _ (by omega) ?_))⟩
      rw [nI_clamp (by omega), pc_n1]
      refine pc_Bl_u hR ⟨fun _ => rfl, fun n => absurd (Or.inr ⟨i, by omega, hz.1, hz.2, rfl⟩) n⟩ (fun s _ hs => ?_)
      constructor
      · rintro (t | ⟨b, t1, t2, t3, t4⟩)
        · exact Or.inl t
        · refine Or.inr ⟨b, ?_, t2, t3, t4⟩
          by_cases y : b = i
          · rw [y] at t4; exact absurd t4 hs
          · omega
      · rintro (t | ⟨b, t1, t2⟩)
        · exact Or.inl t
        · exact Or.inr ⟨b, by omega, t2⟩
    · refine nm_r (nI_1 _) (ih (i + 1) R (by omega) (pc_Bl_c hR (fun s _ => ?_)))
      constructor
      · rintro (t | ⟨b, t1, t2, t3, t4⟩)
        · exact Or.inl t
        · refine Or.inr ⟨b, ?_, t2, t3, t4⟩
          by_cases y : b = i
          · rw [y] at t2 t3; exact absurd ((pc_df_i ch j i).mpr ⟨t2, t3⟩) z
          · omega
      · rintro (t | ⟨b, t1, t2⟩)
        · exact Or.inl t
        · exact Or.inr ⟨b, by omega, t2⟩
theorem pc_xlf_l {post : SX → Prop} {o : Int32} {E A W B : Nat → Int32} {C : Nat → Prop} {ch : Nat} (hch : ch < 1024) (hp : ∀ R, pc_Bl R (pc_LF C ch 0) → post (o, E, A, W, R, B)) :
    ∀ j, j ≤ 1024 → ∀ R, pc_Bl R (pc_LF C ch j) → wX_linkFrom_4 post (nI ch) o (j + 1) (pc_dn j) E A W R B := by
  intro j
  induction j with
  | zero =>
    intro _ R hR
    exact br_t pc_dn_0 (hp R hR)
  | succ j ih =>
    intro hj R hR
    rw [pc_dn_s]
    have hb : ∀ T, T < j + 1 → (pc_LF C ch (j + 1) T ↔ C T) := by
      intro T hT
      constructor
      · rintro (t | ⟨s, b, t1, t2, t3, t4, t5, t6⟩)
        · exact t
        · have := pc_gt t5; omega
      · exact Or.inl
    refine br_f (pc_dnpos j (by omega)) ⟨pc_inS (by omega), pc_Bl_t hR (by omega) (fun z => ?_) (fun z => ?_)⟩
    · have hC := (hb j (by omega)).mp z
      refine nm_r (pc_nnot ch j) ⟨11, pc_xlf_i (C := C) hch (by omega) (fun R' hR' => ih (by omega) R' (pc_Bl_c hR' (fun T _ => ?_))) 10 0 R rfl (pc_Bl_c hR (fun T _ => ?_))⟩
      · constructor
        · rintro (t | ⟨s, b, t1, t2, t3, t4, t5, t6⟩)
          · exact Or.inl (Or.inl t)
          · by_cases y : s = j
            · rw [y] at t5 t6
              exact Or.inr ⟨b, pc_lo hch t4, t4, t5, t6⟩
            · exact Or.inl (Or.inr ⟨s, b, by omega, t2, t3, t4, t5, t6⟩)
        · rintro ((t | ⟨s, b, t1, t2⟩) | ⟨b, t1, t2, t3, t4⟩)
          · exact Or.inl t
          · exact Or.inr ⟨s, b, by omega, t2⟩
          · exact Or.inr ⟨j, b, Nat.le_refl j, by omega, hC, t2, t3, t4⟩
      · constructor
        · rintro (t | ⟨b, t1, _⟩)
          · exact t
          · omega
        · exact Or.inl
    · have hC : ¬ C j := fun y => z ((hb j (by omega)).mpr y)
      refine nm_e (ih (by omega) R (pc_Bl_c hR (fun T _ => ?_)))
      constructor
      · rintro (t | ⟨s, b, t1, t2, t3, t4⟩)
        · exact Or.inl t
        · by_cases y : s = j
          · rw [y] at t3; exact absurd t3 hC
          · exact Or.inr ⟨s, b, by omega, t2, t3, t4⟩
      · rintro (t | ⟨s, b, t1, t2⟩)
        · exact Or.inl t
        · exact Or.inr ⟨s, b, by omega, t2⟩
theorem pc_xlf {post : SX → Prop} {o p : Int32} {E A W R B : Nat → Int32} {C : Nat → Prop} {ch : Nat} (hpe : p = nI ch) (hch : ch < 1024) (hR : pc_Bl R C) (hp : ∀ R, pc_Bl R (pc_LF C ch 0) → post (o, E, A, W, R, B)) : wpX_linkFrom post (o, E, A, W, R, B) p := by
  subst hpe
  have k := pc_xlf_l (post := post) (o := o) (E := E) (A := A) (W := W) (B := B) hch hp 1024 (Nat.le_refl _) R (pc_Bl_c hR (fun T _ => ⟨fun t => t.elim id (fun ⟨s, b, t1, t2, _⟩ => absurd t2 (by omega)), Or.inl⟩))
  rw [pc_dn_s] at k
  exact ⟨1025, k⟩
