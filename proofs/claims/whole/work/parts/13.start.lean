/-! the relation: the same edges, weights and vertices that are on; the component's aboveOf is what is above -/
def i_Rel (_ : Nat) (u : SX) (v : SY) : Prop := ∃ (o : Nat) (E A W R B F U V G D : Nat → Int32) (e c w : Nat → Nat), u = (nI o, E, A, W, R, B) ∧ v = (nI o, F, U, V, G, D) ∧ o < 1024 ∧ pc_Ar E e ∧ pc_Ar F e ∧ pc_Up e ∧ pc_Cl e c ∧ pc_Ar A c ∧ pc_We W w ∧ pc_We V w
theorem i_up {k : Nat} {u : SX} {v : SY} (h : i_Rel k u v) : i_Rel (k + 4) u v := h
theorem pc_x0 {post : SX → Prop} {o : Int32} {E A R B : Nat → Int32} (hp : ∀ W, pc_We W pc_one → post (o, E, A, W, R, B)) : ∀ d i (W : Nat → Int32), i + d = 10 → (∀ v, v < i → W v = 1) → wX_init_54 post o (d + 1) (nI i) E A W R B := by
  intro d
  induction d with
  | zero =>
    intro i W hi hW
    have e : i = 10 := by omega
    subst e
    exact br_t (by decide) (hp W (fun a ha => ⟨hW a ha, (by decide : (1 : Nat) ≤ 9)⟩))
  | succ d ih =>
    intro i W hi hW
    refine pk_le 10 i (fun z => absurd z (by omega)) (fun _ => ⟨pc_in10 (by omega), nm_e (nm_r (nI_1 _) (ih (i + 1) _ (by omega) (fun v hv => ?_)))⟩)
    rw [nI_clamp (by omega)]
    by_cases e : v = i
    · rw [e, pk_us]
    · rw [pk_un e]; exact hW v (by omega)
theorem pc_y0 {post : SY → Prop} {o : Int32} {E U G D : Nat → Int32} (hp : ∀ W, pc_We W pc_one → post (o, E, U, W, G, D)) : ∀ d i (W : Nat → Int32), i + d = 10 → (∀ v, v < i → W v = 1) → wY_init_55 post o (d + 1) (nI i) E U W G D := by
  intro d
  induction d with
  | zero =>
    intro i W hi hW
    have e : i = 10 := by omega
    subst e
    exact br_t (by decide) (hp W (fun a ha => ⟨hW a ha, (by decide : (1 : Nat) ≤ 9)⟩))
  | succ d ih =>
    intro i W hi hW
    refine pk_le 10 i (fun z => absurd z (by omega)) (fun _ => ⟨pc_in10 (by omega), nm_e (nm_r (nI_1 _) (ih (i + 1) _ (by omega) (fun v hv => ?_)))⟩)
    rw [nI_clamp (by omega)]
    by_cases e : v = i
    · rw [e, pk_us]
    · rw [pk_un e]; exact hW v (by omega)
theorem pc_ar0 : pc_Ar (fun _ => 0) (fun _ => 0) := fun _ _ => ⟨nI_0.symm, (by decide : (0 : Nat) < 1024)⟩
theorem i_vc0 : wpX_init (fun u => wpY_init (fun v => i_Rel 0 u v)) := by
  refine ⟨11, pc_x0 (fun W hW => ⟨11, pc_y0 (fun V hV => ?_) 10 0 _ rfl (fun v h => absurd h (Nat.not_lt_zero v))⟩) 10 0 _ rfl (fun v h => absurd h (Nat.not_lt_zero v))⟩
  refine ⟨1023, _, _, W, _, _, _, _, V, _, _, fun _ => 0, fun _ => 0, pc_one, rfl, rfl, by decide, pc_ar0, pc_ar0, fun a b _ h => absurd h (pc_n0 b), fun a ha => ⟨?_, (by decide : (0 : Nat) < 1024)⟩, pc_ar0, hW, hV⟩
  exact (pc_of_0 10 (fun b _ h => pc_n0 b h)).symm
/-! arguments -/
theorem pc_lt10 (x : Int32) : ¬ x < 10 ↔ 9 < x := by
  have e9 : (9 : Int32).toInt = 9 := by decide
  have e10 : (10 : Int32).toInt = 10 := by decide
  rw [Int32.lt_iff_toInt_lt, Int32.lt_iff_toInt_lt, e9, e10]
  omega
theorem pc_le9 (x : Int32) : x ≤ 9 ↔ x < 10 := by
  have e9 : (9 : Int32).toInt = 9 := by decide
  have e10 : (10 : Int32).toInt = 10 := by decide
  rw [Int32.lt_iff_toInt_lt, Int32.le_iff_toInt_le, e9, e10]
  omega
theorem pc_arg {x : Int32} (h0 : ¬ x < 0) (h : x < 10) : ∃ a, a < 10 ∧ x = nI a := by
  obtain ⟨j, hj, rfl⟩ := nI_of h0
  refine ⟨j, ?_, rfl⟩
  have h : nI j < nI 10 := h
  rw [nI_ltI hj (by decide)] at h
  exact h
theorem pc_xv {P Q : Prop} {x : Int32} (f : (x < 0 ∨ 9 < x) → P) (g : ∀ a, a < 10 → x = nI a → Q) : wpX_isVertex (fun r => (r = 0 → P) ∧ (¬ r = 0 → Q)) x := by
  refine br_c (fun h => br_t rfl (f (Or.inl h))) (fun h0 => br_c (fun h => br_t rfl (f (Or.inr ?_))) (fun h => br_f (by decide) ?_))
  · exact (pc_lt10 x).mp (fun y => absurd h (Int32.not_le.mpr y))
  · obtain ⟨a, h1, h2⟩ := pc_arg h0 (Int32.not_le.mp h)
    exact g a h1 h2
theorem pc_yv (u : SY) {P Q : Prop} {x : Int32} (f : (x < 0 ∨ 9 < x) → Q) (g : ∀ a, a < 10 → x = nI a → P) : wpY_bad (fun r => (r = 0 → P) ∧ (¬ r = 0 → Q)) u x := by
  obtain ⟨o, E, U, W, G, D⟩ := u
  refine br_c (fun h => br_f (by decide) (f (Or.inl h))) (fun h0 => br_c (fun h => br_t rfl ?_) (fun h => br_f (by decide) (f (Or.inr (Int32.not_le.mp h)))))
  obtain ⟨a, h1, h2⟩ := pc_arg h0 ((pc_le9 x).mp h)
  exact g a h1 h2
theorem pc_vbad {a : Nat} (ha : a < 10) : ¬ (nI a < 0 ∨ 9 < nI a) := by
  rintro (h | h)
  · exact nI_pos (by omega) h
  · exact nI_nlt (a := 9) (b := a) (by omega) (by decide) h
