/-! the component's greatest chain -/
theorem pc_xba_l {post : Int32 → Prop} {o : Int32} {E A W R B : Nat → Int32} {bf : Nat → Nat} {s : Nat} (hs : s < 1024) (hB : ∀ v, s.testBit v = true → B v = nI (bf v) ∧ bf v ≤ 100) (hp : post (nI (pc_mx s bf 10))) : ∀ d i, i + d = 10 → pc_mx s bf i ≤ 100 → wX_bestAmong_4 post (nI s) o E A W R B (d + 1) (nI (pc_mx s bf i)) (nI i) := by
  intro d
  induction d with
  | zero =>
    intro i hi _
    have e : i = 10 := by omega
    subst e
    exact br_t (by decide) hp
  | succ d ih =>
    intro i hi hm
    have e : pc_mx s bf (i + 1) = if s.testBit i = true ∧ pc_mx s bf i < bf i then bf i else pc_mx s bf i := rfl
    have k := ih (i + 1) (by omega)
    rw [e] at k
    refine pk_le 10 i (fun z => absurd z (by omega)) (fun _ => pc_xif rfl rfl hs (by omega) (fun z => ?_) (fun z => ?_))
    · have hb := hB i z
      have ec : B (nI i).toNatClampNeg = nI (bf i) := by rw [nI_clamp (by omega)]; exact hb.1
      have hb2 := hb.2
      refine ⟨pc_in10 (by omega), pk_le (bf i) (pc_mx s bf i) (fun y => ?_) (fun y => ?_) ec⟩
      · rw [if_neg (fun t => by omega)] at k
        exact nm_r (nI_1 _) (k hm)
      · rw [if_pos ⟨z, y⟩] at k
        exact ⟨pc_in10 (by omega), nm_r ec (nm_r (nI_1 _) (k hb2))⟩
    · rw [if_neg (fun t => z t.1)] at k
      exact nm_r (nI_1 _) (k hm)
theorem pc_xba {post : Int32 → Prop} {o p : Int32} {E A W R B : Nat → Int32} {bf : Nat → Nat} {s : Nat} (he : p = nI s) (hs : s < 1024) (hB : ∀ v, s.testBit v = true → B v = nI (bf v) ∧ bf v ≤ 100) (hp : post (nI (pc_mx s bf 10))) : wpX_bestAmong post (o, E, A, W, R, B) p := by
  subst he
  exact ⟨11, pc_xba_l hs hB hp 10 0 rfl (Nat.zero_le _)⟩
/-- w: the weights, or 1 for each -/
def pc_Wt (x : Int32) (W : Nat → Int32) (w : Nat → Nat) : Prop := (x = 0 → w = pc_one) ∧ (¬ x = 0 → pc_We W w)
theorem pc_xgc_j {post : Int32 → SX → Prop} {J : Int32 → Int32 → (Nat → Int32) → (Nat → Int32) → (Nat → Int32) → (Nat → Int32) → (Nat → Int32) → Prop} {o x1 z0 z1 : Int32} {E A W R B : Nat → Int32} {m j y : Nat} (hj : j < 10) (hm : m ≤ 100) (hy : y ≤ 100) (hz : z1 + z0 = nI y)
    (K1 : y ≤ m → J (nI m) (pc_dn j) E A W R (upd B j (nI y))) (K2 : m < y → J (nI y) (pc_dn j) E A W R (upd B j (nI y))) : wX_greatestChain_58 post J x1 (nI m) (nI j) z0 z1 (nI j) o E A W R B := by
  refine ⟨pc_in10 hj, nm_r (e' := upd B j (nI y)) (by rw [hz, nI_clamp (by omega)]) ⟨pc_in10 hj, ?_⟩⟩
  have ec : upd B j (nI y) (nI j).toNatClampNeg = nI y := by rw [nI_clamp (by omega), pk_us]
  exact pk_le y m (fun t => nm_e (K1 t)) (fun t => ⟨pc_in10 hj, nm_r ec (nm_e (K2 t))⟩) ec
theorem pc_xgc_l {post : Int32 → SX → Prop} {x : Int32} {E A W R : Nat → Int32} {c w bf : Nat → Nat} {o : Nat} (hA : pc_Ar A c) (hU : pc_Up c) (ho : o < 1024) (hx : pc_Wt x W w)
    (hbf : ∀ a, a < 10 → bf a = pc_mx (c a &&& o) bf 10 + w a) (h100 : ∀ a, a < 10 → bf a ≤ 100)
    (hp : ∀ m B, (m = 0 ∨ ∃ a, o.testBit a = true ∧ bf a = m) → (∀ a, o.testBit a = true → bf a ≤ m) → post (nI m) (nI o, E, A, W, R, B)) :
    ∀ j, j ≤ 10 → ∀ (m : Nat) (B : Nat → Int32), (∀ a, j ≤ a → o.testBit a = true → B a = nI (bf a)) → (m = 0 ∨ ∃ a, o.testBit a = true ∧ bf a = m) → (∀ a, j ≤ a → o.testBit a = true → bf a ≤ m) → wX_greatestChain_5 post x (nI o) (j + 1) (nI m) (pc_dn j) E A W R B := by
  intro j
  induction j with
  | zero =>
    intro _ m B hB h1 h2
    exact br_t pc_dn_0 (hp m B h1 (fun a ha => h2 a (Nat.zero_le a) ha))
  | succ j ih =>
    intro hj m B hB h1 h2
    rw [pc_dn_s]
    have hm : m ≤ 100 := by
      rcases h1 with e | ⟨a, ha, e⟩
      · omega
      · have := h100 a (pc_lo ho ha); omega
    have hj10 : j < 10 := by omega
    have hy := h100 j hj10
    refine br_f (pc_dnpos j (by omega)) (pc_xif rfl rfl ho hj10 (fun z => ⟨pc_in10 hj10, pc_xba (bf := bf) (s := c j &&& o) (by rw [pc_ar hA hj10, nx_and]) (pc_andlt _ ho) (fun v hv => ?_) ?_⟩) (fun z => ?_))
    · have hv' := (pc_andi _ _ _).mp hv
      have u := hU j v hj10 hv'.1
      exact ⟨hB v (by omega) hv'.2, h100 v u.2⟩
    · have K1 : bf j ≤ m → wX_greatestChain_5 post x (nI o) (j + 1) (nI m) (pc_dn j) E A W R (upd B j (nI (bf j))) := by
        intro y
        refine ih (by omega) m _ (fun a h3 h4 => ?_) h1 (fun a h3 h4 => ?_)
        · by_cases e : a = j
          · rw [e, pk_us]
          · rw [pk_un e]; exact hB a (by omega) h4
        · by_cases e : a = j
          · rw [e]; exact y
          · exact h2 a (by omega) h4
      have K2 : m < bf j → wX_greatestChain_5 post x (nI o) (j + 1) (nI (bf j)) (pc_dn j) E A W R (upd B j (nI (bf j))) := by
        intro y
        refine ih (by omega) (bf j) _ (fun a h3 h4 => ?_) (Or.inr ⟨j, z, rfl⟩) (fun a h3 h4 => ?_)
        · by_cases e : a = j
          · rw [e, pk_us]
          · rw [pk_un e]; exact hB a (by omega) h4
        · by_cases e : a = j
          · rw [e]; exact Nat.le_refl _
          · have := h2 a (by omega) h4; omega
      refine br_c (fun y => pc_xgc_j hj10 hm hy ?_ K1 K2) (fun y => ⟨pc_in10 hj10, pc_xgc_j hj10 hm hy ?_ K1 K2⟩)
      · rw [hbf j hj10, hx.1 y]
        exact nI_1 _
      · rw [pc_we (hx.2 y) hj10, nI_add, ← hbf j hj10]
    · refine nm_e (ih (by omega) m B (fun a h3 h4 => ?_) h1 (fun a h3 h4 => ?_))
      · by_cases e : a = j
        · rw [e] at h4; exact absurd h4 z
        · exact hB a (by omega) h4
      · by_cases e : a = j
        · rw [e] at h4; exact absurd h4 z
        · exact h2 a (by omega) h4
theorem pc_xgc {post : Int32 → SX → Prop} {x : Int32} {E A W R B : Nat → Int32} {c w bf : Nat → Nat} {o : Nat} (hA : pc_Ar A c) (hU : pc_Up c) (ho : o < 1024) (hx : pc_Wt x W w)
    (hbf : ∀ a, a < 10 → bf a = pc_mx (c a &&& o) bf 10 + w a) (h100 : ∀ a, a < 10 → bf a ≤ 100)
    (hp : ∀ m B, (m = 0 ∨ ∃ a, o.testBit a = true ∧ bf a = m) → (∀ a, o.testBit a = true → bf a ≤ m) → post (nI m) (nI o, E, A, W, R, B)) : wpX_greatestChain post (nI o, E, A, W, R, B) x := by
  have k := pc_xgc_l (post := post) (E := E) (R := R) hA hU ho hx hbf h100 hp 10 (Nat.le_refl _) 0 B (fun a h1 h2 => by have := pc_lo ho h2; omega) (Or.inl rfl) (fun a h1 h2 => by have := pc_lo ho h2; omega)
  rw [pc_dn_s] at k
  exact ⟨11, k⟩
