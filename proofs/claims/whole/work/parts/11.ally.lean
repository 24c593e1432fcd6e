/-! the reference over all sets -/
theorem pc_ywidth_l {post : Int32 → SY → Prop} {E U W G D : Nat → Int32} {c : Nat → Nat} {o : Nat} (hA : pc_Ar U c) (hp : ∀ m, m ≤ 90 → pc_Mx (pc_AC c o) (pc_cn) 1024 m → post (nI m) (nI o, E, U, W, G, D)) : ∀ d i m, i + d = 1024 → pc_Mx (pc_AC c o) (pc_cn) i m → wY_width_8 post (nI o) E U W G D (d + 1) (nI m) (nI i) := by
  intro d
  induction d with
  | zero =>
    intro i m hi hm
    have e : i = 1024 := by omega
    subst e
    exact br_t (by decide) (hp m (pc_Mx_b hm (fun s _ => Nat.le_trans (pc_cn_le s) (by decide))) hm)
  | succ d ih =>
    intro i m hi hm
    have h1 : m ≤ 90 := pc_Mx_b hm (fun s _ => Nat.le_trans (pc_cn_le s) (by decide))
    have h2 : pc_cn i ≤ 90 := Nat.le_trans (pc_cn_le i) (by decide)
    refine pk_le 1024 i (fun z => absurd z (by omega)) (fun _ => pc_yaif hA (by omega) (fun z => pc_ysize (by omega) ?_) (fun z => ?_))
    · exact pk_le (pc_cn i) m (fun y => nm_r (nI_1 _) (ih (i + 1) m (by omega) (pc_Mx_n hm (fun _ => y)))) (fun y => pc_ysize (by omega) (nm_r (nI_1 _) (ih (i + 1) _ (by omega) (pc_Mx_t hm z y))))
    · exact nm_r (nI_1 _) (ih (i + 1) m (by omega) (pc_Mx_n hm (fun y => absurd y z)))
theorem pc_ywidth {post : Int32 → SY → Prop} {E U W G D : Nat → Int32} {e c : Nat → Nat} {o : Nat} (hE : pc_Ar E e) (hU : pc_Up e) (hc : pc_Cl e c) (hp : ∀ m U, m ≤ 90 → pc_Ar U c → pc_Mx (pc_AC c o) (pc_cn) 1024 m → post (nI m) (nI o, E, U, W, G, D)) : wpY_width post (nI o, E, U, W, G, D) :=
  pc_ycl hE hU hc (fun U hA => ⟨1025, pc_ywidth_l hA (fun m h1 h2 => hp m U h1 hA h2) 1024 0 0 rfl (pc_Mx0 _ _)⟩)
theorem pc_yheavy_l {post : Int32 → SY → Prop} {E U W G D : Nat → Int32} {c w : Nat → Nat} {o : Nat} (hA : pc_Ar U c) (hW : pc_We W w) (hp : ∀ m, m ≤ 90 → pc_Mx (pc_AC c o) (fun s => pc_sm s.testBit w 10) 1024 m → post (nI m) (nI o, E, U, W, G, D)) : ∀ d i m, i + d = 1024 → pc_Mx (pc_AC c o) (fun s => pc_sm s.testBit w 10) i m → wY_heaviest_8 post (nI o) E U W G D (d + 1) (nI m) (nI i) := by
  intro d
  induction d with
  | zero =>
    intro i m hi hm
    have e : i = 1024 := by omega
    subst e
    exact br_t (by decide) (hp m (pc_Mx_b hm (fun s _ => pc_sm90 (fun v hv => (hW v hv).2) s.testBit)) hm)
  | succ d ih =>
    intro i m hi hm
    have h1 : m ≤ 90 := pc_Mx_b hm (fun s _ => pc_sm90 (fun v hv => (hW v hv).2) s.testBit)
    have h2 : pc_sm i.testBit w 10 ≤ 90 := pc_sm90 (fun v hv => (hW v hv).2) i.testBit
    refine pk_le 1024 i (fun z => absurd z (by omega)) (fun _ => pc_yaif hA (by omega) (fun z => pc_ysum hW (by omega) ?_) (fun z => ?_))
    · exact pk_le (pc_sm i.testBit w 10) m (fun y => nm_r (nI_1 _) (ih (i + 1) m (by omega) (pc_Mx_n hm (fun _ => y)))) (fun y => pc_ysum hW (by omega) (nm_r (nI_1 _) (ih (i + 1) _ (by omega) (pc_Mx_t hm z y))))
    · exact nm_r (nI_1 _) (ih (i + 1) m (by omega) (pc_Mx_n hm (fun y => absurd y z)))
theorem pc_yheavy {post : Int32 → SY → Prop} {E U W G D : Nat → Int32} {e c w : Nat → Nat} {o : Nat} (hE : pc_Ar E e) (hU : pc_Up e) (hc : pc_Cl e c) (hW : pc_We W w) (hp : ∀ m U, m ≤ 90 → pc_Ar U c → pc_Mx (pc_AC c o) (fun s => pc_sm s.testBit w 10) 1024 m → post (nI m) (nI o, E, U, W, G, D)) : wpY_heaviest post (nI o, E, U, W, G, D) :=
  pc_ycl hE hU hc (fun U hA => ⟨1025, pc_yheavy_l hA hW (fun m h1 h2 => hp m U h1 hA h2) 1024 0 0 rfl (pc_Mx0 _ _)⟩)
theorem pc_yheight_l {post : Int32 → SY → Prop} {E U W G D : Nat → Int32} {c : Nat → Nat} {o : Nat} (hA : pc_Ar U c) (hp : ∀ m, m ≤ 90 → pc_Mx (pc_Ch c o) (pc_cn) 1024 m → post (nI m) (nI o, E, U, W, G, D)) : ∀ d i m, i + d = 1024 → pc_Mx (pc_Ch c o) (pc_cn) i m → wY_height_8 post (nI o) E U W G D (d + 1) (nI m) (nI i) := by
  intro d
  induction d with
  | zero =>
    intro i m hi hm
    have e : i = 1024 := by omega
    subst e
    exact br_t (by decide) (hp m (pc_Mx_b hm (fun s _ => Nat.le_trans (pc_cn_le s) (by decide))) hm)
  | succ d ih =>
    intro i m hi hm
    have h1 : m ≤ 90 := pc_Mx_b hm (fun s _ => Nat.le_trans (pc_cn_le s) (by decide))
    have h2 : pc_cn i ≤ 90 := Nat.le_trans (pc_cn_le i) (by decide)
    refine pk_le 1024 i (fun z => absurd z (by omega)) (fun _ => pc_ychain hA (by omega) (fun z => pc_ysize (by omega) ?_) (fun z => ?_))
    · exact pk_le (pc_cn i) m (fun y => nm_r (nI_1 _) (ih (i + 1) m (by omega) (pc_Mx_n hm (fun _ => y)))) (fun y => pc_ysize (by omega) (nm_r (nI_1 _) (ih (i + 1) _ (by omega) (pc_Mx_t hm z y))))
    · exact nm_r (nI_1 _) (ih (i + 1) m (by omega) (pc_Mx_n hm (fun y => absurd y z)))
theorem pc_yheight {post : Int32 → SY → Prop} {E U W G D : Nat → Int32} {e c : Nat → Nat} {o : Nat} (hE : pc_Ar E e) (hU : pc_Up e) (hc : pc_Cl e c) (hp : ∀ m U, m ≤ 90 → pc_Ar U c → pc_Mx (pc_Ch c o) (pc_cn) 1024 m → post (nI m) (nI o, E, U, W, G, D)) : wpY_height post (nI o, E, U, W, G, D) :=
  pc_ycl hE hU hc (fun U hA => ⟨1025, pc_yheight_l hA (fun m h1 h2 => hp m U h1 hA h2) 1024 0 0 rfl (pc_Mx0 _ _)⟩)
theorem pc_yhchain_l {post : Int32 → SY → Prop} {E U W G D : Nat → Int32} {c w : Nat → Nat} {o : Nat} (hA : pc_Ar U c) (hW : pc_We W w) (hp : ∀ m, m ≤ 90 → pc_Mx (pc_Ch c o) (fun s => pc_sm s.testBit w 10) 1024 m → post (nI m) (nI o, E, U, W, G, D)) : ∀ d i m, i + d = 1024 → pc_Mx (pc_Ch c o) (fun s => pc_sm s.testBit w 10) i m → wY_heaviestChain_8 post (nI o) E U W G D (d + 1) (nI m) (nI i) := by
  intro d
  induction d with
  | zero =>
    intro i m hi hm
    have e : i = 1024 := by omega
    subst e
    exact br_t (by decide) (hp m (pc_Mx_b hm (fun s _ => pc_sm90 (fun v hv => (hW v hv).2) s.testBit)) hm)
  | succ d ih =>
    intro i m hi hm
    have h1 : m ≤ 90 := pc_Mx_b hm (fun s _ => pc_sm90 (fun v hv => (hW v hv).2) s.testBit)
    have h2 : pc_sm i.testBit w 10 ≤ 90 := pc_sm90 (fun v hv => (hW v hv).2) i.testBit
    refine pk_le 1024 i (fun z => absurd z (by omega)) (fun _ => pc_ychain hA (by omega) (fun z => pc_ysum hW (by omega) ?_) (fun z => ?_))
    · exact pk_le (pc_sm i.testBit w 10) m (fun y => nm_r (nI_1 _) (ih (i + 1) m (by omega) (pc_Mx_n hm (fun _ => y)))) (fun y => pc_ysum hW (by omega) (nm_r (nI_1 _) (ih (i + 1) _ (by omega) (pc_Mx_t hm z y))))
    · exact nm_r (nI_1 _) (ih (i + 1) m (by omega) (pc_Mx_n hm (fun y => absurd y z)))
theorem pc_yhchain {post : Int32 → SY → Prop} {E U W G D : Nat → Int32} {e c w : Nat → Nat} {o : Nat} (hE : pc_Ar E e) (hU : pc_Up e) (hc : pc_Cl e c) (hW : pc_We W w) (hp : ∀ m U, m ≤ 90 → pc_Ar U c → pc_Mx (pc_Ch c o) (fun s => pc_sm s.testBit w 10) 1024 m → post (nI m) (nI o, E, U, W, G, D)) : wpY_heaviestChain post (nI o, E, U, W, G, D) :=
  pc_ycl hE hU hc (fun U hA => ⟨1025, pc_yhchain_l hA hW (fun m h1 h2 => hp m U h1 hA h2) 1024 0 0 rfl (pc_Mx0 _ _)⟩)
theorem pc_yants_l {post : Int32 → SY → Prop} {E U W G D : Nat → Int32} {c : Nat → Nat} {o : Nat} (hA : pc_Ar U c) (hp : post (nI (pc_ct (pc_AC c o) 1024)) (nI o, E, U, W, G, D)) : ∀ d i, i + d = 1024 → wY_antichains_8 post (nI o) E U W G D (d + 1) (nI (pc_ct (pc_AC c o) i)) (nI i) := by
  intro d
  induction d with
  | zero =>
    intro i hi
    have e : i = 1024 := by omega
    subst e
    exact br_t (by decide) hp
  | succ d ih =>
    intro i hi
    have k := ih (i + 1) (by omega)
    refine pk_le 1024 i (fun z => absurd z (by omega)) (fun _ => pc_yaif hA (by omega) (fun z => ?_) (fun z => ?_))
    · rw [pc_ct_t z] at k
      exact nm_r (nI_1 _) (nm_r (nI_1 _) k)
    · rw [pc_ct_f z] at k
      exact nm_r (nI_1 _) k
theorem pc_yants {post : Int32 → SY → Prop} {E U W G D : Nat → Int32} {e c : Nat → Nat} {o : Nat} (hE : pc_Ar E e) (hU : pc_Up e) (hc : pc_Cl e c) (hp : ∀ U, pc_Ar U c → post (nI (pc_ct (pc_AC c o) 1024)) (nI o, E, U, W, G, D)) : wpY_antichains post (nI o, E, U, W, G, D) :=
  pc_ycl hE hU hc (fun U hA => ⟨1025, pc_yants_l hA (hp U hA) 1024 0 rfl⟩)
theorem pc_yac_l {post : Int32 → SY → Prop} {E U W G D : Nat → Int32} {c : Nat → Nat} {o b : Nat} (hA : pc_Ar U c) (hb : b < 1024) (hS : pc_SW (pc_AC c o) pc_cn 1024 b) (hp : post (nI b) (nI o, E, U, W, G, D)) : ∀ d i, i + d = 1024 → (∀ t, t < i → pc_AC c o t → pc_cn t = pc_cn b → False) → wY_antichain_7 post (nI (pc_cn b)) (nI o) E U W G D (d + 1) (nI i) := by
  intro d
  induction d with
  | zero =>
    intro i hi hn
    have e := pc_SW_e (pc_AC0 c o) hS (by decide) hn (by omega) (Or.inl (by omega))
    omega
  | succ d ih =>
    intro i hi hn
    have h1 := pc_cn_le i
    have h2 := pc_cn_le b
    refine pk_le 1024 i (fun z => absurd z (by omega)) (fun _ => pc_yaif hA (by omega) (fun z => pc_ysize (by omega) (pk_eq (pc_cn i) (pc_cn b) (fun y => ?_) (fun y => ?_))) (fun z => ?_))
    · have e := pc_SW_e (pc_AC0 c o) hS (by decide) hn (by omega) (Or.inr ⟨z, y⟩)
      rw [e]; exact hp
    · refine nm_r (nI_1 _) (ih (i + 1) (by omega) (fun t ht h3 h4 => ?_))
      by_cases q : t = i
      · rw [q] at h4; exact y h4
      · exact hn t (by omega) h3 h4
    · refine nm_r (nI_1 _) (ih (i + 1) (by omega) (fun t ht h3 h4 => ?_))
      by_cases q : t = i
      · rw [q] at h3; exact z h3
      · exact hn t (by omega) h3 h4
theorem pc_yac {post : Int32 → SY → Prop} {E U W G D : Nat → Int32} {e c : Nat → Nat} {o b : Nat} (hE : pc_Ar E e) (hU : pc_Up e) (hc : pc_Cl e c) (hb : b < 1024) (hS : pc_SW (pc_AC c o) pc_cn 1024 b) (hp : ∀ U, post (nI b) (nI o, E, U, W, G, D)) : wpY_antichain post (nI o, E, U, W, G, D) := by
  refine pc_ywidth (o := o) hE hU hc (fun m U _ hA hm => ?_)
  rw [pc_SW_m pc_cn0 hS hm]
  exact ⟨1025, pc_yac_l hA hb hS (hp U) 1024 0 rfl (fun t ht => absurd ht (Nat.not_lt_zero t))⟩
theorem pc_yap_i {post : Int32 → SY → Prop} {J : Int32 → Int32 → Prop} {E U W G D : Nat → Int32} {c : Nat → Nat} {o a : Nat} (hA : pc_Ar U c) (ho : o < 1024) (ha : a < 10) : ∀ d b m, b + d = 10 → J (nI (m + pc_ap1 o c a d)) (nI (a + 1)) → wY_apart_18 post J (nI a) (nI o) E U W G D (d + 1) (nI m) (nI b) := by
  intro d
  induction d with
  | zero =>
    intro b m hb hJ
    have e : b = 10 := by omega
    subst e
    exact br_t (by decide) (nm_r (nI_1 _) hJ)
  | succ d ih =>
    intro b m hb hJ
    refine pk_le 10 b (fun z => absurd z (by omega)) (fun _ => pc_yif rfl rfl ho ha (fun x => pc_yif rfl rfl ho (by omega) (fun y => ⟨pc_in10 ha, pc_yif (pc_ar hA ha) rfl (hA a ha).2 (by omega) (fun z => ?_) (fun z => ?_)⟩) (fun y => ?_)) (fun x => ?_))
    · rw [pc_ap1_f hb (fun t => t.2.2 z)] at hJ
      exact nm_r (nI_1 _) (ih (b + 1) m (by omega) hJ)
    · rw [pc_ap1_t hb ⟨x, y, z⟩] at hJ
      exact nm_r (nI_1 _) (nm_r (nI_1 _) (ih (b + 1) (m + 1) (by omega) hJ))
    · rw [pc_ap1_f hb (fun t => y t.2.1)] at hJ
      exact nm_r (nI_1 _) (ih (b + 1) m (by omega) hJ)
    · rw [pc_ap1_f hb (fun t => x t.1)] at hJ
      exact nm_r (nI_1 _) (ih (b + 1) m (by omega) hJ)
theorem pc_yap_l {post : Int32 → SY → Prop} {E U W G D : Nat → Int32} {c : Nat → Nat} {o : Nat} (hA : pc_Ar U c) (ho : o < 1024) : ∀ d a m, a + d = 10 → post (nI (m + pc_ap2 o c d)) (nI o, E, U, W, G, D) → wY_apart_8 post (nI o) E U W G D (d + 1) (nI m) (nI a) := by
  intro d
  induction d with
  | zero =>
    intro a m ha hp
    have e : a = 10 := by omega
    subst e
    exact br_t (by decide) hp
  | succ d ih =>
    intro a m ha hp
    have e : m + pc_ap2 o c (d + 1) = m + pc_ap1 o c a d + pc_ap2 o c d := by
      have e : 9 - d = a := by omega
      show m + (pc_ap1 o c (9 - d) d + pc_ap2 o c d) = _
      rw [e]; omega
    rw [e] at hp
    exact pk_le 10 a (fun z => absurd z (by omega)) (fun _ => nm_r (nI_1 _) ⟨d + 1, pc_yap_i hA ho (by omega) d (a + 1) m (by omega) (ih (a + 1) _ (by omega) hp)⟩)
theorem pc_yap {post : Int32 → SY → Prop} {E U W G D : Nat → Int32} {e c : Nat → Nat} {o : Nat} (hE : pc_Ar E e) (hU : pc_Up e) (hc : pc_Cl e c) (ho : o < 1024) (hp : ∀ U, post (nI (0 + pc_ap2 o c 10)) (nI o, E, U, W, G, D)) : wpY_apart post (nI o, E, U, W, G, D) :=
  pc_ycl hE hU hc (fun U hA => ⟨11, pc_yap_l hA ho 10 0 0 rfl (hp U)⟩)
