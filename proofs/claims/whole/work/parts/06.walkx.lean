/-! the component's small methods, each with a general post -/
def pc_Ar (E : Nat → Int32) (e : Nat → Nat) : Prop := ∀ a, a < 10 → E a = nI (e a) ∧ e a < 1024
def pc_We (W : Nat → Int32) (w : Nat → Nat) : Prop := ∀ a, a < 10 → W a = nI (w a) ∧ w a ≤ 9
theorem pc_ar {E : Nat → Int32} {e : Nat → Nat} (h : pc_Ar E e) {a : Nat} (ha : a < 10) : E (nI a).toNatClampNeg = nI (e a) := by
  rw [nI_clamp (by omega)]; exact (h a ha).1
theorem pc_we {W : Nat → Int32} {w : Nat → Nat} (h : pc_We W w) {a : Nat} (ha : a < 10) : W (nI a).toNatClampNeg = nI (w a) := by
  rw [nI_clamp (by omega)]; exact (h a ha).1
theorem pc_in10 {a : Nat} (ha : a < 10) : vp_in (nI a) 10 := vp_in_nI ha (by decide)
theorem pc_inS {a : Nat} (ha : a < 1024) : vp_in (nI a) 1024 := vp_in_nI ha (by decide)
theorem pc_xhas {post : Int32 → Prop} {p q : Int32} {s v : Nat} (hp : p = nI s) (hq : q = nI v) (hs : s < 1024) (hv : v < 10) (h1 : s.testBit v = true → post 1) (h0 : ¬ s.testBit v = true → post 0) : wpX_has post p q := by
  subst hp hq
  show (((nI s >>> (nI v &&& 31)) &&& 1) = 0 → post 0) ∧ (¬ ((nI s >>> (nI v &&& 31)) &&& 1) = 0 → post 1)
  rw [pc_bitN hs hv]
  cases e : s.testBit v
  · exact br_t nI_0 (h0 (by rw [e]; decide))
  · exact br_f (by decide) (h1 e)
theorem pc_xif {A B : Prop} {p q : Int32} {s v : Nat} (hp : p = nI s) (hq : q = nI v) (hs : s < 1024) (hv : v < 10) (h1 : s.testBit v = true → B) (h0 : ¬ s.testBit v = true → A) : wpX_has (fun r => (r = 0 → A) ∧ (¬ r = 0 → B)) p q :=
  pc_xhas hp hq hs hv (fun z => br_f (by decide) (h1 z)) (fun z => br_t rfl (h0 z))
theorem pc_xcount_l {post : Int32 → Prop} {s : Nat} (hs : s < 1024) (hp : post (nI (pc_cn s))) : ∀ d i, i + d = 10 → wX_count_4 post (nI s) (d + 1) (nI (pc_sm s.testBit pc_one i)) (nI i) := by
  intro d
  induction d with
  | zero =>
    intro i hi
    have e : i = 10 := by omega
    subst e
    exact br_t (by decide) hp
  | succ d ih =>
    intro i hi
    have k := ih (i + 1) (by omega)
    rw [pc_sm_s] at k
    refine pk_le 10 i (fun z => absurd z (by omega)) (fun _ => pc_xif rfl rfl hs (by omega) (fun z => ?_) (fun z => ?_))
    · rw [if_pos z] at k
      exact nm_r (nI_1 _) (nm_r (nI_1 _) k)
    · rw [if_neg z] at k
      exact nm_r (nI_1 _) k
theorem pc_xcount {post : Int32 → Prop} {p : Int32} {s : Nat} (hp : p = nI s) (hs : s < 1024) (h : post (nI (pc_cn s))) : wpX_count post p := by
  subst hp
  exact ⟨11, pc_xcount_l hs h 10 0 rfl⟩
theorem pc_xweight_l {post : Int32 → Prop} {o : Int32} {E A W R B : Nat → Int32} {w : Nat → Nat} {s : Nat} (hW : pc_We W w) (hs : s < 1024) (hp : post (nI (pc_sm s.testBit w 10))) : ∀ d i, i + d = 10 → wX_weightOf_4 post (nI s) o E A W R B (d + 1) (nI (pc_sm s.testBit w i)) (nI i) := by
  intro d
  induction d with
  | zero =>
    intro i hi
    have e : i = 10 := by omega
    subst e
    exact br_t (by decide) hp
  | succ d ih =>
    intro i hi
    have k := ih (i + 1) (by omega)
    rw [pc_sm_s] at k
    refine pk_le 10 i (fun z => absurd z (by omega)) (fun _ => pc_xif rfl rfl hs (by omega) (fun z => ?_) (fun z => ?_))
    · rw [if_pos z] at k
      exact ⟨pc_in10 (by omega), nm_r (by rw [pc_we hW (by omega), nI_add]) (nm_r (nI_1 _) k)⟩
    · rw [if_neg z] at k
      exact nm_r (nI_1 _) k
theorem pc_xweight {post : Int32 → Prop} {o : Int32} {E A W R B : Nat → Int32} {w : Nat → Nat} {s : Nat} (hW : pc_We W w) (hs : s < 1024) (hp : post (nI (pc_sm s.testBit w 10))) : wpX_weightOf post (o, E, A, W, R, B) (nI s) :=
  ⟨11, pc_xweight_l hW hs hp 10 0 rfl⟩
theorem pc_c1 {A B : Prop} {s o : Nat} (hs : s < 1024) (f : (∀ v, s.testBit v = true → o.testBit v = true) → A) (g : ¬ (∀ v, s.testBit v = true → o.testBit v = true) → B) : ((nI s &&& (nI o ^^^ (-1))) = 0 → A) ∧ (¬ (nI s &&& (nI o ^^^ (-1))) = 0 → B) := by
  have h := pc_dflt o hs
  rw [pc_nnot, pc_eq0 (by omega), pc_df0]
  exact ⟨f, g⟩
theorem pc_c2 {A B : Prop} {s t : Nat} (ht : t < 1024) (f : (∀ v, s.testBit v = true → t.testBit v = true → False) → A) (g : ¬ (∀ v, s.testBit v = true → t.testBit v = true → False) → B) : ((nI s &&& nI t) = 0 → A) ∧ (¬ (nI s &&& nI t) = 0 → B) := by
  have h := pc_andlt s ht
  rw [nx_and, pc_eq0 (by omega), pc_and0]
  exact ⟨f, g⟩
theorem pc_xanti_l {post : Int32 → Prop} {E A W R B : Nat → Int32} {c : Nat → Nat} {o s : Nat} (hA : pc_Ar A c) (hs : s < 1024) (h1 : pc_AC c o s → post 1) (h0 : ¬ pc_AC c o s → post 0) : ∀ d i, i + d = 10 → wX_isAntichain_4 post (nI s) (nI o) E A W R B (d + 1) (nI (pc_of 0 s c i)) (nI i) := by
  intro d
  induction d with
  | zero =>
    intro i hi
    have e : i = 10 := by omega
    subst e
    have hl : pc_of 0 s c 10 < 1024 := pc_of_lt (by decide) (fun b hb _ => (hA b hb).2)
    refine br_t (by decide) (pc_c1 hs (fun x => pc_c2 hl (fun y => h1 ⟨x, fun u v hu hv hc => y v hv ((pc_of_t 10 v).mpr (Or.inr ⟨u, pc_lo hs hu, hu, hc⟩))⟩) (fun y => h0 (fun z => y (fun v hv ht => ?_)))) (fun x => h0 (fun z => x z.1)))
    rcases (pc_of_t 10 v).mp ht with t | ⟨b, _, t1, t2⟩
    · exact pc_n0 v t
    · exact z.2 b v t1 hv t2
  | succ d ih =>
    intro i hi
    have k := ih (i + 1) (by omega)
    have e : pc_of 0 s c (i + 1) = if s.testBit i = true then pc_of 0 s c i ||| c i else pc_of 0 s c i := rfl
    rw [e] at k
    refine pk_le 10 i (fun z => absurd z (by omega)) (fun _ => pc_xif rfl rfl hs (by omega) (fun z => ?_) (fun z => ?_))
    · rw [if_pos z] at k
      exact ⟨pc_in10 (by omega), nm_r (by rw [pc_ar hA (by omega), pc_nor]) (nm_r (nI_1 _) k)⟩
    · rw [if_neg z] at k
      exact nm_r (nI_1 _) k
theorem pc_xanti {post : Int32 → Prop} {E A W R B : Nat → Int32} {c : Nat → Nat} {o s : Nat} (hA : pc_Ar A c) (hs : s < 1024) (h1 : pc_AC c o s → post 1) (h0 : ¬ pc_AC c o s → post 0) : wpX_isAntichain post (nI o, E, A, W, R, B) (nI s) :=
  ⟨11, pc_xanti_l hA hs h1 h0 10 0 rfl⟩
theorem pc_xaif {P Q : Prop} {E A W R B : Nat → Int32} {c : Nat → Nat} {o s : Nat} (hA : pc_Ar A c) (hs : s < 1024) (h1 : pc_AC c o s → Q) (h0 : ¬ pc_AC c o s → P) : wpX_isAntichain (fun r => (r = 0 → P) ∧ (¬ r = 0 → Q)) (nI o, E, A, W, R, B) (nI s) :=
  pc_xanti hA hs (fun z => br_f (by decide) (h1 z)) (fun z => br_t rfl (h0 z))
theorem pc_xsw_l {post : Int32 → Prop} {E A W R B : Nat → Int32} {c : Nat → Nat} {o : Nat} (hA : pc_Ar A c) (hp : ∀ b, b < 1024 → pc_SW (pc_AC c o) pc_cn 1024 b → post (nI b)) : ∀ d i b, i + d = 1024 → b < 1024 → pc_SW (pc_AC c o) pc_cn i b → wX_smallestWidest_6 post (nI o) E A W R B (d + 1) (nI b) (nI (pc_cn b)) (nI i) := by
  intro d
  induction d with
  | zero =>
    intro i b hi hb hS
    have e : i = 1024 := by omega
    subst e
    exact br_t (by decide) (hp b hb hS)
  | succ d ih =>
    intro i b hi hb hS
    refine pk_le 1024 i (fun z => absurd z (by omega)) (fun _ => pc_xaif hA (by omega) (fun z => pc_xcount rfl (by omega) ?_) (fun z => ?_))
    · have c1 := pc_cn_le i
      have c2 := pc_cn_le b
      exact pk_le (pc_cn i) (pc_cn b) (fun y => nm_r (nI_1 _) (ih (i + 1) b (by omega) hb (pc_SW_n hS (fun _ => y)))) (fun y => nm_r (nI_1 _) (ih (i + 1) i (by omega) (by omega) (pc_SW_t hS z y)))
    · exact nm_r (nI_1 _) (ih (i + 1) b (by omega) hb (pc_SW_n hS (fun y => absurd y z)))
theorem pc_cn0 : pc_cn 0 = 0 := pc_sm_0 pc_one
theorem pc_xsw {post : Int32 → Prop} {E A W R B : Nat → Int32} {c : Nat → Nat} {o : Nat} (hA : pc_Ar A c) (hp : ∀ b, b < 1024 → pc_SW (pc_AC c o) pc_cn 1024 b → post (nI b)) : wpX_smallestWidest post (nI o, E, A, W, R, B) := by
  have k := pc_xsw_l (E := E) (W := W) (R := R) (B := B) hA hp 1024 0 0 rfl (by decide) (pc_SW0 _ _)
  rw [pc_cn0] at k
  exact ⟨1025, k⟩
theorem pc_sm90 {w : Nat → Nat} (hw : ∀ v, v < 10 → w v ≤ 9) (p : Nat → Bool) : pc_sm p w 10 ≤ 90 := pc_sm_le (c := 9) 10 hw
theorem pc_xheavy_l {post : Int32 → Prop} {E A W R B : Nat → Int32} {c w : Nat → Nat} {o : Nat} (hA : pc_Ar A c) (hW : pc_We W w) (hp : ∀ m, pc_Mx (pc_AC c o) (fun s => pc_sm s.testBit w 10) 1024 m → post (nI m)) : ∀ d i m, i + d = 1024 → pc_Mx (pc_AC c o) (fun s => pc_sm s.testBit w 10) i m → wX_heaviest_4 post (nI o) E A W R B (d + 1) (nI m) (nI i) := by
  intro d
  induction d with
  | zero =>
    intro i m hi hS
    have e : i = 1024 := by omega
    subst e
    exact br_t (by decide) (hp m hS)
  | succ d ih =>
    intro i m hi hS
    have hw : ∀ p, pc_sm p w 10 ≤ 90 := pc_sm90 (fun v hv => (hW v hv).2)
    have hm : m ≤ 90 := pc_Mx_b hS (fun s _ => hw _)
    have hi2 := hw i.testBit
    refine pk_le 1024 i (fun z => absurd z (by omega)) (fun _ => pc_xaif hA (by omega) (fun z => pc_xweight hW (by omega) ?_) (fun z => ?_))
    · exact pk_le (pc_sm i.testBit w 10) m (fun y => nm_r (nI_1 _) (ih (i + 1) m (by omega) (pc_Mx_n hS (fun _ => y)))) (fun y => nm_r (nI_1 _) (ih (i + 1) _ (by omega) (pc_Mx_t hS z y)))
    · exact nm_r (nI_1 _) (ih (i + 1) m (by omega) (pc_Mx_n hS (fun y => absurd y z)))
theorem pc_xheavy {post : Int32 → Prop} {E A W R B : Nat → Int32} {c w : Nat → Nat} {o : Nat} (hA : pc_Ar A c) (hW : pc_We W w) (hp : ∀ m, pc_Mx (pc_AC c o) (fun s => pc_sm s.testBit w 10) 1024 m → post (nI m)) : wpX_heaviest post (nI o, E, A, W, R, B) :=
  ⟨1025, pc_xheavy_l hA hW hp 1024 0 0 rfl (pc_Mx0 _ _)⟩
theorem pc_xants_l {post : Int32 → Prop} {E A W R B : Nat → Int32} {c : Nat → Nat} {o : Nat} (hA : pc_Ar A c) (hp : post (nI (pc_ct (pc_AC c o) 1024))) : ∀ d i, i + d = 1024 → wX_antichains_4 post (nI o) E A W R B (d + 1) (nI (pc_ct (pc_AC c o) i)) (nI i) := by
  intro d
  induction d with
  | zero =>
    intro i hi
    have e : i = 1024 := by omega
    subst e
    exact br_t (by decide) hp
  | succ d ih =>
    intro i hi
    have k := ih (i + 1) (by omega)
    refine pk_le 1024 i (fun z => absurd z (by omega)) (fun _ => pc_xaif hA (by omega) (fun z => ?_) (fun z => ?_))
    · rw [pc_ct_t z] at k
      exact nm_r (nI_1 _) (nm_r (nI_1 _) k)
    · rw [pc_ct_f z] at k
      exact nm_r (nI_1 _) k
theorem pc_xants {post : Int32 → Prop} {E A W R B : Nat → Int32} {c : Nat → Nat} {o : Nat} (hA : pc_Ar A c) (hp : post (nI (pc_ct (pc_AC c o) 1024))) : wpX_antichains post (nI o, E, A, W, R, B) :=
  ⟨1025, pc_xants_l hA hp 1024 0 rfl⟩
/-! pairs that are apart: the last d second ones, the last d first ones -/
def pc_ap0 (o : Nat) (c : Nat → Nat) (a b : Nat) : Nat := if o.testBit a = true ∧ o.testBit b = true ∧ ¬ (c a).testBit b = true then 1 else 0
def pc_ap1 (o : Nat) (c : Nat → Nat) (a : Nat) : Nat → Nat
  | 0 => 0
  | d + 1 => pc_ap0 o c a (9 - d) + pc_ap1 o c a d
def pc_ap2 (o : Nat) (c : Nat → Nat) : Nat → Nat
  | 0 => 0
  | d + 1 => pc_ap1 o c (9 - d) d + pc_ap2 o c d
theorem pc_ap1_t {o : Nat} {c : Nat → Nat} {a b d m : Nat} (hb : b + (d + 1) = 10) (h : o.testBit a = true ∧ o.testBit b = true ∧ ¬ (c a).testBit b = true) : m + pc_ap1 o c a (d + 1) = m + 1 + pc_ap1 o c a d := by
  have e : 9 - d = b := by omega
  show m + (pc_ap0 o c a (9 - d) + pc_ap1 o c a d) = _
  rw [e, pc_ap0, if_pos h]
  omega
theorem pc_ap1_f {o : Nat} {c : Nat → Nat} {a b d m : Nat} (hb : b + (d + 1) = 10) (h : ¬ (o.testBit a = true ∧ o.testBit b = true ∧ ¬ (c a).testBit b = true)) : m + pc_ap1 o c a (d + 1) = m + pc_ap1 o c a d := by
  have e : 9 - d = b := by omega
  show m + (pc_ap0 o c a (9 - d) + pc_ap1 o c a d) = _
  rw [e, pc_ap0, if_neg h]
  omega
theorem pc_xap_i {post : Int32 → Prop} {J : Int32 → Int32 → Prop} {E A W R B : Nat → Int32} {c : Nat → Nat} {o a : Nat} (hA : pc_Ar A c) (ho : o < 1024) (ha : a < 10) : ∀ d b m, b + d = 10 → J (nI (m + pc_ap1 o c a d)) (nI (a + 1)) → wX_apart_14 post J (nI a) (nI o) E A W R B (d + 1) (nI m) (nI b) := by
  intro d
  induction d with
  | zero =>
    intro b m hb hJ
    have e : b = 10 := by omega
    subst e
    exact br_t (by decide) (nm_r (nI_1 _) hJ)
  | succ d ih =>
    intro b m hb hJ
    refine pk_le 10 b (fun z => absurd z (by omega)) (fun _ => pc_xif rfl rfl ho ha (fun x => pc_xif rfl rfl ho (by omega) (fun y => ⟨pc_in10 ha, pc_xif (pc_ar hA ha) rfl (hA a ha).2 (by omega) (fun z => ?_) (fun z => ?_)⟩) (fun y => ?_)) (fun x => ?_))
    · rw [pc_ap1_f hb (fun t => t.2.2 z)] at hJ
      exact nm_r (nI_1 _) (ih (b + 1) m (by omega) hJ)
    · rw [pc_ap1_t hb ⟨x, y, z⟩] at hJ
      exact nm_r (nI_1 _) (nm_r (nI_1 _) (ih (b + 1) (m + 1) (by omega) hJ))
    · rw [pc_ap1_f hb (fun t => y t.2.1)] at hJ
      exact nm_r (nI_1 _) (ih (b + 1) m (by omega) hJ)
    · rw [pc_ap1_f hb (fun t => x t.1)] at hJ
      exact nm_r (nI_1 _) (ih (b + 1) m (by omega) hJ)
theorem pc_xap_l {post : Int32 → Prop} {E A W R B : Nat → Int32} {c : Nat → Nat} {o : Nat} (hA : pc_Ar A c) (ho : o < 1024) : ∀ d a m, a + d = 10 → post (nI (m + pc_ap2 o c d)) → wX_apart_4 post (nI o) E A W R B (d + 1) (nI m) (nI a) := by
  intro d
  induction d with
  | zero =>
    intro a m ha hp
    have e : a = 10 := by omega
    subst e
    exact br_t (by decide) hp
  | succ d ih =>
    intro a m ha hp
    have e : m + pc_ap2 o c (d + 1) = m + pc_ap1 o c a d + pc_ap2 o c d := by
      have e : 9 - d = a := by omega
      show m + (pc_ap1 o c (9 - d) d + pc_ap2 o c d) = _
      rw [e]; omega
    rw [e] at hp
    exact pk_le 10 a (fun z => absurd z (by omega)) (fun _ => nm_r (nI_1 _) ⟨d + 1, pc_xap_i hA ho (by omega) d (a + 1) m (by omega) (ih (a + 1) _ (by omega) hp)⟩)
theorem pc_xap {post : Int32 → Prop} {E A W R B : Nat → Int32} {c : Nat → Nat} {o : Nat} (hA : pc_Ar A c) (ho : o < 1024) (hp : post (nI (0 + pc_ap2 o c 10))) : wpX_apart post (nI o, E, A, W, R, B) :=
  ⟨11, pc_xap_l hA ho 10 0 0 rfl hp⟩
