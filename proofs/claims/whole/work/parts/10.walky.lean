/-! the reference's small methods -/
theorem pc_yhas {post : Int32 → Prop} {o p q : Int32} {E U W G D : Nat → Int32} {s v : Nat} (hp : p = nI s) (hq : q = nI v) (hs : s < 1024) (hv : v < 10) (h1 : s.testBit v = true → post 1) (h0 : ¬ s.testBit v = true → post 0) : wpY_has post (o, E, U, W, G, D) p q := by
  subst hp hq
  show (((nI s >>> (nI v &&& 31)) &&& 1) = 1 → post 1) ∧ (¬ ((nI s >>> (nI v &&& 31)) &&& 1) = 1 → post 0)
  rw [pc_bitN hs hv]
  cases e : s.testBit v
  · exact br_f (by decide) (h0 (by rw [e]; decide))
  · exact br_t rfl (h1 e)
theorem pc_yif {P Q : Prop} {o p q : Int32} {E U W G D : Nat → Int32} {s v : Nat} (hp : p = nI s) (hq : q = nI v) (hs : s < 1024) (hv : v < 10) (h1 : s.testBit v = true → Q) (h0 : ¬ s.testBit v = true → P) : wpY_has (fun r => (r = 0 → P) ∧ (¬ r = 0 → Q)) (o, E, U, W, G, D) p q :=
  pc_yhas hp hq hs hv (fun z => br_f (by decide) (h1 z)) (fun z => br_t rfl (h0 z))
theorem pc_ycl_i {post : SY → Prop} {J : Int32 → (Nat → Int32) → (Nat → Int32) → (Nat → Int32) → (Nat → Int32) → (Nat → Int32) → Prop} {o : Int32} {E W G D : Nat → Int32} {e c : Nat → Nat} {j : Nat}
    (hE : pc_Ar E e) (hc : pc_Cl e c) (hj : j < 10) (K : ∀ U : Nat → Int32, (∀ b, j ≤ b → b < 10 → U b = nI (c b)) → J (pc_dn j) E U W G D) :
    ∀ d i U, j < i → i + d = 10 → U j = nI (pc_of (e j) (e j) c i) → (∀ b, j < b → b < 10 → U b = nI (c b)) → wY_close_23 post J (nI j) o (d + 1) (nI i) E U W G D := by
  intro d
  induction d with
  | zero =>
    intro i U hi hd h1 h2
    have e1 : i = 10 := by omega
    subst e1
    refine br_t (by decide) (nm_e (K U (fun b h3 h4 => ?_)))
    by_cases z : b = j
    · subst z; rw [h1, ← (hc b hj).1]
    · exact h2 b (by omega) h4
  | succ d ih =>
    intro i U hi hd h1 h2
    have e1 : pc_of (e j) (e j) c (i + 1) = if (e j).testBit i = true then pc_of (e j) (e j) c i ||| c i else pc_of (e j) (e j) c i := rfl
    have k := fun U' => ih (i + 1) U' (by omega) (by omega)
    rw [e1] at k
    refine pk_le 10 i (fun z => absurd z (by omega)) (fun _ => ⟨pc_in10 hj, pc_yif (pc_ar hE hj) rfl (hE j hj).2 (by omega) (fun z => ?_) (fun z => ?_)⟩)
    · rw [if_pos z] at k
      refine ⟨pc_in10 hj, pc_in10 (by omega), pc_in10 hj, nm_e (nm_r (nI_1 _) (k _ ?_ (fun b h3 h4 => ?_)))⟩
      · rw [nI_clamp (by omega), nI_clamp (by omega), pk_us, h1, h2 i hi (by omega), pc_nor]
      · rw [nI_clamp (by omega), pk_un (by omega)]
        exact h2 b h3 h4
    · rw [if_neg z] at k
      exact nm_r (nI_1 _) (k U h1 h2)
theorem pc_ycl_l {post : SY → Prop} {o : Int32} {E W G D : Nat → Int32} {e c : Nat → Nat} (hE : pc_Ar E e) (hU : pc_Up e) (hc : pc_Cl e c) (hp : ∀ U, pc_Ar U c → post (o, E, U, W, G, D)) :
    ∀ j, j ≤ 10 → ∀ U : Nat → Int32, (∀ b, j ≤ b → b < 10 → U b = nI (c b)) → wY_close_3 post o (j + 1) (pc_dn j) E U W G D := by
  intro j
  induction j with
  | zero =>
    intro _ U hA
    exact br_t pc_dn_0 (hp U (fun a ha => ⟨hA a (Nat.zero_le a) ha, (hc a ha).2⟩))
  | succ j ih =>
    intro hj U hA
    rw [pc_dn_s]
    have h0 : pc_of (e j) (e j) c (j + 1) = e j := pc_of_0 (j + 1) (fun b hb hm => by have := (hU j b (by omega) hm).1; omega)
    refine br_f (pc_dnpos j (by omega)) ⟨pc_in10 (by omega), pc_in10 (by omega), nm_e (nm_r (nI_1 _) ⟨9 - j + 1, pc_ycl_i hE hc (by omega) (fun U' h => ih (by omega) U' h) (9 - j) (j + 1) _ (by omega) (by omega) ?_ (fun b h1 h2 => ?_)⟩)⟩
    · rw [h0, pc_ar hE (by omega), nI_clamp (by omega), pk_us]
    · rw [nI_clamp (by omega), pk_un (by omega)]
      exact hA b (by omega) h2
theorem pc_ycl {post : SY → Prop} {o : Int32} {E U W G D : Nat → Int32} {e c : Nat → Nat} (hE : pc_Ar E e) (hU : pc_Up e) (hc : pc_Cl e c) (hp : ∀ U, pc_Ar U c → post (o, E, U, W, G, D)) : wpY_close post (o, E, U, W, G, D) := by
  have k := pc_ycl_l (post := post) (o := o) (W := W) (G := G) (D := D) hE hU hc hp 10 (Nat.le_refl 10) U (fun b h1 h2 => by omega)
  rw [pc_dn_s] at k
  exact ⟨11, k⟩
theorem pc_yanti_l {post : Int32 → Prop} {E U W G D : Nat → Int32} {c : Nat → Nat} {o s : Nat} (hA : pc_Ar U c) (hs : s < 1024) (hsub : ∀ v, s.testBit v = true → o.testBit v = true) (h1 : pc_AC c o s → post 1) (h0 : ¬ pc_AC c o s → post 0) : ∀ d i, i + d = 10 → (∀ u v, u < i → s.testBit u = true → s.testBit v = true → (c u).testBit v = true → False) → wY_anti_15 post (nI s) (nI o) E U W G D (d + 1) (nI i) := by
  intro d
  induction d with
  | zero =>
    intro i hi hI
    have e : i = 10 := by omega
    subst e
    exact br_t (by decide) (h1 ⟨hsub, fun u v hu hv hc => hI u v (pc_lo hs hu) hu hv hc⟩)
  | succ d ih =>
    intro i hi hI
    refine pk_le 10 i (fun z => absurd z (by omega)) (fun _ => pc_yif rfl rfl hs (by omega) (fun z => ⟨pc_in10 (by omega), ?_⟩) (fun z => ?_))
    · rw [pc_ar hA (show i < 10 by omega)]
      refine pc_c2 hs (fun y => nm_r (nI_1 _) (ih (i + 1) (by omega) (fun u v hu h2 h3 h4 => ?_))) (fun y => h0 (fun t => y (fun v h3 h4 => t.2 i v z h4 h3)))
      by_cases e : u = i
      · rw [e] at h4; exact y v h4 h3
      · exact hI u v (by omega) h2 h3 h4
    · refine nm_r (nI_1 _) (ih (i + 1) (by omega) (fun u v hu h2 h3 h4 => ?_))
      by_cases e : u = i
      · rw [e] at h2; exact z h2
      · exact hI u v (by omega) h2 h3 h4
theorem pc_yanti {post : Int32 → Prop} {E U W G D : Nat → Int32} {c : Nat → Nat} {o s : Nat} (hA : pc_Ar U c) (hs : s < 1024) (h1 : pc_AC c o s → post 1) (h0 : ¬ pc_AC c o s → post 0) : wpY_anti post (nI o, E, U, W, G, D) (nI s) :=
  pc_c1 hs (fun x => ⟨11, pc_yanti_l hA hs x h1 h0 10 0 rfl (fun u _ hu => absurd hu (Nat.not_lt_zero u))⟩) (fun x => h0 (fun z => x z.1))
theorem pc_yaif {P Q : Prop} {E U W G D : Nat → Int32} {c : Nat → Nat} {o s : Nat} (hA : pc_Ar U c) (hs : s < 1024) (h1 : pc_AC c o s → Q) (h0 : ¬ pc_AC c o s → P) : wpY_anti (fun r => (r = 0 → P) ∧ (¬ r = 0 → Q)) (nI o, E, U, W, G, D) (nI s) :=
  pc_yanti hA hs (fun z => br_f (by decide) (h1 z)) (fun z => br_t rfl (h0 z))
theorem pc_ysize_l {post : Int32 → Prop} {o : Int32} {E U W G D : Nat → Int32} {s : Nat} (hs : s < 1024) (hp : post (nI (pc_cn s))) : ∀ d i, i + d = 10 → wY_size_4 post (nI s) o E U W G D (d + 1) (nI (pc_sm s.testBit pc_one i)) (nI i) := by
  intro d
  induction d with
  | zero =>
    intro i hi
    have e : i = 10 := by omega
    subst e
    exact br_t (by decide) hp
  | succ d ih =>
    intro i hi
    have k := ih (i + 1) (by omega)
    rw [pc_sm_s] at k
    refine pk_le 10 i (fun z => absurd z (by omega)) (fun _ => nm_r ?_ (nm_r (nI_1 _) k))
    rw [pc_bitN hs (by omega), nI_add]
    cases e : s.testBit i <;> rfl
theorem pc_ysize {post : Int32 → Prop} {o : Int32} {E U W G D : Nat → Int32} {s : Nat} (hs : s < 1024) (hp : post (nI (pc_cn s))) : wpY_size post (o, E, U, W, G, D) (nI s) :=
  ⟨11, pc_ysize_l hs hp 10 0 rfl⟩
theorem pc_ysum_l {post : Int32 → Prop} {o : Int32} {E U W G D : Nat → Int32} {w : Nat → Nat} {s : Nat} (hW : pc_We W w) (hs : s < 1024) (hp : post (nI (pc_sm s.testBit w 10))) : ∀ d i, i + d = 10 → wY_sum_4 post (nI s) o E U W G D (d + 1) (nI (pc_sm s.testBit w i)) (nI i) := by
  intro d
  induction d with
  | zero =>
    intro i hi
    have e : i = 10 := by omega
    subst e
    exact br_t (by decide) hp
  | succ d ih =>
    intro i hi
    have k := ih (i + 1) (by omega)
    rw [pc_sm_s] at k
    refine pk_le 10 i (fun z => absurd z (by omega)) (fun _ => pc_yif rfl rfl hs (by omega) (fun z => ?_) (fun z => ?_))
    · rw [if_pos z] at k
      exact ⟨pc_in10 (by omega), nm_r (by rw [pc_we hW (by omega), nI_add]) (nm_r (nI_1 _) k)⟩
    · rw [if_neg z] at k
      exact nm_r (nI_1 _) k
theorem pc_ysum {post : Int32 → Prop} {o : Int32} {E U W G D : Nat → Int32} {w : Nat → Nat} {s : Nat} (hW : pc_We W w) (hs : s < 1024) (hp : post (nI (pc_sm s.testBit w 10))) : wpY_sum post (o, E, U, W, G, D) (nI s) :=
  ⟨11, pc_ysum_l hW hs hp 10 0 rfl⟩
/-! row -/
def pc_Sel (x : Int32) (E U : Nat → Int32) (N : Nat → Nat) : Prop := (x = 0 → pc_Ar U N) ∧ (¬ x = 0 → pc_Ar E N)
def pc_RI (s i : Nat) (x : Int32) : Prop := (x = -1 ∧ ∀ w, w < i → s.testBit w = true → False) ∨ ∃ l, x = nI l ∧ l < i ∧ s.testBit l = true ∧ ∀ w, l < w → w < i → s.testBit w = true → False
def pc_RB (N : Nat → Nat) (s i : Nat) : Prop := ∀ u v, u < v → v < i → s.testBit u = true → s.testBit v = true → (∀ w, u < w → w < v → s.testBit w = true → False) → (N u).testBit v = true
theorem pc_yrow_l {post : Int32 → Prop} {o x : Int32} {E U W G D : Nat → Int32} {N : Nat → Nat} {s : Nat} (hN : pc_Sel x E U N) (hs : s < 1024) (h1 : pc_Row N s → post 1) (h0 : ¬ pc_Row N s → post 0) : ∀ d i y, i + d = 10 → pc_RI s i y → pc_RB N s i → wY_row_5 post (nI s) x o E U W G D (d + 1) y (nI i) := by
  intro d
  induction d with
  | zero =>
    intro i y hi _ hB
    have e : i = 10 := by omega
    subst e
    exact br_t (by decide) (h1 (fun u v huv hu hv hg => hB u v huv (pc_lo hs hv) hu hv hg))
  | succ d ih =>
    intro i y hi hI hB
    refine pk_le 10 i (fun z => absurd z (by omega)) (fun _ => pc_yif rfl rfl hs (by omega) (fun z => ?_) (fun z => ?_))
    · have hnew : pc_RI s (i + 1) (nI i) := Or.inr ⟨i, rfl, by omega, z, fun w h2 h3 => by omega⟩
      rcases hI with ⟨rfl, hI⟩ | ⟨l, rfl, hl, hsl, hI⟩
      · refine br_t (by decide) (nm_r (nI_1 _) (ih (i + 1) _ (by omega) hnew (fun u v huv hv h2 h3 h4 => ?_)))
        by_cases e : v = i
        · exact (hI u (by omega) h2).elim
        · exact hB u v huv (by omega) h2 h3 h4
      · have hK : (N l).testBit i = true → wY_row_5 post (nI s) x o E U W G D (d + 1) (nI i) (nI (i + 1)) := by
          intro t
          refine ih (i + 1) _ (by omega) hnew (fun u v huv hv h2 h3 h4 => ?_)
          by_cases e : v = i
          · have e2 : u = l := by
              rcases Nat.lt_trichotomy u l with q | q | q
              · exact (h4 l q (by omega) hsl).elim
              · exact q
              · exact (hI u q (by omega) h2).elim
            rw [e, e2]; exact t
          · exact hB u v huv (by omega) h2 h3 h4
        have hF : ¬ (N l).testBit i = true → post 0 := fun t => h0 (fun hR => t (hR l i (by omega) hsl z (fun w q1 q2 q3 => hI w q1 q2 q3)))
        refine br_f (nI_pos (by omega)) (br_c (fun q => ⟨pc_in10 (by omega), ?_⟩) (fun q => ⟨pc_in10 (by omega), ?_⟩))
        · exact pc_yif (pc_ar (hN.1 q) (by omega)) rfl ((hN.1 q) l (by omega)).2 (by omega) (fun t => nm_r (nI_1 _) (hK t)) hF
        · exact pc_yif (pc_ar (hN.2 q) (by omega)) rfl ((hN.2 q) l (by omega)).2 (by omega) (fun t => nm_r (nI_1 _) (hK t)) hF
    · refine nm_r (nI_1 _) (ih (i + 1) y (by omega) ?_ (fun u v huv hv h2 h3 h4 => ?_))
      · rcases hI with ⟨e, hI⟩ | ⟨l, e, hl, hsl, hI⟩
        · refine Or.inl ⟨e, fun w hw hsw => ?_⟩
          by_cases q : w = i
          · rw [q] at hsw; exact z hsw
          · exact hI w (by omega) hsw
        · refine Or.inr ⟨l, e, by omega, hsl, fun w h2 h3 hsw => ?_⟩
          by_cases q : w = i
          · rw [q] at hsw; exact z hsw
          · exact hI w h2 (by omega) hsw
      · by_cases e : v = i
        · rw [e] at h3; exact absurd h3 z
        · exact hB u v huv (by omega) h2 h3 h4
theorem pc_yrow {post : Int32 → Prop} {o x : Int32} {E U W G D : Nat → Int32} {N : Nat → Nat} {s : Nat} (hN : pc_Sel x E U N) (hs : s < 1024) (h1 : pc_Row N s → post 1) (h0 : ¬ pc_Row N s → post 0) : wpY_row post (o, E, U, W, G, D) (nI s) x :=
  ⟨11, pc_yrow_l hN hs h1 h0 10 0 _ rfl (Or.inl ⟨rfl, fun w hw => absurd hw (Nat.not_lt_zero w)⟩) (fun u v _ hv => absurd hv (Nat.not_lt_zero v))⟩
theorem pc_ychain {P Q : Prop} {E U W G D : Nat → Int32} {c : Nat → Nat} {o s : Nat} (hA : pc_Ar U c) (hs : s < 1024) (h1 : pc_Ch c o s → Q) (h0 : ¬ pc_Ch c o s → P) : wpY_chain (fun r => (r = 0 → P) ∧ (¬ r = 0 → Q)) (nI o, E, U, W, G, D) (nI s) := by
  have hN : pc_Sel 0 E U c := ⟨fun _ => hA, fun z => absurd rfl z⟩
  exact pc_c1 hs (fun x => pc_yrow hN hs (fun z => br_f (by decide) (br_f (by decide) (h1 ⟨x, z⟩))) (fun z => br_t rfl (br_t rfl (h0 (fun y => z y.2))))) (fun x => br_t rfl (h0 (fun y => x y.1)))
