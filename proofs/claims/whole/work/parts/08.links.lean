/-! mostLinks over aboveOf -/
theorem pc_xmlA_c {post : Int32 → SX → Prop} {o : Int32} {E A W R B : Nat → Int32} {C : Nat → Prop} (hR : pc_Bl R C) (hp : ∀ m, m ≤ 10 → pc_Mx C pc_cn 1024 m → post (nI m) (o, E, A, W, R, B)) : ∀ d i m, i + d = 1024 → pc_Mx C pc_cn i m → wX_mostLinks__aboveOf_70 post o E A W R B (d + 1) (nI m) (nI i) := by
  intro d
  induction d with
  | zero =>
    intro i m hi hm
    have e : i = 1024 := by omega
    subst e
    exact br_t (by decide) (hp m (pc_Mx_b hm (fun s _ => pc_cn_le s)) hm)
  | succ d ih =>
    intro i m hi hm
    have h1 := pc_Mx_b hm (fun s _ => pc_cn_le s)
    have h2 := pc_cn_le i
    refine pk_le 1024 i (fun z => absurd z (by omega)) (fun _ => ⟨pc_inS (by omega), pc_Bl_t hR (by omega) (fun z => pc_xcount rfl (by omega) ?_) (fun z => ?_)⟩)
    · exact pk_le (pc_cn i) m (fun y => nm_r (nI_1 _) (ih (i + 1) m (by omega) (pc_Mx_n hm (fun _ => y)))) (fun y => nm_r (nI_1 _) (ih (i + 1) _ (by omega) (pc_Mx_t hm z y)))
    · exact nm_r (nI_1 _) (ih (i + 1) m (by omega) (pc_Mx_n hm (fun y => absurd y z)))
theorem pc_xmlA_b {post : Int32 → SX → Prop} {E A W B : Nat → Int32} {N : Nat → Nat} {o : Nat} (hN : pc_Ar A N) (ho : o < 1024) (hp : ∀ m R, m ≤ 10 → pc_Mx (pc_RS N o 10) pc_cn 1024 m → post (nI m) (nI o, E, A, W, R, B)) : ∀ d i R, i + d = 10 → pc_Bl R (pc_RS N o i) → wX_mostLinks__aboveOf_31 post (d + 1) (nI i) (nI o) E A W R B := by
  intro d
  induction d with
  | zero =>
    intro i R hi hR
    have e : i = 10 := by omega
    subst e
    exact br_t (by decide) ⟨1025, pc_xmlA_c hR (fun m h1 h2 => hp m R h1 h2) 1024 0 0 rfl (pc_Mx0 _ _)⟩
  | succ d ih =>
    intro i R hi hR
    refine pk_le 10 i (fun z => absurd z (by omega)) (fun _ => pc_xif rfl rfl ho (by omega) (fun z => ⟨pc_in10 (by omega), pc_xlf (ch := N i &&& o) (by rw [pc_ar hN (by omega), nx_and]) (pc_andlt _ ho) hR (fun R' hR' => ?_)⟩) (fun z => ?_))
    · refine nm_r (nI_1 _) (ih (i + 1) R' (by omega) (pc_Bl_c hR' (fun T _ => ?_)))
      constructor
      · rintro (t | ⟨_, b, T', t1, t2, t3, t4⟩)
        · exact Or.inl t
        · exact Or.inr ⟨T', b, Nat.zero_le _, pc_RS_lt ho i T' t3, t3, t1, t2, t4⟩
      · rintro (t | ⟨s, b, t1, t2, t3, t4, t5, t6⟩)
        · exact Or.inl t
        · exact Or.inr ⟨z, b, s, t4, t5, t3, t6⟩
    · refine nm_r (nI_1 _) (ih (i + 1) R (by omega) (pc_Bl_c hR (fun T _ => ?_)))
      exact ⟨fun t => t.elim id (fun y => absurd y.1 z), Or.inl⟩
theorem pc_xmlA_a {post : Int32 → SX → Prop} {E A W B : Nat → Int32} {N : Nat → Nat} {o : Nat} (hN : pc_Ar A N) (ho : o < 1024) (hp : ∀ m R, m ≤ 10 → pc_Mx (pc_RS N o 10) pc_cn 1024 m → post (nI m) (nI o, E, A, W, R, B)) : ∀ d i R, 0 < i → i + d = 1024 → (∀ s, s < i → (s = 0 → R s = 1) ∧ (¬ s = 0 → R s = 0)) → wX_mostLinks__aboveOf_9 post (nI o) (d + 1) (nI i) E A W R B := by
  intro d
  induction d with
  | zero =>
    intro i R h0 hi hR
    have e : i = 1024 := by omega
    subst e
    exact br_t (by decide) ⟨11, pc_xmlA_b hN ho hp 10 0 R rfl (fun s hs => hR s hs)⟩
  | succ d ih =>
    intro i R h0 hi hR
    refine pk_le 1024 i (fun z => absurd z (by omega)) (fun _ => ⟨pc_inS (by omega), nm_e (nm_r (nI_1 _) (ih (i + 1) _ (by omega) (by omega) (fun s hs => ?_)))⟩)
    rw [nI_clamp (by omega), pc_n00]
    by_cases e : s = i
    · rw [e, pk_us]
      exact ⟨fun z => absurd z (by omega), fun _ => rfl⟩
    · rw [pk_un e]
      exact hR s (by omega)
theorem pc_xmlA {post : Int32 → SX → Prop} {E A W R B : Nat → Int32} {N : Nat → Nat} {o : Nat} (hN : pc_Ar A N) (ho : o < 1024) (hp : ∀ m R, m ≤ 10 → pc_Mx (pc_RS N o 10) pc_cn 1024 m → post (nI m) (nI o, E, A, W, R, B)) : wpX_mostLinks__aboveOf post (nI o, E, A, W, R, B) := by
  refine nm_e ⟨1024, pc_xmlA_a hN ho hp 1023 1 _ (by decide) rfl (fun s hs => ?_)⟩
  have e : s = 0 := by omega
  subst e
  rw [pk_us]
  exact ⟨fun _ => rfl, fun z => absurd rfl z⟩
theorem pc_xlcA {post : Int32 → SX → Prop} {E A W R B : Nat → Int32} {N : Nat → Nat} {o : Nat} (hN : pc_Ar A N) (ho : o < 1024) (hp : ∀ m R, m ≤ 10 → pc_Mx (pc_RS N o 10) pc_cn 1024 m → post (nI (pc_cn o) - nI m) (nI o, E, A, W, R, B)) : wpX_leastCover__aboveOf post (nI o, E, A, W, R, B) :=
  pc_xcount rfl ho (pc_xmlA hN ho hp)
/-! mostLinks over edgesFrom -/
theorem pc_xmlE_c {post : Int32 → SX → Prop} {o : Int32} {E A W R B : Nat → Int32} {C : Nat → Prop} (hR : pc_Bl R C) (hp : ∀ m, m ≤ 10 → pc_Mx C pc_cn 1024 m → post (nI m) (o, E, A, W, R, B)) : ∀ d i m, i + d = 1024 → pc_Mx C pc_cn i m → wX_mostLinks__edgesFrom_70 post o E A W R B (d + 1) (nI m) (nI i) := by
  intro d
  induction d with
  | zero =>
    intro i m hi hm
    have e : i = 1024 := by omega
    subst e
    exact br_t (by decide) (hp m (pc_Mx_b hm (fun s _ => pc_cn_le s)) hm)
  | succ d ih =>
    intro i m hi hm
    have h1 := pc_Mx_b hm (fun s _ => pc_cn_le s)
    have h2 := pc_cn_le i
    refine pk_le 1024 i (fun z => absurd z (by omega)) (fun _ => ⟨pc_inS (by omega), pc_Bl_t hR (by omega) (fun z => pc_xcount rfl (by omega) ?_) (fun z => ?_)⟩)
    · exact pk_le (pc_cn i) m (fun y => nm_r (nI_1 _) (ih (i + 1) m (by omega) (pc_Mx_n hm (fun _ => y)))) (fun y => nm_r (nI_1 _) (ih (i + 1) _ (by omega) (pc_Mx_t hm z y)))
    · exact nm_r (nI_1 _) (ih (i + 1) m (by omega) (pc_Mx_n hm (fun y => absurd y z)))
theorem pc_xmlE_b {post : Int32 → SX → Prop} {E A W B : Nat → Int32} {N : Nat → Nat} {o : Nat} (hN : pc_Ar E N) (ho : o < 1024) (hp : ∀ m R, m ≤ 10 → pc_Mx (pc_RS N o 10) pc_cn 1024 m → post (nI m) (nI o, E, A, W, R, B)) : ∀ d i R, i + d = 10 → pc_Bl R (pc_RS N o i) → wX_mostLinks__edgesFrom_31 post (d + 1) (nI i) (nI o) E A W R B := by
  intro d
  induction d with
  | zero =>
    intro i R hi hR
    have e : i = 10 := by omega
    subst e
    exact br_t (by decide) ⟨1025, pc_xmlE_c hR (fun m h1 h2 => hp m R h1 h2) 1024 0 0 rfl (pc_Mx0 _ _)⟩
  | succ d ih =>
    intro i R hi hR
    refine pk_le 10 i (fun z => absurd z (by omega)) (fun _ => pc_xif rfl rfl ho (by omega) (fun z => ⟨pc_in10 (by omega), pc_xlf (ch := N i &&& o) (by rw [pc_ar hN (by omega), nx_and]) (pc_andlt _ ho) hR (fun R' hR' => ?_)⟩) (fun z => ?_))
    · refine nm_r (nI_1 _) (ih (i + 1) R' (by omega) (pc_Bl_c hR' (fun T _ => ?_)))
      constructor
      · rintro (t | ⟨_, b, T', t1, t2, t3, t4⟩)
        · exact Or.inl t
        · exact Or.inr ⟨T', b, Nat.zero_le _, pc_RS_lt ho i T' t3, t3, t1, t2, t4⟩
      · rintro (t | ⟨s, b, t1, t2, t3, t4, t5, t6⟩)
        · exact Or.inl t
        · exact Or.inr ⟨z, b, s, t4, t5, t3, t6⟩
    · refine nm_r (nI_1 _) (ih (i + 1) R (by omega) (pc_Bl_c hR (fun T _ => ?_)))
      exact ⟨fun t => t.elim id (fun y => absurd y.1 z), Or.inl⟩
theorem pc_xmlE_a {post : Int32 → SX → Prop} {E A W B : Nat → Int32} {N : Nat → Nat} {o : Nat} (hN : pc_Ar E N) (ho : o < 1024) (hp : ∀ m R, m ≤ 10 → pc_Mx (pc_RS N o 10) pc_cn 1024 m → post (nI m) (nI o, E, A, W, R, B)) : ∀ d i R, 0 < i → i + d = 1024 → (∀ s, s < i → (s = 0 → R s = 1) ∧ (¬ s = 0 → R s = 0)) → wX_mostLinks__edgesFrom_9 post (nI o) (d + 1) (nI i) E A W R B := by
  intro d
  induction d with
  | zero =>
    intro i R h0 hi hR
    have e : i = 1024 := by omega
    subst e
    exact br_t (by decide) ⟨11, pc_xmlE_b hN ho hp 10 0 R rfl (fun s hs => hR s hs)⟩
  | succ d ih =>
    intro i R h0 hi hR
    refine pk_le 1024 i (fun z => absurd z (by omega)) (fun _ => ⟨pc_inS (by omega), nm_e (nm_r (nI_1 _) (ih (i + 1) _ (by omega) (by omega) (fun s hs => ?_)))⟩)
    rw [nI_clamp (by omega), pc_n00]
    by_cases e : s = i
    · rw [e, pk_us]
      exact ⟨fun z => absurd z (by omega), fun _ => rfl⟩
    · rw [pk_un e]
      exact hR s (by omega)
theorem pc_xmlE {post : Int32 → SX → Prop} {E A W R B : Nat → Int32} {N : Nat → Nat} {o : Nat} (hN : pc_Ar E N) (ho : o < 1024) (hp : ∀ m R, m ≤ 10 → pc_Mx (pc_RS N o 10) pc_cn 1024 m → post (nI m) (nI o, E, A, W, R, B)) : wpX_mostLinks__edgesFrom post (nI o, E, A, W, R, B) := by
  refine nm_e ⟨1024, pc_xmlE_a hN ho hp 1023 1 _ (by decide) rfl (fun s hs => ?_)⟩
  have e : s = 0 := by omega
  subst e
  rw [pk_us]
  exact ⟨fun _ => rfl, fun z => absurd rfl z⟩
theorem pc_xlcE {post : Int32 → SX → Prop} {E A W R B : Nat → Int32} {N : Nat → Nat} {o : Nat} (hN : pc_Ar E N) (ho : o < 1024) (hp : ∀ m R, m ≤ 10 → pc_Mx (pc_RS N o 10) pc_cn 1024 m → post (nI (pc_cn o) - nI m) (nI o, E, A, W, R, B)) : wpX_leastCover__edgesFrom post (nI o, E, A, W, R, B) :=
  pc_xcount rfl ho (pc_xmlE hN ho hp)
