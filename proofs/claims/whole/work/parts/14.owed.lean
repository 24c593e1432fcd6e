/-! the calls that change something -/
theorem pc_xwith {post : Int32 → Prop} {p q z : Int32} {s b : Nat} (hp : p = nI s) (hq : q = nI b) (hb : b < 10) (h0 : z = 0 → post (nI (pc_df s (2 ^ b)))) (h1 : ¬ z = 0 → post (nI (s ||| 2 ^ b))) : wpX_with post p q z := by
  subst hp hq
  refine nm_r (pc_shl b hb) (br_c (fun t => ?_) (fun t => ?_))
  · rw [pc_nnot]; exact h0 t
  · rw [pc_nor]; exact h1 t
def pc_put (z : Int32) (s b : Nat) : Nat := if z = 0 then pc_df s (2 ^ b) else s ||| 2 ^ b
theorem pc_put_lt {z : Int32} {s b : Nat} (hs : s < 1024) (hb : b < 10) : pc_put z s b < 1024 := by
  unfold pc_put
  split
  · exact pc_dflt _ hs
  · exact pc_ilt hs hb
theorem pc_put_i {z : Int32} {s b v : Nat} (h : (pc_put z s b).testBit v = true) : s.testBit v = true ∨ v = b := by
  unfold pc_put at h
  split at h
  · exact Or.inl ((pc_df_i _ _ _).mp h).1
  · exact (pc_i s b v).mp h
theorem pc_xput {post : Int32 → Prop} {p q z : Int32} {s b : Nat} (hp : p = nI s) (hq : q = nI b) (hb : b < 10) (h : post (nI (pc_put z s b))) : wpX_with post p q z := by
  refine pc_xwith hp hq hb (fun t => ?_) (fun t => ?_)
  · rw [pc_put, if_pos t] at h; exact h
  · rw [pc_put, if_neg t] at h; exact h
theorem pc_upAr {E : Nat → Int32} {e : Nat → Nat} (h : pc_Ar E e) {a x : Nat} (hx : x < 1024) : pc_Ar (upd E a (nI x)) (fun v => if v = a then x else e v) := by
  intro v hv
  dsimp only
  by_cases z : v = a
  · rw [z, pk_us, if_pos rfl]; exact ⟨rfl, hx⟩
  · rw [pk_un z, if_neg z]; exact h v hv
theorem pc_upWe {W : Nat → Int32} {w : Nat → Nat} (h : pc_We W w) {a x : Nat} (hx : x ≤ 9) : pc_We (upd W a (nI x)) (fun v => if v = a then x else w v) := by
  intro v hv
  dsimp only
  by_cases z : v = a
  · rw [z, pk_us, if_pos rfl]; exact ⟨rfl, hx⟩
  · rw [pk_un z, if_neg z]; exact h v hv
theorem pc_b01 (b : Bool) : nI b.toNat = if b = true then 1 else 0 := by cases b <;> rfl
theorem i_vc_edge {k : Nat} {u : SX} {v : SY} (I : i_Rel k u v) (hk : k + 4 ≤ 2048) (v1 : Int32) (v2 : Int32) (v3 : Int32) : wpX_edge (fun r u' => wpY_edge (fun r' v' => r' = r ∧ i_Rel (k + 4) u' v') v v1 v2 (lw_bz v3)) u v1 v2 (lw_bz v3) := by
  obtain ⟨o, E, A, W, R, B, F, U, V, G, D, e, c, w, rfl, rfl, ho, hE, hF, hU, hc, hA, hW, hV⟩ := I
  have same : i_Rel (k + 4) (nI o, E, A, W, R, B) (nI o, F, U, V, G, D) := ⟨o, E, A, W, R, B, F, U, V, G, D, e, c, w, rfl, rfl, ho, hE, hF, hU, hc, hA, hW, hV⟩
  generalize lw_bz v3 = z
  by_cases h0 : v1 < 0
  · exact br_t h0 (br_t h0 ⟨rfl, same⟩)
  · by_cases h1 : v2 ≤ v1
    · refine br_f h0 (br_t h1 (br_f h0 (br_c (fun _ => ⟨rfl, same⟩) (fun _ => br_f (Int32.not_lt.mpr h1) ⟨rfl, same⟩))))
    · by_cases h2 : v2 < 10
      · have h12 : v1 < v2 := Int32.not_le.mp h1
        obtain ⟨a, ha, rfl⟩ := pc_arg h0 (Int32.lt_trans h12 h2)
        obtain ⟨b, hb, rfl⟩ := pc_arg (fun y => h0 (Int32.lt_trans h12 y)) h2
        have hab : a < b := (nI_ltI (by omega) (by omega)).mp h12
        have hlt : pc_put z (e a) b < 1024 := pc_put_lt (hE a ha).2 hb
        have hU' : pc_Up (fun v => if v = a then pc_put z (e a) b else e v) := by
          intro x y hx hy
          dsimp only at hy
          by_cases q : x = a
          · rw [if_pos q] at hy
            rcases pc_put_i hy with t | t
            · rw [q]; exact hU a y ha t
            · omega
          · rw [if_neg q] at hy
            exact hU x y hx hy
        have hE' := pc_upAr hE (a := a) hlt
        have hF' := pc_upAr hF (a := a) hlt
        obtain ⟨c', hc'⟩ := pc_cl_ex hU' (fun x hx => (hE' x hx).2)
        have go : ∀ r : Int32, r = nI ((e a).testBit b).toNat → wX_edge_35 (fun r u' => wpY_edge (fun r' v' => r' = r ∧ i_Rel (k + 4) u' v') (nI o, F, U, V, G, D) (nI a) (nI b) z) (nI a) (nI b) z r (nI o) E A W R B := by
          intro r hr
          refine ⟨pc_in10 ha, pc_xput (pc_ar hE ha) rfl hb ⟨pc_in10 ha, nm_r (e' := upd E a (nI (pc_put z (e a) b))) (by rw [nI_clamp (by omega)]) (pc_xfa hE' hU' hc' (fun A' hA' => ?_))⟩⟩
          refine br_f h0 (br_f (fun t => (pc_lt10 (nI b)).mpr t h2) (br_t h12 ⟨pc_in10 ha, nm_r (e' := r) (by rw [pc_ar hF ha, pc_bitN (hF a ha).2 hb, hr]) ?_⟩))
          have fin : i_Rel (k + 4) (nI o, upd E a (nI (pc_put z (e a) b)), A', W, R, B) (nI o, upd F a (nI (pc_put z (e a) b)), U, V, G, D) := ⟨o, _, A', W, R, B, _, U, V, G, D, _, c', w, rfl, rfl, ho, hE', hF', hU', hc', hA', hW, hV⟩
          refine br_c (fun t => ⟨pc_in10 ha, pc_in10 ha, nm_r (e' := upd F a (nI (pc_put z (e a) b))) ?_ ⟨rfl, fin⟩⟩) (fun t => ⟨pc_in10 ha, pc_in10 ha, nm_r (e' := upd F a (nI (pc_put z (e a) b))) ?_ ⟨rfl, fin⟩⟩)
          · rw [pc_ar hF ha, pc_shl b hb, pc_nnot, nI_clamp (by omega), pc_put, if_pos t]
          · rw [pc_ar hF ha, pc_shl b hb, pc_nor, nI_clamp (by omega), pc_put, if_neg t]
        refine br_f h0 (br_f h1 (br_t h2 ⟨pc_in10 ha, pc_xif (pc_ar hE ha) rfl (hE a ha).2 hb (fun t => go 1 ?_) (fun t => go 0 ?_)⟩))
        · rw [t]; rfl
        · rw [pc_b01, if_neg t]
      · exact br_f h0 (br_f h1 (br_f h2 (br_f h0 (br_t ((pc_lt10 v2).mp h2) ⟨rfl, same⟩))))
theorem i_vc_turn {k : Nat} {u : SX} {v : SY} (I : i_Rel k u v) (hk : k + 4 ≤ 2048) (v1 : Int32) (v2 : Int32) : wpX_turn (fun r u' => wpY_turn (fun r' v' => r' = r ∧ i_Rel (k + 4) u' v') v v1 (lw_bz v2)) u v1 (lw_bz v2) := by
  obtain ⟨o, E, A, W, R, B, F, U, V, G, D, e, c, w, rfl, rfl, ho, hE, hF, hU, hc, hA, hW, hV⟩ := I
  generalize lw_bz v2 = z
  refine pc_xv (fun hbad => pc_yv (nI o, F, U, V, G, D) (fun _ => ⟨rfl, o, E, A, W, R, B, F, U, V, G, D, e, c, w, rfl, rfl, ho, hE, hF, hU, hc, hA, hW, hV⟩) (fun a ha e1 => ?_)) (fun a ha e1 => ?_)
  · rw [e1] at hbad; exact absurd hbad (pc_vbad ha)
  · subst e1
    have go : ∀ r : Int32, r = nI (o.testBit a).toNat → wX_turn_25 (fun r u' => wpY_turn (fun r' v' => r' = r ∧ i_Rel (k + 4) u' v') (nI o, F, U, V, G, D) (nI a) z) (nI a) z r (nI o) E A W R B := by
      intro r hr
      refine pc_xput rfl rfl ha (pc_yv (nI o, F, U, V, G, D) (fun t => absurd t (pc_vbad ha)) (fun _ _ _ => nm_r (e' := r) (by rw [pc_bitN ho ha, hr]) ?_))
      have fin : i_Rel (k + 4) (nI (pc_put z o a), E, A, W, R, B) (nI (pc_put z o a), F, U, V, G, D) := ⟨_, E, A, W, R, B, F, U, V, G, D, e, c, w, rfl, rfl, pc_put_lt ho ha, hE, hF, hU, hc, hA, hW, hV⟩
      refine br_c (fun t => nm_r (e' := nI (pc_put z o a)) ?_ ⟨rfl, fin⟩) (fun t => nm_r (e' := nI (pc_put z o a)) ?_ ⟨rfl, fin⟩)
      · rw [pc_shl a ha, pc_nnot, pc_put, if_pos t]
      · rw [pc_shl a ha, pc_nor, pc_put, if_neg t]
    refine pc_xif rfl rfl ho ha (fun t => go 1 ?_) (fun t => go 0 ?_)
    · rw [t]; rfl
    · rw [pc_b01, if_neg t]
theorem i_vc_weight {k : Nat} {u : SX} {v : SY} (I : i_Rel k u v) (hk : k + 4 ≤ 2048) (v1 : Int32) (v2 : Int32) : wpX_weight (fun r u' => wpY_weight (fun r' v' => r' = r ∧ i_Rel (k + 4) u' v') v v1 v2) u v1 v2 := by
  obtain ⟨o, E, A, W, R, B, F, U, V, G, D, e, c, w, rfl, rfl, ho, hE, hF, hU, hc, hA, hW, hV⟩ := I
  have same : i_Rel (k + 4) (nI o, E, A, W, R, B) (nI o, F, U, V, G, D) := ⟨o, E, A, W, R, B, F, U, V, G, D, e, c, w, rfl, rfl, ho, hE, hF, hU, hc, hA, hW, hV⟩
  refine pc_xv (fun hbad => pc_yv (nI o, F, U, V, G, D) (fun _ => ⟨rfl, same⟩) (fun a ha e1 => ?_)) (fun a ha e1 => ?_)
  · rw [e1] at hbad; exact absurd hbad (pc_vbad ha)
  · subst e1
    by_cases h0 : v2 < 0
    · exact br_t h0 (pc_yv (nI o, F, U, V, G, D) (fun t => absurd t (pc_vbad ha)) (fun _ _ _ => br_t h0 ⟨rfl, same⟩))
    · by_cases h9 : v2 ≤ 9
      · obtain ⟨x, hx, rfl⟩ := pc_arg h0 ((pc_le9 v2).mp h9)
        refine br_f h0 (br_t h9 ⟨pc_in10 ha, nm_r (pc_we hW ha) ⟨pc_in10 ha, nm_r (e' := upd W a (nI x)) (by rw [nI_clamp (by omega)]) ?_⟩⟩)
        refine pc_yv (nI o, F, U, V, G, D) (fun t => absurd t (pc_vbad ha)) (fun _ _ _ => br_f h0 (br_t h9 ⟨pc_in10 ha, nm_r (pc_we hV ha) ⟨pc_in10 ha, nm_r (e' := upd V a (nI x)) (by rw [nI_clamp (by omega)]) ⟨rfl, ?_⟩⟩⟩))
        exact ⟨o, E, A, _, R, B, F, U, _, G, D, e, c, _, rfl, rfl, ho, hE, hF, hU, hc, hA, pc_upWe hW (by omega), pc_upWe hV (by omega)⟩
      · exact br_f h0 (br_f h9 (pc_yv (nI o, F, U, V, G, D) (fun t => absurd t (pc_vbad ha)) (fun _ _ _ => br_f h0 (br_f h9 ⟨rfl, same⟩))))
theorem i_vc_above {k : Nat} {u : SX} {v : SY} (I : i_Rel k u v) (hk : k + 4 ≤ 2048) (v1 : Int32) (v2 : Int32) : wpX_above (fun r => wpY_above (fun r' v' => r' = r ∧ i_Rel (k + 4) u v') v v1 v2) u v1 v2 := by
  obtain ⟨o, E, A, W, R, B, F, U, V, G, D, e, c, w, rfl, rfl, ho, hE, hF, hU, hc, hA, hW, hV⟩ := I
  have same : ∀ U, i_Rel (k + 4) (nI o, E, A, W, R, B) (nI o, F, U, V, G, D) := fun U => ⟨o, E, A, W, R, B, F, U, V, G, D, e, c, w, rfl, rfl, ho, hE, hF, hU, hc, hA, hW, hV⟩
  refine pc_xv (fun hbad => pc_yv (nI o, F, U, V, G, D) (fun _ => ⟨rfl, same U⟩) (fun a ha e1 => ?_)) (fun a ha e1 => pc_xv (fun hbad => ?_) (fun b hb e2 => ?_))
  · rw [e1] at hbad; exact absurd hbad (pc_vbad ha)
  · subst e1
    refine pc_yv (nI o, F, U, V, G, D) (fun t => absurd t (pc_vbad ha)) (fun _ _ _ => pc_yv (nI o, F, U, V, G, D) (fun _ => ⟨rfl, same U⟩) (fun b hb e2 => ?_))
    rw [e2] at hbad; exact absurd hbad (pc_vbad hb)
  · subst e1 e2
    refine ⟨pc_in10 ha, pc_xif (pc_ar hA ha) rfl (hA a ha).2 hb (fun t => ?_) (fun t => ?_)⟩
    · exact pc_yv (nI o, F, U, V, G, D) (fun t => absurd t (pc_vbad ha)) (fun _ _ _ => pc_yv (nI o, F, U, V, G, D) (fun t => absurd t (pc_vbad hb)) (fun _ _ _ => pc_ycl hF hU hc (fun U' hU' => ⟨pc_in10 ha, pc_yhas (pc_ar hU' ha) rfl (hU' a ha).2 hb (fun _ => ⟨rfl, rfl, same U'⟩) (fun y => absurd t y)⟩)))
    · exact pc_yv (nI o, F, U, V, G, D) (fun t => absurd t (pc_vbad ha)) (fun _ _ _ => pc_yv (nI o, F, U, V, G, D) (fun t => absurd t (pc_vbad hb)) (fun _ _ _ => pc_ycl hF hU hc (fun U' hU' => ⟨pc_in10 ha, pc_yhas (pc_ar hU' ha) rfl (hU' a ha).2 hb (fun y => absurd y t) (fun _ => ⟨rfl, rfl, same U'⟩)⟩)))
/-! the calls that ask -/
theorem pc_final {N nd : Nat → Nat} {o m : Nat} (hU : pc_Up N) (ho : o < 1024) (hm : pc_Mx (pc_RS N o 10) pc_cn 1024 m) (hD : pc_ND N nd) : nI (nd o) = nI (pc_cn o) - nI m := by
  have h := pc_cover hU hD ho (hm.1.imp id (fun ⟨T, _, h⟩ => ⟨T, h⟩)) (fun T hT => hm.2 T (pc_RS_lt ho 10 T hT) hT)
  rw [pk_sub (by omega)]
  exact congrArg nI (by omega)
theorem i_vc_chains {k : Nat} {u : SX} {v : SY} (I : i_Rel k u v) (hk : k + 4 ≤ 2048) : wpX_chains (fun r u' => wpY_chains (fun r' v' => r' = r ∧ i_Rel (k + 4) u' v') v) u := by
  obtain ⟨o, E, A, W, R, B, F, U, V, G, D, e, c, w, rfl, rfl, ho, hE, hF, hU, hc, hA, hW, hV⟩ := I
  unfold wpX_chains
  dsimp only
  refine pc_xlcA hA ho (fun m R' _ hm => ?_)
  unfold wpY_chains
  dsimp only
  refine pc_yf (N := c) hF hU hc (fun U' hU' => ⟨fun _ => hU', fun z => absurd rfl z⟩) ho (fun nd U' G' D' hD => ⟨pc_final (pc_Cl_U hU hc) ho hm hD, ?_⟩)
  exact ⟨o, E, A, W, R', B, F, U', V, G', D', e, c, w, rfl, rfl, ho, hE, hF, hU, hc, hA, hW, hV⟩
theorem i_vc_paths {k : Nat} {u : SX} {v : SY} (I : i_Rel k u v) (hk : k + 4 ≤ 2048) : wpX_paths (fun r u' => wpY_paths (fun r' v' => r' = r ∧ i_Rel (k + 4) u' v') v) u := by
  obtain ⟨o, E, A, W, R, B, F, U, V, G, D, e, c, w, rfl, rfl, ho, hE, hF, hU, hc, hA, hW, hV⟩ := I
  unfold wpX_paths
  dsimp only
  refine pc_xlcE hE ho (fun m R' _ hm => ?_)
  unfold wpY_paths
  dsimp only
  refine pc_yf (N := e) hF hU hc (fun U' hU' => ⟨fun z => absurd z (by decide), fun _ => hF⟩) ho (fun nd U' G' D' hD => ⟨pc_final hU ho hm hD, ?_⟩)
  exact ⟨o, E, A, W, R', B, F, U', V, G', D', e, c, w, rfl, rfl, ho, hE, hF, hU, hc, hA, hW, hV⟩
theorem i_vc_width {k : Nat} {u : SX} {v : SY} (I : i_Rel k u v) (hk : k + 4 ≤ 2048) : wpX_width (fun r => wpY_width (fun r' v' => r' = r ∧ i_Rel (k + 4) u v') v) u := by
  obtain ⟨o, E, A, W, R, B, F, U, V, G, D, e, c, w, rfl, rfl, ho, hE, hF, hU, hc, hA, hW, hV⟩ := I
  refine pc_xsw hA (fun b hb hS => pc_xcount rfl hb (pc_ywidth hF hU hc (fun m U' _ _ hm => ⟨by rw [pc_SW_m pc_cn0 hS hm], ?_⟩)))
  exact ⟨o, E, A, W, R, B, F, U', V, G, D, e, c, w, rfl, rfl, ho, hE, hF, hU, hc, hA, hW, hV⟩
theorem i_vc_antichain {k : Nat} {u : SX} {v : SY} (I : i_Rel k u v) (hk : k + 4 ≤ 2048) : wpX_antichain (fun r => wpY_antichain (fun r' v' => r' = r ∧ i_Rel (k + 4) u v') v) u := by
  obtain ⟨o, E, A, W, R, B, F, U, V, G, D, e, c, w, rfl, rfl, ho, hE, hF, hU, hc, hA, hW, hV⟩ := I
  refine pc_xsw hA (fun b hb hS => pc_yac hF hU hc hb hS (fun U' => ⟨rfl, ?_⟩))
  exact ⟨o, E, A, W, R, B, F, U', V, G, D, e, c, w, rfl, rfl, ho, hE, hF, hU, hc, hA, hW, hV⟩
theorem i_vc_heaviest {k : Nat} {u : SX} {v : SY} (I : i_Rel k u v) (hk : k + 4 ≤ 2048) : wpX_heaviest (fun r => wpY_heaviest (fun r' v' => r' = r ∧ i_Rel (k + 4) u v') v) u := by
  obtain ⟨o, E, A, W, R, B, F, U, V, G, D, e, c, w, rfl, rfl, ho, hE, hF, hU, hc, hA, hW, hV⟩ := I
  refine pc_xheavy hA hW (fun m hm => pc_yheavy hF hU hc hV (fun m' U' _ _ hm' => ⟨by rw [pc_Mx_u (fun s _ => Iff.rfl) hm' hm], ?_⟩))
  exact ⟨o, E, A, W, R, B, F, U', V, G, D, e, c, w, rfl, rfl, ho, hE, hF, hU, hc, hA, hW, hV⟩
theorem i_vc_height {k : Nat} {u : SX} {v : SY} (I : i_Rel k u v) (hk : k + 4 ≤ 2048) : wpX_height (fun r u' => wpY_height (fun r' v' => r' = r ∧ i_Rel (k + 4) u' v') v) u := by
  obtain ⟨o, E, A, W, R, B, F, U, V, G, D, e, c, w, rfl, rfl, ho, hE, hF, hU, hc, hA, hW, hV⟩ := I
  have hUc := pc_Cl_U hU hc
  obtain ⟨bf, b1, b2, b3⟩ := pc_bf_ex (w := pc_one) hUc ho (fun _ _ => (by decide : (1 : Nat) ≤ 9))
  refine pc_xgc (w := pc_one) hA hUc ho ⟨fun _ => rfl, fun z => absurd rfl z⟩ b1 b3 (fun m B' h1 h2 => pc_yheight hF hU hc (fun m' U' _ _ hm' => ⟨?_, ?_⟩))
  · rw [pc_chain hUc ho b2 h1 h2 hm']
  · exact ⟨o, E, A, W, R, B', F, U', V, G, D, e, c, w, rfl, rfl, ho, hE, hF, hU, hc, hA, hW, hV⟩
theorem i_vc_heaviestChain {k : Nat} {u : SX} {v : SY} (I : i_Rel k u v) (hk : k + 4 ≤ 2048) : wpX_heaviestChain (fun r u' => wpY_heaviestChain (fun r' v' => r' = r ∧ i_Rel (k + 4) u' v') v) u := by
  obtain ⟨o, E, A, W, R, B, F, U, V, G, D, e, c, w, rfl, rfl, ho, hE, hF, hU, hc, hA, hW, hV⟩ := I
  have hUc := pc_Cl_U hU hc
  obtain ⟨bf, b1, b2, b3⟩ := pc_bf_ex (w := w) hUc ho (fun v hv => (hW v hv).2)
  refine pc_xgc (w := w) hA hUc ho ⟨fun z => absurd z (by decide), fun _ => hW⟩ b1 b3 (fun m B' h1 h2 => pc_yhchain hF hU hc hV (fun m' U' _ _ hm' => ⟨?_, ?_⟩))
  · rw [pc_chain hUc ho b2 h1 h2 hm']
  · exact ⟨o, E, A, W, R, B', F, U', V, G, D, e, c, w, rfl, rfl, ho, hE, hF, hU, hc, hA, hW, hV⟩
theorem i_vc_antichains {k : Nat} {u : SX} {v : SY} (I : i_Rel k u v) (hk : k + 4 ≤ 2048) : wpX_antichains (fun r => wpY_antichains (fun r' v' => r' = r ∧ i_Rel (k + 4) u v') v) u := by
  obtain ⟨o, E, A, W, R, B, F, U, V, G, D, e, c, w, rfl, rfl, ho, hE, hF, hU, hc, hA, hW, hV⟩ := I
  exact pc_xants hA (pc_yants hF hU hc (fun U' _ => ⟨rfl, o, E, A, W, R, B, F, U', V, G, D, e, c, w, rfl, rfl, ho, hE, hF, hU, hc, hA, hW, hV⟩))
theorem i_vc_apart {k : Nat} {u : SX} {v : SY} (I : i_Rel k u v) (hk : k + 4 ≤ 2048) : wpX_apart (fun r => wpY_apart (fun r' v' => r' = r ∧ i_Rel (k + 4) u v') v) u := by
  obtain ⟨o, E, A, W, R, B, F, U, V, G, D, e, c, w, rfl, rfl, ho, hE, hF, hU, hc, hA, hW, hV⟩ := I
  exact pc_xap hA ho (pc_yap hF hU hc ho (fun U' => ⟨rfl, o, E, A, W, R, B, F, U', V, G, D, e, c, w, rfl, rfl, ho, hE, hF, hU, hc, hA, hW, hV⟩))
