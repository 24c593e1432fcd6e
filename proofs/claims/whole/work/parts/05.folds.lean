/-! folds that loops make, and functions given downwards -/
def pc_of (x m : Nat) (c : Nat → Nat) : Nat → Nat
  | 0 => x
  | n + 1 => if m.testBit n = true then pc_of x m c n ||| c n else pc_of x m c n
theorem pc_of_t {x m : Nat} {c : Nat → Nat} : ∀ n v, (pc_of x m c n).testBit v = true ↔ x.testBit v = true ∨ ∃ b, b < n ∧ m.testBit b = true ∧ (c b).testBit v = true := by
  intro n
  induction n with
  | zero => exact fun v => ⟨Or.inl, fun h => h.elim id (fun ⟨b, hb, _⟩ => absurd hb (Nat.not_lt_zero b))⟩
  | succ n ih =>
    intro v
    show (if m.testBit n = true then pc_of x m c n ||| c n else pc_of x m c n).testBit v = true ↔ _
    by_cases hm : m.testBit n = true
    · rw [if_pos hm, Nat.testBit_or, Bool.or_eq_true, ih v]
      constructor
      · rintro ((z | ⟨b, h1, h2⟩) | z)
        · exact Or.inl z
        · exact Or.inr ⟨b, by omega, h2⟩
        · exact Or.inr ⟨n, by omega, hm, z⟩
      · rintro (z | ⟨b, h1, h2, h3⟩)
        · exact Or.inl (Or.inl z)
        · by_cases e : b = n
          · rw [e] at h3; exact Or.inr h3
          · exact Or.inl (Or.inr ⟨b, by omega, h2, h3⟩)
    · rw [if_neg hm, ih v]
      constructor
      · rintro (z | ⟨b, h1, h2⟩)
        · exact Or.inl z
        · exact Or.inr ⟨b, by omega, h2⟩
      · rintro (z | ⟨b, h1, h2, h3⟩)
        · exact Or.inl z
        · by_cases e : b = n
          · rw [e] at h2; exact absurd h2 hm
          · exact Or.inr ⟨b, by omega, h2, h3⟩
theorem pc_of_lt {x m : Nat} {c : Nat → Nat} (hx : x < 1024) {n : Nat} (hc : ∀ b, b < n → m.testBit b = true → c b < 1024) : pc_of x m c n < 1024 := by
  apply pc_lt
  intro v hv
  rcases (pc_of_t n v).mp hv with z | ⟨b, h1, h2, h3⟩
  · exact pc_lo hx z
  · exact pc_lo (hc b h1 h2) h3
theorem pc_of_eq {x m : Nat} {c d : Nat → Nat} : ∀ n, (∀ b, b < n → m.testBit b = true → c b = d b) → pc_of x m c n = pc_of x m d n := by
  intro n
  induction n with
  | zero => intro _; rfl
  | succ n ih =>
    intro h
    show (if m.testBit n = true then pc_of x m c n ||| c n else pc_of x m c n) = (if m.testBit n = true then pc_of x m d n ||| d n else pc_of x m d n)
    rw [ih (fun b hb => h b (by omega))]
    by_cases hm : m.testBit n = true
    · rw [if_pos hm, if_pos hm, h n (by omega) hm]
    · rw [if_neg hm, if_neg hm]
theorem pc_of_0 {x m : Nat} {c : Nat → Nat} : ∀ n, (∀ b, b < n → m.testBit b = true → False) → pc_of x m c n = x := by
  intro n
  induction n with
  | zero => intro _; rfl
  | succ n ih =>
    intro h
    show (if m.testBit n = true then pc_of x m c n ||| c n else pc_of x m c n) = x
    rw [if_neg (fun z => h n (by omega) z), ih (fun b hb => h b (by omega))]
theorem pc_rec (F : (Nat → Nat) → Nat → Nat) (hF : ∀ f g a, a < 10 → (∀ b, a < b → f b = g b) → F f a = F g a) : ∃ f : Nat → Nat, ∀ a, a < 10 → f a = F f a := by
  have k : ∀ j, j ≤ 10 → ∃ f : Nat → Nat, ∀ a, a < 10 → 10 ≤ a + j → f a = F f a := by
    intro j
    induction j with
    | zero => exact fun _ => ⟨fun _ => 0, fun a h1 h2 => by omega⟩
    | succ j ih =>
      intro hj
      obtain ⟨f, hf⟩ := ih (by omega)
      refine ⟨fun b => if b = 9 - j then F f (9 - j) else f b, fun a ha haj => ?_⟩
      have e : F f a = F (fun b => if b = 9 - j then F f (9 - j) else f b) a := hF _ _ a ha (fun b hb => by rw [if_neg (by omega)])
      rw [← e]
      dsimp only
      by_cases z : a = 9 - j
      · rw [if_pos z, z]
      · rw [if_neg z]; exact hf a ha (by omega)
  obtain ⟨f, hf⟩ := k 10 (by omega)
  exact ⟨f, fun a ha => hf a ha (by omega)⟩
/-- what is above each vertex: c a is the fold over a's edges -/
theorem pc_cl_ex {e : Nat → Nat} (hU : pc_Up e) (he : ∀ a, a < 10 → e a < 1024) : ∃ c : Nat → Nat, ∀ a, a < 10 → c a = pc_of (e a) (e a) c 10 ∧ c a < 1024 := by
  obtain ⟨c, hc⟩ := pc_rec (fun c a => pc_of (e a) (e a) c 10) (fun f g a ha h => pc_of_eq 10 (fun b _ hm => h b (hU a b ha hm).1))
  refine ⟨c, fun a ha => ⟨hc a ha, ?_⟩⟩
  have k : ∀ d a, a < 10 → 10 ≤ a + d → c a < 1024 := by
    intro d
    induction d with
    | zero => intro a h1 h2; omega
    | succ d ih =>
      intro a ha hd
      rw [hc a ha]
      exact pc_of_lt (he a ha) (fun b _ hm => ih b (hU a b ha hm).2 (by have := (hU a b ha hm).1; omega))
  exact k 10 a ha (by omega)
def pc_Cl (e c : Nat → Nat) : Prop := ∀ a, a < 10 → c a = pc_of (e a) (e a) c 10 ∧ c a < 1024
theorem pc_Cl_1 {e c : Nat → Nat} (hU : pc_Up e) (h : pc_Cl e c) : ∀ a, a < 10 → pc_Cl1 e c a := by
  intro a ha v
  have k := pc_of_t (x := e a) (m := e a) (c := c) 10 v
  rw [← (h a ha).1] at k
  rw [k]
  constructor
  · rintro (z | ⟨b, _, h2, h3⟩)
    · exact Or.inl z
    · exact Or.inr ⟨b, h2, h3⟩
  · rintro (z | ⟨b, h2, h3⟩)
    · exact Or.inl z
    · exact Or.inr ⟨b, (hU a b ha h2).2, h2, h3⟩
theorem pc_Cl_eq {e c d : Nat → Nat} (hU : pc_Up e) (h : pc_Cl e c) (h' : pc_Cl e d) : ∀ a, a < 10 → c a = d a := fun a ha => pc_Cl_u hU (pc_Cl_1 hU h) (pc_Cl_1 hU h') 10 a ha (by omega)
theorem pc_Cl_U {e c : Nat → Nat} (hU : pc_Up e) (h : pc_Cl e c) : pc_Up c := pc_Cl_up hU (pc_Cl_1 hU h)
/-! the greatest of bf over a set -/
def pc_mx (m : Nat) (bf : Nat → Nat) : Nat → Nat
  | 0 => 0
  | n + 1 => if m.testBit n = true ∧ pc_mx m bf n < bf n then bf n else pc_mx m bf n
theorem pc_mx_ge {m : Nat} {bf : Nat → Nat} : ∀ n v, v < n → m.testBit v = true → bf v ≤ pc_mx m bf n := by
  intro n
  induction n with
  | zero => intro v h; omega
  | succ n ih =>
    intro v hv hm
    show bf v ≤ if m.testBit n = true ∧ pc_mx m bf n < bf n then bf n else pc_mx m bf n
    by_cases e : v = n
    · subst e
      split
      · exact Nat.le_refl _
      · rename_i z
        rcases Nat.lt_or_ge (pc_mx m bf v) (bf v) with y | y
        · exact absurd ⟨hm, y⟩ z
        · exact y
    · have i := ih v (by omega) hm
      split <;> omega
theorem pc_mx_ex {m : Nat} {bf : Nat → Nat} : ∀ n, pc_mx m bf n = 0 ∨ ∃ v, v < n ∧ m.testBit v = true ∧ pc_mx m bf n = bf v := by
  intro n
  induction n with
  | zero => exact Or.inl rfl
  | succ n ih =>
    show (if m.testBit n = true ∧ pc_mx m bf n < bf n then bf n else pc_mx m bf n) = 0 ∨ ∃ v, v < n + 1 ∧ m.testBit v = true ∧ (if m.testBit n = true ∧ pc_mx m bf n < bf n then bf n else pc_mx m bf n) = bf v
    by_cases z : m.testBit n = true ∧ pc_mx m bf n < bf n
    · rw [if_pos z]
      exact Or.inr ⟨n, by omega, z.1, rfl⟩
    · rw [if_neg z]
      exact ih.imp id (fun ⟨v, h1, h2⟩ => ⟨v, by omega, h2⟩)
theorem pc_mx_eq {m : Nat} {f g : Nat → Nat} : ∀ n, (∀ b, b < n → m.testBit b = true → f b = g b) → pc_mx m f n = pc_mx m g n := by
  intro n
  induction n with
  | zero => intro _; rfl
  | succ n ih =>
    intro h
    show (if m.testBit n = true ∧ pc_mx m f n < f n then f n else pc_mx m f n) = (if m.testBit n = true ∧ pc_mx m g n < g n then g n else pc_mx m g n)
    rw [ih (fun b hb => h b (by omega))]
    by_cases hm : m.testBit n = true
    · rw [h n (by omega) hm]
    · rw [if_neg (fun z => hm z.1), if_neg (fun z => hm z.1)]
theorem pc_bf_ex {N : Nat → Nat} {S : Nat} {w : Nat → Nat} (hU : pc_Up N) (hS : S < 1024) (hw : ∀ v, v < 10 → w v ≤ 9) :
    ∃ bf : Nat → Nat, (∀ a, a < 10 → bf a = pc_mx (N a &&& S) bf 10 + w a) ∧ (∀ a, S.testBit a = true → pc_BF N S w bf a) ∧ ∀ a, a < 10 → bf a ≤ 100 := by
  obtain ⟨bf, hb⟩ := pc_rec (fun bf a => pc_mx (N a &&& S) bf 10 + w a) (fun f g a ha h => congrArg (· + w a) (pc_mx_eq 10 (fun b _ hm => h b (hU a b ha ((pc_andi _ _ _).mp hm).1).1)))
  refine ⟨bf, hb, fun a ha => ?_, fun a ha => ?_⟩
  · have ha10 := pc_lo hS ha
    have e := hb a ha10
    refine ⟨by omega, fun v hv => ?_, ?_⟩
    · have := pc_mx_ge (bf := bf) 10 v (pc_lo hS ((pc_andi _ _ _).mp hv).2) hv
      omega
    · rcases pc_mx_ex (m := N a &&& S) (bf := bf) 10 with z | ⟨v, _, h2, h3⟩
      · exact Or.inl (by omega)
      · exact Or.inr ⟨v, h2, by omega⟩
  · have k : ∀ d a, a < 10 → 10 ≤ a + d → bf a ≤ 9 * d := by
      intro d
      induction d with
      | zero => intro a h1 h2; omega
      | succ d ih =>
        intro a ha hd
        have e := hb a ha
        have h9 := hw a ha
        rcases pc_mx_ex (m := N a &&& S) (bf := bf) 10 with z | ⟨v, h1, h2, h3⟩
        · omega
        · have u := hU a v ha ((pc_andi _ _ _).mp h2).1
          have := ih v u.2 (by omega)
          omega
    have := k 10 a ha (by omega)
    omega
/-- counting downwards: the head of the loop after j + 1, j, .. -/
def pc_dn (j : Nat) : Int32 := nI j + (-1)
theorem pc_dn_s (j : Nat) : pc_dn (j + 1) = nI j := by
  unfold pc_dn
  rw [← nI_1, Int32.add_assoc, show (1 : Int32) + (-1) = 0 from rfl, Int32.add_zero]
theorem pc_dn_0 : pc_dn 0 < 0 := by decide
/-! a mask's truth as 0 or 1 -/
def pc_b (b : Bool) : Int32 := if b = true then 1 else 0
theorem pc_sm_s (p : Nat → Bool) (w : Nat → Nat) (n : Nat) : pc_sm p w (n + 1) = pc_sm p w n + (if p n = true then w n else 0) := rfl
