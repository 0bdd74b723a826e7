/-! THE LAW's text: one description of what is read, for both sides -/
def zlev (b : Nat) : Nat := if b = 37 then 4 else if b = 38 then 1 else if b = 42 then 4 else if b = 43 then 3 else if b = 45 then 3 else if b = 47 then 4 else if b = 60 then 2 else if b = 61 then 2 else if b = 62 then 2 else if b = 124 then 0 else 9
def znam (b : Nat) : Nat := if b = 103 then 5 else if b = 107 then 1 else if b = 108 then 2 else if b = 110 then 4 else if b = 112 then 3 else if b = 116 then 0 else 9
def zdig (b : Nat) : Bool := decide (48 ≤ b ∧ b ≤ 57)
theorem zdig_iff {b : Nat} : zdig b = true ↔ (48 ≤ b ∧ b ≤ 57) := by simp [zdig]
/-- a number: where it ends, and it -/
def znum (t : Nat → Nat) : Nat → Nat → Nat → Nat × Nat
  | 0, p, a => (p, a)
  | k + 1, p, a => if zdig (t p) then znum t k (p + 1) (10 * a + t p - 48) else (p, a)
abbrev zRes := Nat ⊕ (Nat × List (Nat × Nat))
def zpre (c : List (Nat × Nat)) : zRes → zRes
  | .inl f => .inl f
  | .inr (p, d) => .inr (p, c ++ d)
/-- the rules of reading; false: a chain of a level (5: an operand) from a place on; true: what comes behind its first member -/
def zGr (t : Nat → Nat) (A C : Bool → Nat → Nat → Nat → zRes → Prop) : Prop :=
  (∀ k o p f, k < 5 → A false (k + 1) o p (.inl f) → C false k o p (.inl f)) ∧
  (∀ k o p p1 c r, k < 5 → A false (k + 1) o p (.inr (p1, c)) → A true k o p1 r → C false k o p (zpre c r)) ∧
  (∀ k o p, k < 5 → zlev (t p) ≠ k → C true k o p (.inr (p, []))) ∧
  (∀ k o p f, k < 5 → zlev (t p) = k → A false (k + 1) o (p + 1) (.inl f) → C true k o p (.inl f)) ∧
  (∀ o p p1 c, zlev (t p) = 2 → A false 3 o (p + 1) (.inr (p1, c)) → C true 2 o p (.inr (p1, c ++ [(t p, 0)]))) ∧
  (∀ k o p p1 c r, k < 5 → k ≠ 2 → zlev (t p) = k → A false (k + 1) o (p + 1) (.inr (p1, c)) → A true k o p1 r → C true k o p (zpre (c ++ [(t p, 0)]) r)) ∧
  (∀ p, (t p = 40 ∨ t p = 33 ∨ t p = 45) → C false 5 6 p (.inl p)) ∧
  (∀ o p f, t p = 40 → o < 6 → A false 0 (o + 1) (p + 1) (.inl f) → C false 5 o p (.inl f)) ∧
  (∀ o p p1 c, t p = 40 → o < 6 → A false 0 (o + 1) (p + 1) (.inr (p1, c)) → t p1 ≠ 41 → C false 5 o p (.inl p1)) ∧
  (∀ o p p1 c, t p = 40 → o < 6 → A false 0 (o + 1) (p + 1) (.inr (p1, c)) → t p1 = 41 → C false 5 o p (.inr (p1 + 1, c))) ∧
  (∀ o p f, (t p = 33 ∨ t p = 45) → o < 6 → A false 5 (o + 1) (p + 1) (.inl f) → C false 5 o p (.inl f)) ∧
  (∀ o p p1 c, (t p = 33 ∨ t p = 45) → o < 6 → A false 5 (o + 1) (p + 1) (.inr (p1, c)) → C false 5 o p (.inr (p1, c ++ [(if t p = 33 then 33 else 126, 0)]))) ∧
  (∀ o p, zdig (t p) → C false 5 o p (.inr ((znum t 4 p 0).1, [(48, (znum t 4 p 0).2)]))) ∧
  (∀ o p, znam (t p) < 6 → C false 5 o p (.inr (p + 1, [(97, znam (t p))]))) ∧
  (∀ o p, t p ≠ 40 → t p ≠ 33 → t p ≠ 45 → ¬ zdig (t p) → ¬ znam (t p) < 6 → C false 5 o p (.inl p))
def zG (t : Nat → Nat) (b : Bool) (k o p : Nat) (r : zRes) : Prop := ∀ C, zGr t C C → C b k o p r
theorem zG_r (t : Nat → Nat) : zGr t (zG t) (zG t) := by
  refine ⟨?_, ?_, ?_, ?_, ?_, ?_, ?_, ?_, ?_, ?_, ?_, ?_, ?_, ?_, ?_⟩
  · exact fun k o p f h1 h2 C hC => hC.1 k o p f h1 (h2 C hC)
  · exact fun k o p p1 c r h1 h2 h3 C hC => hC.2.1 k o p p1 c r h1 (h2 C hC) (h3 C hC)
  · exact fun k o p h1 h2 C hC => hC.2.2.1 k o p h1 h2
  · exact fun k o p f h1 h2 h3 C hC => hC.2.2.2.1 k o p f h1 h2 (h3 C hC)
  · exact fun o p p1 c h1 h2 C hC => hC.2.2.2.2.1 o p p1 c h1 (h2 C hC)
  · exact fun k o p p1 c r h1 h2 h3 h4 h5 C hC => hC.2.2.2.2.2.1 k o p p1 c r h1 h2 h3 (h4 C hC) (h5 C hC)
  · exact fun p h1 C hC => hC.2.2.2.2.2.2.1 p h1
  · exact fun o p f h1 h2 h3 C hC => hC.2.2.2.2.2.2.2.1 o p f h1 h2 (h3 C hC)
  · exact fun o p p1 c h1 h2 h3 h4 C hC => hC.2.2.2.2.2.2.2.2.1 o p p1 c h1 h2 (h3 C hC) h4
  · exact fun o p p1 c h1 h2 h3 h4 C hC => hC.2.2.2.2.2.2.2.2.2.1 o p p1 c h1 h2 (h3 C hC) h4
  · exact fun o p f h1 h2 h3 C hC => hC.2.2.2.2.2.2.2.2.2.2.1 o p f h1 h2 (h3 C hC)
  · exact fun o p p1 c h1 h2 h3 C hC => hC.2.2.2.2.2.2.2.2.2.2.2.1 o p p1 c h1 h2 (h3 C hC)
  · exact fun o p h1 C hC => hC.2.2.2.2.2.2.2.2.2.2.2.2.1 o p h1
  · exact fun o p h1 C hC => hC.2.2.2.2.2.2.2.2.2.2.2.2.2.1 o p h1
  · exact fun o p h1 h2 h3 h4 h5 C hC => hC.2.2.2.2.2.2.2.2.2.2.2.2.2.2 o p h1 h2 h3 h4 h5
theorem zG_ind {t : Nat → Nat} {C : Bool → Nat → Nat → Nat → zRes → Prop} (h : zGr t (fun b k o p r => zG t b k o p r ∧ C b k o p r) C) {b : Bool} {k o p : Nat} {r : zRes} (d : zG t b k o p r) : C b k o p r := by
  have g := zG_r t
  refine (d (fun b k o p r => zG t b k o p r ∧ C b k o p r) ⟨?_, ?_, ?_, ?_, ?_, ?_, ?_, ?_, ?_, ?_, ?_, ?_, ?_, ?_, ?_⟩).2
  · exact fun k o p f h1 h2 => ⟨g.1 k o p f h1 h2.1, h.1 k o p f h1 h2⟩
  · exact fun k o p p1 c r h1 h2 h3 => ⟨g.2.1 k o p p1 c r h1 h2.1 h3.1, h.2.1 k o p p1 c r h1 h2 h3⟩
  · exact fun k o p h1 h2 => ⟨g.2.2.1 k o p h1 h2, h.2.2.1 k o p h1 h2⟩
  · exact fun k o p f h1 h2 h3 => ⟨g.2.2.2.1 k o p f h1 h2 h3.1, h.2.2.2.1 k o p f h1 h2 h3⟩
  · exact fun o p p1 c h1 h2 => ⟨g.2.2.2.2.1 o p p1 c h1 h2.1, h.2.2.2.2.1 o p p1 c h1 h2⟩
  · exact fun k o p p1 c r h1 h2 h3 h4 h5 => ⟨g.2.2.2.2.2.1 k o p p1 c r h1 h2 h3 h4.1 h5.1, h.2.2.2.2.2.1 k o p p1 c r h1 h2 h3 h4 h5⟩
  · exact fun p h1 => ⟨g.2.2.2.2.2.2.1 p h1, h.2.2.2.2.2.2.1 p h1⟩
  · exact fun o p f h1 h2 h3 => ⟨g.2.2.2.2.2.2.2.1 o p f h1 h2 h3.1, h.2.2.2.2.2.2.2.1 o p f h1 h2 h3⟩
  · exact fun o p p1 c h1 h2 h3 h4 => ⟨g.2.2.2.2.2.2.2.2.1 o p p1 c h1 h2 h3.1 h4, h.2.2.2.2.2.2.2.2.1 o p p1 c h1 h2 h3 h4⟩
  · exact fun o p p1 c h1 h2 h3 h4 => ⟨g.2.2.2.2.2.2.2.2.2.1 o p p1 c h1 h2 h3.1 h4, h.2.2.2.2.2.2.2.2.2.1 o p p1 c h1 h2 h3 h4⟩
  · exact fun o p f h1 h2 h3 => ⟨g.2.2.2.2.2.2.2.2.2.2.1 o p f h1 h2 h3.1, h.2.2.2.2.2.2.2.2.2.2.1 o p f h1 h2 h3⟩
  · exact fun o p p1 c h1 h2 h3 => ⟨g.2.2.2.2.2.2.2.2.2.2.2.1 o p p1 c h1 h2 h3.1, h.2.2.2.2.2.2.2.2.2.2.2.1 o p p1 c h1 h2 h3⟩
  · exact fun o p h1 => ⟨g.2.2.2.2.2.2.2.2.2.2.2.2.1 o p h1, h.2.2.2.2.2.2.2.2.2.2.2.2.1 o p h1⟩
  · exact fun o p h1 => ⟨g.2.2.2.2.2.2.2.2.2.2.2.2.2.1 o p h1, h.2.2.2.2.2.2.2.2.2.2.2.2.2.1 o p h1⟩
  · exact fun o p h1 h2 h3 h4 h5 => ⟨g.2.2.2.2.2.2.2.2.2.2.2.2.2.2 o p h1 h2 h3 h4 h5, h.2.2.2.2.2.2.2.2.2.2.2.2.2.2 o p h1 h2 h3 h4 h5⟩
/-- a line -/
def zLn (t : Nat → Nat) (p : Nat) (r : zRes) : Prop :=
  (∃ f, r = .inl f ∧ zG t false 0 0 p (.inl f)) ∨
  (∃ p1 c, r = .inr (p1, c ++ [(59, 0)]) ∧ zG t false 0 0 p (.inr (p1, c)) ∧ t p1 ≠ 63) ∨
  (∃ p1 c f, r = .inl f ∧ zG t false 0 0 p (.inr (p1, c)) ∧ t p1 = 63 ∧ zG t false 0 0 (p1 + 1) (.inl f)) ∨
  (∃ p1 p2 c d, r = .inr (p2, c ++ d ++ [(63, 0)]) ∧ zG t false 0 0 p (.inr (p1, c)) ∧ t p1 = 63 ∧ zG t false 0 0 (p1 + 1) (.inr (p2, d)))
/-- a text -/
def zTr (t : Nat → Nat) (n : Nat) (C : Nat → zRes → Prop) : Prop :=
  (∀ p f, zLn t p (.inl f) → C p (.inl f)) ∧
  (∀ p c, zLn t p (.inr (n, c)) → C p (.inr (n, c))) ∧
  (∀ p p1 c, zLn t p (.inr (p1, c)) → t p1 ≠ 59 → p1 < n → C p (.inl p1)) ∧
  (∀ p p1 c r, zLn t p (.inr (p1, c)) → t p1 = 59 → C (p1 + 1) r → C p (zpre c r))
def zTx (t : Nat → Nat) (n : Nat) (p : Nat) (r : zRes) : Prop := ∀ C, zTr t n C → C p r
theorem zTx_r (t : Nat → Nat) (n : Nat) : zTr t n (zTx t n) :=
  ⟨fun p f h C hC => hC.1 p f h, fun p c h C hC => hC.2.1 p c h, fun p p1 c h h2 h3 C hC => hC.2.2.1 p p1 c h h2 h3, fun p p1 c r h h2 h3 C hC => hC.2.2.2 p p1 c r h h2 (h3 C hC)⟩
theorem zlev_lt {b : Nat} : zlev b = 9 ∨ zlev b < 5 := by unfold zlev; (repeat' split) <;> omega
theorem znum_at (t : Nat → Nat) {n : Nat} (hn : ∀ p, n ≤ p → t p = 256) : ∀ k p a, p ≤ n → p ≤ (znum t k p a).1 ∧ (znum t k p a).1 ≤ n := by
  intro k
  induction k with
  | zero => intro p a h; exact ⟨Nat.le_refl _, h⟩
  | succ k ih =>
    intro p a h
    simp only [znum]
    split
    · rename_i hd
      have hp : p < n := by
        rcases Nat.lt_or_ge p n with q | q
        · exact q
        · have := hn p q; rw [zdig_iff] at hd; omega
      have := ih (p + 1) (10 * a + t p - 48) (by omega)
      exact ⟨by omega, this.2⟩
    · exact ⟨Nat.le_refl _, h⟩
def zokr (n p : Nat) (b : Bool) : zRes → Prop
  | .inl f => p ≤ f ∧ f ≤ n
  | .inr (q, c) => p + c.length ≤ q ∧ q ≤ n ∧ (b = false → p < q ∧ 0 < c.length)
theorem zG_ok {t : Nat → Nat} {n : Nat} (hn : ∀ p, n ≤ p → t p = 256) {b : Bool} {k o p : Nat} {r : zRes} (h : zG t b k o p r) : p ≤ n → zokr n p b r := by
  have lt : ∀ p, p ≤ n → t p ≠ 256 → p < n := by
    intro p hp h
    rcases Nat.lt_or_ge p n with q | q
    · exact q
    · exact absurd (hn p q) h
  have lt5 : ∀ p, p ≤ n → zlev (t p) < 5 → p < n := by
    intro p hp h
    refine lt p hp (fun e => ?_)
    rw [e] at h
    exact absurd h (by decide)
  refine zG_ind (C := fun b k o p r => p ≤ n → zokr n p b r) ⟨?_, ?_, ?_, ?_, ?_, ?_, ?_, ?_, ?_, ?_, ?_, ?_, ?_, ?_, ?_⟩ h
  · exact fun k o p f _ ih hp => ih.2 hp
  · intro k o p p1 c r _ ih1 ih2 hp
    obtain ⟨a1, a2, a3⟩ := ih1.2 hp
    have b := ih2.2 a2
    cases r with
    | inl f => exact ⟨by have := b.1; omega, b.2⟩
    | inr x =>
      obtain ⟨q, d⟩ := x
      obtain ⟨b1, b2, -⟩ := b
      have := a3 rfl
      simp only [zpre, zokr, List.length_append]
      exact ⟨by omega, b2, fun _ => ⟨by omega, by omega⟩⟩
  · exact fun k o p _ _ hp => ⟨by simp, hp, fun h => by simp at h⟩
  · intro k o p f _ hl ih hp
    have := lt5 _ hp (by omega)
    have := ih.2 (by omega)
    exact ⟨by have := this.1; omega, this.2⟩
  · intro o p p1 c hl ih hp
    have := lt5 _ hp (by omega)
    obtain ⟨a1, a2, a3⟩ := ih.2 (by omega)
    simp only [zokr, List.length_append, List.length_cons, List.length_nil]
    exact ⟨by omega, a2, fun h => by simp at h⟩
  · intro k o p p1 c r _ _ hl ih1 ih2 hp
    have := lt5 _ hp (by omega)
    obtain ⟨a1, a2, a3⟩ := ih1.2 (by omega)
    have b := ih2.2 a2
    cases r with
    | inl f => exact ⟨by have := b.1; omega, b.2⟩
    | inr x =>
      obtain ⟨q, d⟩ := x
      obtain ⟨b1, b2, -⟩ := b
      simp only [zpre, zokr, List.length_append, List.length_cons, List.length_nil]
      exact ⟨by omega, b2, fun h => by simp at h⟩
  · exact fun p _ hp => ⟨Nat.le_refl _, hp⟩
  · intro o p f h _ ih hp
    have := lt _ hp (by omega)
    have := ih.2 (by omega)
    exact ⟨by have := this.1; omega, this.2⟩
  · intro o p p1 c h _ ih _ hp
    have := lt _ hp (by omega)
    obtain ⟨a1, a2, a3⟩ := ih.2 (by omega)
    exact ⟨by omega, a2⟩
  · intro o p p1 c h _ ih h2 hp
    have := lt _ hp (by omega)
    obtain ⟨a1, a2, a3⟩ := ih.2 (by omega)
    have := lt _ a2 (by omega)
    have := a3 rfl
    exact ⟨by omega, by omega, fun _ => ⟨by omega, by omega⟩⟩
  · intro o p f h _ ih hp
    have := lt _ hp (by omega)
    have := ih.2 (by omega)
    exact ⟨by have := this.1; omega, this.2⟩
  · intro o p p1 c h _ ih hp
    have := lt _ hp (by omega)
    obtain ⟨a1, a2, a3⟩ := ih.2 (by omega)
    simp only [zokr, List.length_append, List.length_cons, List.length_nil]
    exact ⟨by omega, a2, fun _ => ⟨by omega, by omega⟩⟩
  · intro o p h hp
    have hd := h
    rw [zdig_iff] at h
    have := lt _ hp (by omega)
    have e : znum t 4 p 0 = znum t 3 (p + 1) (10 * 0 + t p - 48) := by rw [znum, if_pos hd]
    have := znum_at t hn 3 (p + 1) (10 * 0 + t p - 48) (by omega)
    rw [← e] at this
    simp only [zokr, List.length_cons, List.length_nil]
    exact ⟨by omega, by omega, fun _ => ⟨by omega, by omega⟩⟩
  · intro o p h hp
    have := lt _ hp (fun e => by rw [e] at h; exact absurd h (by decide))
    simp only [zokr, List.length_cons, List.length_nil]
    exact ⟨by omega, by omega, fun _ => ⟨by omega, by omega⟩⟩
  · exact fun o p _ _ _ _ _ hp => ⟨Nat.le_refl _, hp⟩
def zokl (n p : Nat) : zRes → Prop
  | .inl f => p ≤ f ∧ f ≤ n
  | .inr (q, c) => p + c.length ≤ q + 1 ∧ q ≤ n ∧ p < q ∧ 0 < c.length
theorem zLn_ok {t : Nat → Nat} {n : Nat} (hn : ∀ p, n ≤ p → t p = 256) {p : Nat} {r : zRes} (h : zLn t p r) (hp : p ≤ n) : zokl n p r := by
  have lt : ∀ p, p ≤ n → t p ≠ 256 → p < n := by
    intro p hp h
    rcases Nat.lt_or_ge p n with q | q
    · exact q
    · exact absurd (hn p q) h
  rcases h with ⟨f, rfl, h⟩ | ⟨p1, c, rfl, h, h2⟩ | ⟨p1, c, f, rfl, h, h2, h3⟩ | ⟨p1, p2, c, d, rfl, h, h2, h3⟩
  · exact zG_ok hn h hp
  · obtain ⟨a1, a2, a3⟩ := zG_ok hn h hp
    have := a3 rfl
    simp only [zokl, List.length_append, List.length_cons, List.length_nil]
    omega
  · obtain ⟨a1, a2, a3⟩ := zG_ok hn h hp
    have := lt _ a2 (by omega)
    have := zG_ok hn h3 (by omega)
    exact ⟨by have := this.1; omega, this.2⟩
  · obtain ⟨a1, a2, a3⟩ := zG_ok hn h hp
    have := lt _ a2 (by omega)
    obtain ⟨b1, b2, b3⟩ := zG_ok hn h3 (by omega)
    have := a3 rfl
    have := b3 rfl
    simp only [zokl, List.length_append, List.length_cons, List.length_nil]
    omega
theorem zTx_ok {t : Nat → Nat} {n : Nat} (hn : ∀ p, n ≤ p → t p = 256) {p : Nat} {r : zRes} (h : zTx t n p r) : p ≤ n → zokl n p r := by
  refine h (fun p r => p ≤ n → zokl n p r) ⟨?_, ?_, ?_, ?_⟩
  · exact fun p f h hp => zLn_ok hn h hp
  · exact fun p c h hp => zLn_ok hn h hp
  · intro p p1 c h _ hlt hp
    obtain ⟨a1, a2, a3⟩ := zLn_ok hn h hp
    exact ⟨by omega, a2⟩
  · intro p p1 c r h h2 ih hp
    obtain ⟨a1, a2, a3, a4⟩ := zLn_ok hn h hp
    have : p1 < n := by
      rcases Nat.lt_or_ge p1 n with q | q
      · exact q
      · have := hn _ q; omega
    have b := ih (by omega)
    cases r with
    | inl f => exact ⟨by have := b.1; omega, b.2⟩
    | inr x =>
      obtain ⟨q, d⟩ := x
      obtain ⟨b1, b2, b3⟩ := b
      simp only [zpre, zokl, List.length_append]
      omega
/-! the class' bytes, and the reference's -/
theorem z_xb : ∀ b, b < 256 → f_Reader_levelOf (nI b) = some (if zlev b = 9 then -1 else nI (zlev b)) ∧ f_Reader_nameOf (nI b) = some (if znam b = 9 then -1 else nI (znam b)) ∧ f_M_nameOf (nI b) = some (if znam b = 9 then -1 else nI (znam b)) ∧ f_Reader_isDigit (nI b) = some (if zdig b then 1 else 0) := by decide +kernel
theorem z_xe : f_Reader_levelOf (-1) = some (-1) ∧ f_Reader_nameOf (-1) = some (-1) ∧ f_Reader_isDigit (-1) = some 0 := by decide +kernel
def zxc (b : Nat) : Int32 := if b = 256 then -1 else nI b
def zmc (b : Nat) : Int32 := if b = 256 then 0 else nI b
theorem zxc_lev {b : Nat} (h : b ≤ 256) : f_Reader_levelOf (zxc b) = some (if zlev b = 9 then -1 else nI (zlev b)) := by
  unfold zxc
  by_cases e : b = 256
  · subst e; exact z_xe.1
  · rw [if_neg e]; exact (z_xb b (by omega)).1
theorem zxc_nam {b : Nat} (h : b ≤ 256) : f_Reader_nameOf (zxc b) = some (if znam b = 9 then -1 else nI (znam b)) := by
  unfold zxc
  by_cases e : b = 256
  · subst e; exact z_xe.2.1
  · rw [if_neg e]; exact (z_xb b (by omega)).2.1
theorem zxc_dig {b : Nat} (h : b ≤ 256) : f_Reader_isDigit (zxc b) = some (if zdig b then 1 else 0) := by
  unfold zxc
  by_cases e : b = 256
  · subst e; exact z_xe.2.2
  · rw [if_neg e]; exact (z_xb b (by omega)).2.2.2
theorem zmc_nam {b : Nat} (h : b ≤ 256) : f_M_nameOf (zmc b) = some (if znam b = 9 then -1 else nI (znam b)) := by
  unfold zmc
  by_cases e : b = 256
  · subst e; decide +kernel
  · rw [if_neg e]; exact (z_xb b (by omega)).2.2.1
theorem zxc_eq {b c : Nat} (h : b ≤ 256) (hc : c < 256) : zxc b = nI c ↔ b = c := by
  unfold zxc
  by_cases e : b = 256
  · subst e
    rw [if_pos rfl, fa_eq, nI_toInt (by omega)]
    have : (-1 : Int32).toInt = -1 := by decide
    omega
  · rw [if_neg e, nI_eq (by omega) (by omega)]
theorem zmc_eq {b c : Nat} (h : b ≤ 256) (hc : c < 256) (h0 : 0 < c) : zmc b = nI c ↔ b = c := by
  unfold zmc
  by_cases e : b = 256
  · subst e
    rw [if_pos rfl, show (0 : Int32) = nI 0 from rfl, nI_eq (by omega) (by omega)]
    omega
  · rw [if_neg e, nI_eq (by omega) (by omega)]
theorem zxc_m1 {b : Nat} (h : b ≤ 256) : zxc b = -1 ↔ b = 256 := by
  unfold zxc
  by_cases e : b = 256
  · simp [e]
  · rw [if_neg e]
    exact ⟨fun q => absurd q (z_m1i (by omega)), fun q => absurd q e⟩
theorem zdig_m {b : Nat} (h : b ≤ 256) : (¬ zmc b < 48 ∧ ¬ (57 : Int32) < zmc b) ↔ zdig b := by
  rw [zdig_iff]; unfold zmc
  by_cases e : b = 256
  · subst e; decide
  · rw [if_neg e, show (48 : Int32) = nI 48 from rfl, show (57 : Int32) = nI 57 from rfl, nI_ltI (by omega) (by omega), nI_ltI (by omega) (by omega)]
    omega
theorem znam_lt {b : Nat} : znam b = 9 ∨ znam b < 6 := by unfold znam; (repeat' split) <;> omega
theorem znam_no {b : Nat} (h : znam b < 6) : b ≠ 40 ∧ b ≠ 33 ∧ b ≠ 45 ∧ ¬ zdig b := by
  rw [zdig_iff]
  refine ⟨?_, ?_, ?_, ?_⟩
  · rintro rfl; exact absurd h (by decide)
  · rintro rfl; exact absurd h (by decide)
  · rintro rfl; exact absurd h (by decide)
  · intro hd
    have : ∀ b, b < 58 → ¬ znam b < 6 := by decide
    exact this b (by omega) h
