/-! cousins and steps -/
def zEd (adj : Nat → Nat) (p q : Nat) : Prop := (adj p).testBit q = true
/-- within k steps -/
def zwk (E : Nat → Nat → Prop) : Nat → Nat → Nat → Prop
  | 0, p, q => p = q
  | k + 1, p, q => zwk E k p q ∨ ∃ r, zwk E k p r ∧ E r q
theorem zwk_mono {E : Nat → Nat → Prop} {k l p q : Nat} (h : k ≤ l) (w : zwk E k p q) : zwk E l p q := by
  induction h with
  | refl => exact w
  | step _ ih => exact Or.inl ih
theorem zwk_app {E : Nat → Nat → Prop} {k p r : Nat} (h : zwk E k p r) : ∀ {l q : Nat}, zwk E l r q → zwk E (k + l) p q := by
  intro l
  induction l with
  | zero => intro q w; cases w; exact h
  | succ l ih =>
    intro q w
    rcases w with w | ⟨s, w, e⟩
    · exact Or.inl (ih w)
    · exact Or.inr ⟨s, ih w, e⟩
theorem zwk_sub {E F : Nat → Nat → Prop} (h : ∀ p q, E p q → F p q) : ∀ {k p q : Nat}, zwk E k p q → zwk F k p q := by
  intro k
  induction k with
  | zero => intro p q w; exact w
  | succ k ih =>
    intro p q w
    rcases w with w | ⟨s, w, e⟩
    · exact Or.inl (ih w)
    · exact Or.inr ⟨s, ih w, h _ _ e⟩
def zEe (E : Nat → Nat → Prop) (a b p q : Nat) : Prop := E p q ∨ (p = a ∧ q = b) ∨ (p = b ∧ q = a)
theorem zwk_new {E : Nat → Nat → Prop} {a b i : Nat} : ∀ {k j : Nat}, zwk (zEe E a b) k i j → zwk E k i j ∨ (∃ k1 k2, k1 + 1 + k2 ≤ k ∧ zwk E k1 i a ∧ zwk E k2 b j) ∨ (∃ k1 k2, k1 + 1 + k2 ≤ k ∧ zwk E k1 i b ∧ zwk E k2 a j) := by
  intro k
  induction k with
  | zero => intro j w; exact Or.inl w
  | succ k ih =>
    intro j w
    rcases w with w | ⟨r, w, e⟩
    · rcases ih w with h | ⟨k1, k2, h, h1, h2⟩ | ⟨k1, k2, h, h1, h2⟩
      · exact Or.inl (Or.inl h)
      · exact Or.inr (Or.inl ⟨k1, k2, by omega, h1, h2⟩)
      · exact Or.inr (Or.inr ⟨k1, k2, by omega, h1, h2⟩)
    · rcases ih w with h | ⟨k1, k2, h, h1, h2⟩ | ⟨k1, k2, h, h1, h2⟩
      · rcases e with e | ⟨rfl, rfl⟩ | ⟨rfl, rfl⟩
        · exact Or.inl (Or.inr ⟨r, h, e⟩)
        · exact Or.inr (Or.inl ⟨k, 0, by omega, h, rfl⟩)
        · exact Or.inr (Or.inr ⟨k, 0, by omega, h, rfl⟩)
      · rcases e with e | ⟨rfl, rfl⟩ | ⟨rfl, rfl⟩
        · exact Or.inr (Or.inl ⟨k1, k2 + 1, by omega, h1, Or.inr ⟨r, h2, e⟩⟩)
        · exact Or.inr (Or.inl ⟨k1, 0, by omega, h1, rfl⟩)
        · exact Or.inl (zwk_mono (by omega) h1)
      · rcases e with e | ⟨rfl, rfl⟩ | ⟨rfl, rfl⟩
        · exact Or.inr (Or.inr ⟨k1, k2 + 1, by omega, h1, Or.inr ⟨r, h2, e⟩⟩)
        · exact Or.inl (zwk_mono (by omega) h1)
        · exact Or.inr (Or.inr ⟨k1, 0, by omega, h1, rfl⟩)
/-- a number of steps: 9 where more are needed than 8 -/
def zcel (E : Nat → Nat → Prop) (t i j : Nat) : Prop := t ≤ 9 ∧ ∀ k, k ≤ 8 → (t ≤ k ↔ zwk E k i j)
theorem zcel_uniq {E : Nat → Nat → Prop} {s t i j : Nat} (hs : zcel E s i j) (ht : zcel E t i j) : s = t := by
  have h1 := hs.1
  have h2 := ht.1
  rcases Nat.lt_trichotomy s t with h | h | h
  · have := (ht.2 s (by omega)).mpr ((hs.2 s (by omega)).mp (Nat.le_refl _)); omega
  · exact h
  · have := (hs.2 t (by omega)).mpr ((ht.2 t (by omega)).mp (Nat.le_refl _)); omega
theorem zE2_sub {E : Nat → Nat → Prop} {a b : Nat} : ∀ p q, E p q → zEe E a b p q := fun _ _ h => Or.inl h
theorem zcel_half {E : Nat → Nat → Prop} {a b x i j : Nat} (h : zcel E x i j ∨ zcel (zEe E a b) x i j) : (∀ k, k ≤ 8 → zwk E k i j → x ≤ k) ∧ (x ≤ 8 → zwk (zEe E a b) x i j) := by
  rcases h with h | h
  · exact ⟨fun k hk w => (h.2 k hk).mpr w, fun hx => zwk_sub zE2_sub ((h.2 x hx).mp (Nat.le_refl _))⟩
  · exact ⟨fun k hk w => (h.2 k hk).mpr (zwk_sub zE2_sub w), fun hx => (h.2 x hx).mp (Nat.le_refl _)⟩
theorem zcel_new {E : Nat → Nat → Prop} {a b t x y z w i j : Nat} (ht : zcel E t i j) (hx : zcel E x i a ∨ zcel (zEe E a b) x i a) (hy : zcel E y b j ∨ zcel (zEe E a b) y b j) (hz : zcel E z i b ∨ zcel (zEe E a b) z i b) (hw : zcel E w a j ∨ zcel (zEe E a b) w a j) :
    zcel (zEe E a b) (min t (min (x + 1 + y) (z + 1 + w))) i j := by
  obtain ⟨x1, x2⟩ := zcel_half hx
  obtain ⟨y1, y2⟩ := zcel_half hy
  obtain ⟨z1, z2⟩ := zcel_half hz
  obtain ⟨w1, w2⟩ := zcel_half hw
  refine ⟨Nat.le_trans (Nat.min_le_left _ _) ht.1, fun k hk => ⟨fun h => ?_, fun h => ?_⟩⟩
  · by_cases h1 : t ≤ k
    · exact zwk_sub zE2_sub ((ht.2 k hk).mp h1)
    · by_cases h2 : x + 1 + y ≤ k
      · have e : zwk (zEe E a b) (x + 1) i b := Or.inr ⟨a, x2 (by omega), Or.inr (Or.inl ⟨rfl, rfl⟩)⟩
        exact zwk_mono h2 (zwk_app e (y2 (by omega)))
      · have h3 : z + 1 + w ≤ k := by omega
        have e : zwk (zEe E a b) (z + 1) i a := Or.inr ⟨b, z2 (by omega), Or.inr (Or.inr ⟨rfl, rfl⟩)⟩
        exact zwk_mono h3 (zwk_app e (w2 (by omega)))
  · rcases zwk_new h with h | ⟨k1, k2, h, h1, h2⟩ | ⟨k1, k2, h, h1, h2⟩
    · have := (ht.2 k hk).mpr h; omega
    · have := x1 k1 (by omega) h1
      have := y1 k2 (by omega) h2
      omega
    · have := z1 k1 (by omega) h1
      have := w1 k2 (by omega) h2
      omega
def zadj (adj : Nat → Nat) (P : Nat) : Prop := ∀ p, adj p < 1024 ∧ ∀ q, (adj p).testBit q = true → p < P ∧ q < P ∧ p ≠ q ∧ (adj q).testBit p = true
def zR5 (u : ZSt) (P : Nat) (adj : Nat → Nat) : Prop := zadj adj P ∧ (∃ C : Nat, C ≤ 12 ∧ u.1 104 = nI C ∧ u.1 3909 = nI C) ∧ (∀ p, p < 10 → u.2.1 45 p = nI (adj p)) ∧ ∀ j, j < 100 → ∃ t, u.2.1 3 j = nI t ∧ zcel (zEd adj) t (j / 10) (j % 10)
theorem zmin_n {a b : Nat} (ha : a < 2 ^ 31) (hb : b < 2 ^ 31) : zmin (nI a) (nI b) = nI (min a b) := by
  unfold zmin
  simp only [nI_ltI hb ha]
  split
  · congr 1; omega
  · congr 1; omega
theorem x_stepsOf {u : ZSt} {p q : Nat} (hp : p < 10) (hq : q < 10) : f_Council_stepsOf (nI p) (nI q) u = some (u.2.1 3 (10 * p + q)) := by
  have h1 : ¬ 100 ≤ 10 * p + q := by omega
  have h2 : 10 * p + q < 100 := by omega
  simp only [f_Council_stepsOf]
  simp (disch := omega) [fa_lit, nI_ltI, nI_leI, nI_eq, nI_add, pk_sub, zn_cl, zn_zin, pk_mul, h1, h2]
theorem x_isTwo {u : ZSt} {P : Nat} (hP : P ≤ 10) (h : u.1 103 = nI P) {j : Nat} (hj : j < 2 ^ 31) : f_Council_isTwo (nI j) u = some (if j / 10 < P ∧ j % 10 < P then 1 else 0) := by
  have hn : ¬ nI j < 0 := by rw [z_pm, nI_toInt hj]; omega
  simp only [f_Council_isTwo, hn, if_false, (z_dr hj).1, (z_dr hj).2, x_isPerson hP h, Option.bind_some, z_lt2 (show j / 10 < 2 ^ 31 by omega), z_lt2 (show j % 10 < 2 ^ 31 by omega), z_it]
  by_cases h3 : j / 10 < P <;> by_cases h4 : j % 10 < P <;> simp [h3, h4]
theorem m_isIn {a p : Nat} (ha : a < 2 ^ 31) (hp : p < 32) : f_M_isIn (nI a) (nI p) = some (if a.testBit p then 1 else 0) := by
  simp only [f_M_isIn, zb_s ha hp]
  by_cases h : a.testBit p <;> simp [h]
theorem x_pairs_loop {u : ZSt} {E : Nat → Nat → Prop} {a b : Nat} (ha : a < 10) (hb : b < 10) (h : ∀ j, j < 100 → ∃ t, u.2.1 3 j = nI t ∧ zcel E t (j / 10) (j % 10)) :
    ∃ v i, ziter (fun s => b_Council_addPair_22 (nI a) (nI b) s.1 s.2) zfu (0, u) = some (i, v) ∧ (∀ j, j < 100 → ∃ t, v.2.1 3 j = nI t ∧ zcel (zEe E a b) t (j / 10) (j % 10)) ∧ zfr [] [3] [] u v := by
  obtain ⟨s, h1, h2⟩ := zit (B := fun s : Int32 × ZSt => b_Council_addPair_22 (nI a) (nI b) s.1 s.2) 100
    (fun k s => s.1 = nI k ∧ (∀ j, j < 100 → ∃ t, s.2.2.1 3 j = nI t ∧ (if j < k then zcel (zEe E a b) t (j / 10) (j % 10) else zcel E t (j / 10) (j % 10))) ∧ zfr [] [3] [] u s.2)
    (fun s => (∀ j, j < 100 → ∃ t, s.2.2.1 3 j = nI t ∧ zcel (zEe E a b) t (j / 10) (j % 10)) ∧ zfr [] [3] [] u s.2) (by decide) (by
      rintro k ⟨i, v⟩ hk ⟨g1, g2, g3⟩
      dsimp only at g1 g2 g3 ⊢
      subst g1
      have eith : ∀ i j, i < 10 → j < 10 → ∃ t, v.2.1 3 (10 * i + j) = nI t ∧ t ≤ 9 ∧ (zcel E t i j ∨ zcel (zEe E a b) t i j) := by
        intro i j hi hj
        obtain ⟨t, t1, t2⟩ := g2 (10 * i + j) (by omega)
        rw [show (10 * i + j) / 10 = i by omega, show (10 * i + j) % 10 = j by omega] at t2
        split at t2
        · exact ⟨t, t1, t2.1, Or.inr t2⟩
        · exact ⟨t, t1, t2.1, Or.inl t2⟩
      by_cases hk2 : k < 100
      · left
        have n1 : ¬ (100 : Int32) ≤ nI k := by rw [show (100 : Int32) = nI 100 from rfl, nI_leI (by decide) (by omega)]; omega
        obtain ⟨x, x1, x2, x3⟩ := eith (k / 10) a (by omega) ha
        obtain ⟨y, y1, y2, y3⟩ := eith b (k % 10) hb (by omega)
        obtain ⟨z, z1, z2, z3⟩ := eith (k / 10) b (by omega) hb
        obtain ⟨w, w1, w2, w3⟩ := eith a (k % 10) ha (by omega)
        obtain ⟨t, t1, t2⟩ := g2 k hk2
        rw [if_neg (Nat.lt_irrefl k)] at t2
        have t9 := t2.1
        refine ⟨(nI (k + 1), za v 3 k (nI (min t (min (x + 1 + y) (z + 1 + w))))), ?_, hk2, rfl, fun j hj => ?_, g3.a _ (by decide)⟩
        · simp only [b_Council_addPair_22, n1, if_false, (z_dr (show k < 2 ^ 31 by omega)).1, (z_dr (show k < 2 ^ 31 by omega)).2]
          rw [x_stepsOf (by omega) ha, x_stepsOf hb (by omega), x_stepsOf (by omega) hb, x_stepsOf ha (by omega)]
          simp only [Option.bind_some, zif (zn_zin hk2 (by decide)), zn_cl (show k < 2 ^ 31 by omega), x1, y1, z1, w1, t1, nI_1, nI_add]
          rw [zmin_n (a := x + 1 + y) (b := z + 1 + w) (by omega) (by omega), zmin_n (by omega) (by omega)]
        · simp only [za2, if_true, upd1]
          by_cases e : j = k
          · subst e
            rw [if_pos rfl]
            exact ⟨_, rfl, by rw [if_pos (by omega)]; exact zcel_new t2 x3 y3 z3 w3⟩
          · rw [if_neg e]
            obtain ⟨t', q1, q2⟩ := g2 j hj
            refine ⟨t', q1, ?_⟩
            by_cases e2 : j < k
            · rw [if_pos e2] at q2; rw [if_pos (by omega)]; exact q2
            · rw [if_neg e2] at q2; rw [if_neg (by omega)]; exact q2
      · right
        have e : k = 100 := by omega
        subst e
        refine ⟨(nI 100, v), by simp only [b_Council_addPair_22]; simp (disch := omega) [fa_lit, nI_ltI, nI_leI, nI_eq, nI_add, pk_sub, zn_cl, zn_zin], fun j hj => ?_, g3⟩
        obtain ⟨t, q1, q2⟩ := g2 j hj
        rw [if_pos hj] at q2
        exact ⟨t, q1, q2⟩) (s := (0, u)) ⟨rfl, fun j hj => by
          obtain ⟨t, q1, q2⟩ := h j hj
          exact ⟨t, q1, by rw [if_neg (Nat.not_lt_zero _)]; exact q2⟩, zfr_rf u⟩
  exact ⟨s.2, s.1, h1, h2⟩
/-- a pair more -/
def zadd (adj : Nat → Nat) (a b : Nat) : Nat → Nat := fun r => if r = b then adj b ||| 2 ^ a else if r = a then adj a ||| 2 ^ b else adj r
theorem zadd_E {adj : Nat → Nat} {a b : Nat} (hab : a ≠ b) (p q : Nat) : zEd (zadd adj a b) p q ↔ zEe (zEd adj) a b p q := by
  simp only [zEd, zEe, zadd]
  by_cases h1 : p = b
  · subst h1
    have h2 : ¬ p = a := fun e => hab e.symm
    simp only [if_true, Nat.testBit_or, Nat.testBit_two_pow, Bool.or_eq_true, decide_eq_true_eq, h2, false_and, true_and, false_or]
    constructor
    · rintro (h | h)
      · exact Or.inl h
      · exact Or.inr h.symm
    · rintro (h | h)
      · exact Or.inl h
      · exact Or.inr h.symm
  · by_cases h2 : p = a
    · subst h2
      simp only [h1, if_false, if_true, Nat.testBit_or, Nat.testBit_two_pow, Bool.or_eq_true, decide_eq_true_eq, false_and, true_and, or_false]
      constructor
      · rintro (h | h)
        · exact Or.inl h
        · exact Or.inr h.symm
      · rintro (h | h)
        · exact Or.inl h
        · exact Or.inr h.symm
    · simp only [h1, h2, if_false, false_and, or_false]
theorem zadd_ok {adj : Nat → Nat} {a b P : Nat} (h : zadj adj P) (ha : a < P) (hb : b < P) (hP : P ≤ 10) (hab : a ≠ b) : zadj (zadd adj a b) P := by
  intro p
  refine ⟨?_, fun q hq => ?_⟩
  · have h2 : ∀ x, x < 10 → 2 ^ x < 1024 := fun x hx => Nat.lt_of_lt_of_le (Nat.pow_lt_pow_right (by decide) hx) (by decide)
    unfold zadd
    split
    · exact Nat.or_lt_two_pow (n := 10) (h b).1 (h2 a (by omega))
    · split
      · exact Nat.or_lt_two_pow (n := 10) (h a).1 (h2 b (by omega))
      · exact (h p).1
  · have e := (zadd_E hab p q).mp hq
    have back : zEe (zEd adj) a b q p → (zadd adj a b q).testBit p = true := fun w => (zadd_E hab q p).mpr w
    rcases e with e | ⟨rfl, rfl⟩ | ⟨rfl, rfl⟩
    · obtain ⟨e1, e2, e3, e4⟩ := (h p).2 q e
      exact ⟨e1, e2, e3, back (Or.inl e4)⟩
    · exact ⟨ha, hb, hab, back (Or.inr (Or.inr ⟨rfl, rfl⟩))⟩
    · exact ⟨hb, ha, fun e => hab e.symm, back (Or.inr (Or.inl ⟨rfl, rfl⟩))⟩
theorem zcel_congr {E F : Nat → Nat → Prop} (h : ∀ p q, E p q ↔ F p q) {t i j : Nat} (hc : zcel E t i j) : zcel F t i j :=
  ⟨hc.1, fun k hk => (hc.2 k hk).trans ⟨zwk_sub fun p q w => (h p q).mp w, zwk_sub fun p q w => (h p q).mpr w⟩⟩
theorem zcel_1 {E : Nat → Nat → Prop} {t i j : Nat} (h : zcel E t i j) : t ≤ 1 ↔ (i = j ∨ E i j) := by
  rw [h.2 1 (by decide)]
  constructor
  · rintro (w | ⟨r, w, e⟩)
    · exact Or.inl w
    · cases w; exact Or.inr e
  · rintro (w | w)
    · exact Or.inl w
    · exact Or.inr ⟨i, rfl, w⟩
theorem o_cousins {u : ZSt} {P : Nat} {adj : Nat → Nat} (h1 : zR1 u P) (h5 : zR5 u P adj) (a : Int32) : ∃ r u1 u2 adj2, f_X_cousins a u = some (r, u1) ∧ f_M_cousins a u1 = some (r, u2) ∧ zR5 u2 P adj2 ∧ zfr [104, 3909] [3, 45] [] u u2 := by
  obtain ⟨hP, p1, p2, -⟩ := h1
  obtain ⟨hadj, ⟨C, hC, c1, c2⟩, hb, ht⟩ := id h5
  have c10 : ¬ (1 : Int32) = 0 := by decide
  have same : ∀ x, f_X_cousins a u = some (x, u) → f_M_cousins a u = some (x, u) → ∃ r u1 u2 adj2, f_X_cousins a u = some (r, u1) ∧ f_M_cousins a u1 = some (r, u2) ∧ zR5 u2 P adj2 ∧ zfr [104, 3909] [3, 45] [] u u2 :=
    fun x g1 g2 => ⟨x, u, u, adj, g1, g2, h5, zfr_rf u⟩
  rcases z_int a with ha | ⟨j, hj, rfl⟩
  · refine same (-1) ?_ ?_
    · simp only [f_X_cousins, f_Council_isTwo, z_pm, ha, if_true, Option.bind_some]
    · simp only [f_M_cousins, z_pm, ha, if_true]
  · have hn : ¬ nI j < 0 := by rw [z_pm, nI_toInt hj]; omega
    have hx : f_X_cousins (nI j) u = if j / 10 < P ∧ j % 10 < P then f_Council_addPair (nI (j / 10)) (nI (j % 10)) u else some (-1, u) := by
      simp only [f_X_cousins, x_isTwo hP p1 hj, Option.bind_some, z_it, (z_dr hj).1, (z_dr hj).2]
      by_cases e : j / 10 < P ∧ j % 10 < P
      · simp only [e, and_self, not_true_eq_false, if_false, if_true]
        cases f_Council_addPair (nI (j / 10)) (nI (j % 10)) u <;> rfl
      · simp only [e, not_false_eq_true, if_false, if_true]
    by_cases hw : j / 10 < P ∧ j % 10 < P
    · obtain ⟨t, t1, t2⟩ := ht j (by omega)
      have t9 := t2.1
      have tw := zcel_1 t2
      have hs : f_Council_stepsOf (nI (j / 10)) (nI (j % 10)) u = some (nI t) := by
        rw [x_stepsOf (by omega) (by omega), show 10 * (j / 10) + j % 10 = j by omega, t1]
      have hm : ∀ v : ZSt, v.1 3906 = nI P → v.1 3909 = nI C → (∀ p, p < 10 → v.2.1 45 p = nI (adj p)) → f_M_cousins (nI j) v = if t ≤ 1 then some (-1, v) else if C = 12 then some (-3, v) else
          some (nI (C + 1), zs (za (za v 45 (j / 10) (nI (adj (j / 10) ||| 2 ^ (j % 10)))) 45 (j % 10) (nI (adj (j % 10) ||| 2 ^ (j / 10)))) 3909 (nI (C + 1))) := by
        intro v v1 v2 v3
        have b1 := (hadj (j / 10)).1
        have b2 := (hadj (j % 10)).1
        simp only [f_M_cousins, hn, if_false, (z_dr hj).1, (z_dr hj).2, m_isPerson hP v1, Option.bind_some, z_lt2 (show j / 10 < 2 ^ 31 by omega), z_lt2 (show j % 10 < 2 ^ 31 by omega), hw.1, hw.2, if_true, c10, nI_eq (show j / 10 < 2 ^ 31 by omega) (show j % 10 < 2 ^ 31 by omega)]
        by_cases e1 : j / 10 = j % 10
        · rw [if_pos e1, if_pos (tw.mpr (Or.inl e1))]
        · simp only [e1, if_false, zif (zn_zin (show j / 10 < 10 by omega) (by decide)), zn_cl (show j / 10 < 2 ^ 31 by omega), v3 (j / 10) (by omega), m_isIn (show adj (j / 10) < 2 ^ 31 by omega) (show j % 10 < 32 by omega), Option.bind_some]
          by_cases e2 : (adj (j / 10)).testBit (j % 10) = true
          · rw [if_pos (tw.mpr (Or.inr e2)), if_pos e2, if_neg c10]
          · have e3 : ¬ t ≤ 1 := fun q => (tw.mp q).elim e1 e2
            rw [if_neg e3, if_neg e2, if_pos rfl, v2]
            by_cases e4 : C = 12
            · rw [if_pos (show nI C = 12 by rw [e4]; rfl), if_pos e4]
            · rw [if_neg (show ¬ nI C = 12 by rw [show (12 : Int32) = nI 12 from rfl, nI_eq (by omega) (by decide)]; exact e4), if_neg e4]
              have d1 : (za v 45 (j / 10) (nI (adj (j / 10)) ||| nI (2 ^ (j % 10)))).2.1 45 (j % 10) = nI (adj (j % 10)) := by
                simp only [za2, if_true, upd1]
                rw [if_neg (fun q => e1 q.symm), v3 _ (by omega)]
              simp only [zif (zn_zin (show j / 10 < 10 by omega) (by decide)), zif (zn_zin (show j % 10 < 10 by omega) (by decide)), zn_cl (show j / 10 < 2 ^ 31 by omega), zn_cl (show j % 10 < 2 ^ 31 by omega), v3 (j / 10) (by omega), zn_p (show j % 10 < 32 by omega), zn_p (show j / 10 < 32 by omega), d1]
              simp only [fa_or, nI_1]
      have hx2 : f_Council_addPair (nI (j / 10)) (nI (j % 10)) u = if t ≤ 1 then some (-1, u) else if C = 12 then some (-3, u) else
          (ziter (fun s => b_Council_addPair_22 (nI (j / 10)) (nI (j % 10)) s.1 s.2) zfu (0, (zs u 104 (nI (C + 1))))).bind (fun s => a_Council_addPair_22  s.2) := by
        simp only [f_Council_addPair, hs, Option.bind_some, c1, show (2 : Int32) = nI 2 from rfl, nI_leI (show 2 < 2 ^ 31 by decide) (show t < 2 ^ 31 by omega), show (12 : Int32) = nI 12 from rfl, nI_ltI (show C < 2 ^ 31 by omega) (show 12 < 2 ^ 31 by decide), nI_1]
        by_cases e1 : t ≤ 1
        · rw [if_pos e1, if_neg (by omega)]
        · rw [if_neg e1, if_pos (by omega)]
          by_cases e2 : C = 12
          · rw [if_pos e2, if_neg (by omega)]
          · rw [if_neg e2, if_pos (by omega)]
      by_cases e1 : t ≤ 1
      · refine same (-1) ?_ ?_
        · rw [hx, if_pos hw, hx2, if_pos e1]
        · rw [hm u p2 c2 hb, if_pos e1]
      · by_cases e2 : C = 12
        · refine same (-3) ?_ ?_
          · rw [hx, if_pos hw, hx2, if_neg e1, if_pos e2]
          · rw [hm u p2 c2 hb, if_neg e1, if_pos e2]
        · have e3 : j / 10 ≠ j % 10 := fun q => e1 (tw.mpr (Or.inl q))
          obtain ⟨v, i, v1, v2, v3⟩ := x_pairs_loop (u := zs u 104 (nI (C + 1))) (E := zEd adj) (a := j / 10) (b := j % 10) (by omega) (by omega) ht
          have w1 : f_X_cousins (nI j) u = some (nI (C + 1), v) := by
            rw [hx, if_pos hw, hx2, if_neg e1, if_neg e2, v1]
            simp only [Option.bind_some, a_Council_addPair_22, v3.g 104]
            rfl
          refine ⟨nI (C + 1), v, zs (za (za v 45 (j / 10) (nI (adj (j / 10) ||| 2 ^ (j % 10)))) 45 (j % 10) (nI (adj (j % 10) ||| 2 ^ (j / 10)))) 3909 (nI (C + 1)), zadd adj (j / 10) (j % 10), w1, ?_, ⟨zadd_ok hadj hw.1 hw.2 hP e3, ⟨C + 1, by omega, ?_, rfl⟩, fun p hp => ?_, fun k hk => ?_⟩, ?_⟩
          · rw [hm v ((v3.g 3906).trans p2) ((v3.g 3909).trans c2) (fun p hp => by rw [v3.ga 45]; exact hb p hp), if_neg e1, if_neg e2]
          · show v.1 104 = _
            rw [v3.g 104]; rfl
          · simp only [zs2, za2, if_true, upd1, zadd]
            by_cases q1 : p = j % 10
            · rw [if_pos q1, if_pos q1]
            · rw [if_neg q1, if_neg q1]
              by_cases q2 : p = j / 10
              · rw [if_pos q2, if_pos q2]
              · rw [if_neg q2, if_neg q2, v3.ga 45]
                exact hb p hp
          · obtain ⟨t', q1, q2⟩ := v2 k hk
            exact ⟨t', q1, zcel_congr (fun p q => (zadd_E e3 p q).symm) q2⟩
          · exact (((((zfr_rf u).s _ (by decide)).tr (v3.mono (by decide) (by decide) (by decide))).a _ (by decide)).a _ (by decide)).s _ (by decide)
    · refine same (-1) ?_ ?_
      · rw [hx, if_neg hw]
      · simp only [f_M_cousins, hn, if_false, (z_dr hj).1, (z_dr hj).2, m_isPerson hP p2, Option.bind_some, z_lt2 (show j / 10 < 2 ^ 31 by omega), z_lt2 (show j % 10 < 2 ^ 31 by omega), z_it]
        by_cases q1 : j / 10 < P
        · by_cases q2 : j % 10 < P
          · exact absurd ⟨q1, q2⟩ hw
          · simp only [q1, q2, not_true_eq_false, not_false_eq_true, if_true, if_false]
        · simp only [q1, not_false_eq_true, if_true]
