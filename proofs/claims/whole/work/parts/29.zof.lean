/-! the reference's steps to a set; what is told of a number; how many -/
/-- all that is a step from one of the first n, and m -/
def zor (adj : Nat → Nat) (m : Nat) : Nat → Nat
  | 0 => m
  | n + 1 => if m.testBit n then zor adj m n ||| adj n else zor adj m n
theorem zor_bit (adj : Nat → Nat) (m q : Nat) : ∀ n, (zor adj m n).testBit q = true ↔ (m.testBit q = true ∨ ∃ r, r < n ∧ m.testBit r = true ∧ (adj r).testBit q = true) := by
  intro n
  induction n with
  | zero =>
    simp only [zor]
    constructor
    · exact fun h => Or.inl h
    · rintro (h | ⟨r, h, _⟩)
      · exact h
      · omega
  | succ n ih =>
    have grow : (∃ r, r < n + 1 ∧ m.testBit r = true ∧ (adj r).testBit q = true) ↔ (∃ r, r < n ∧ m.testBit r = true ∧ (adj r).testBit q = true) ∨ (m.testBit n = true ∧ (adj n).testBit q = true) := by
      constructor
      · rintro ⟨r, h1, h2, h3⟩
        by_cases e : r = n
        · subst e; exact Or.inr ⟨h2, h3⟩
        · exact Or.inl ⟨r, by omega, h2, h3⟩
      · rintro (⟨r, h1, h2, h3⟩ | ⟨h2, h3⟩)
        · exact ⟨r, by omega, h2, h3⟩
        · exact ⟨n, by omega, h2, h3⟩
    rw [grow]
    simp only [zor]
    by_cases h : m.testBit n = true
    · rw [if_pos h, Nat.testBit_or, Bool.or_eq_true, ih]
      constructor
      · rintro ((a | a) | a)
        · exact Or.inl a
        · exact Or.inr (Or.inl a)
        · exact Or.inr (Or.inr ⟨h, a⟩)
      · rintro (a | a | a)
        · exact Or.inl (Or.inl a)
        · exact Or.inl (Or.inr a)
        · exact Or.inr a.2
    · rw [if_neg h, ih]
      constructor
      · rintro (a | a)
        · exact Or.inl a
        · exact Or.inr (Or.inl a)
      · rintro (a | a | a)
        · exact Or.inl a
        · exact Or.inr a
        · exact absurd a.1 h
theorem zor_lt {adj : Nat → Nat} {m : Nat} (hm : m < 1024) (h : ∀ p, adj p < 1024) : ∀ n, zor adj m n < 1024 := by
  intro n
  induction n with
  | zero => exact hm
  | succ n ih =>
    simp only [zor]
    split
    · exact Nat.or_lt_two_pow (n := 10) ih (h n)
    · exact ih
theorem m_steps_in {u : ZSt} {P : Nat} {adj : Nat → Nat} (hP : P ≤ 10) (h : zadj adj P) (h1 : u.1 3906 = nI P) (h2 : ∀ p, p < 10 → u.2.1 45 p = nI (adj p)) {m : Nat} (hm : m < 1024) (l2 l4 : Int32) :
    ziter (fun s => b_M_stepsTo_19 l2 (nI m) l4 s.1 s.2 u) zfu (nI m, 0) = some (nI (zor adj m P), nI P) := by
  refine zit_eq (B := fun s : Int32 × Int32 => b_M_stepsTo_19 l2 (nI m) l4 s.1 s.2 u) P (fun k => (nI (zor adj m k), nI k)) (nI (zor adj m P), nI P) (by omega) (fun k hk => ?_) ?_
  · have n1 : ¬ nI P ≤ nI k := by rw [nI_leI (by omega) (by omega)]; omega
    simp only [b_M_stepsTo_19, h1, n1, if_false, m_isIn (show m < 2 ^ 31 by omega) (show k < 32 by omega), Option.bind_some]
    by_cases e : m.testBit k = true
    · have c10 : ¬ (1 : Int32) = 0 := by decide
      simp only [e, if_true, c10, if_false, zif (zn_zin (show k < 10 by omega) (by decide)), zn_cl (show k < 2 ^ 31 by omega), h2 k (by omega), fa_or, zor, nI_1]
    · have e0 : m.testBit k = false := by simpa using e
      simp only [e0, Bool.false_eq_true, if_false, if_true, zor, nI_1]
      rw [show (0 : Int32) = nI 0 from rfl, fa_or, Nat.or_zero]
  · simp only [b_M_stepsTo_19, h1]
    simp (disch := omega) [fa_lit, nI_ltI, nI_leI, nI_eq, nI_add, pk_sub, zn_cl, zn_zin]
theorem m_stepsTo {u : ZSt} {P : Nat} {adj : Nat → Nat} (hP : P ≤ 10) (h : zadj adj P) (h1 : u.1 3906 = nI P) (h2 : ∀ p, p < 10 → u.2.1 45 p = nI (adj p)) {p S : Nat} (hp : p < 10) (hS : S < 1024) :
    ∃ t, f_M_stepsTo (nI p) (nI S) u = some (nI t) ∧ t ≤ 9 ∧ ∀ k, k ≤ 8 → (t ≤ k ↔ ∃ q, S.testBit q = true ∧ zwk (zEd adj) k p q) := by
  obtain ⟨r, r1, r2⟩ := zit (B := fun s : Int32 × Int32 => b_M_stepsTo_6 (nI S) s.1 s.2 u) 9
    (fun k s => ∃ m, m < 1024 ∧ s = (nI m, nI k) ∧ (∀ q, m.testBit q = true ↔ zwk (zEd adj) k p q) ∧ ∀ j, j < k → ¬ ∃ q, S.testBit q = true ∧ zwk (zEd adj) j p q)
    (fun r => (∃ s, r = .inl s ∧ ∀ j, j < 9 → ¬ ∃ q, S.testBit q = true ∧ zwk (zEd adj) j p q) ∨ ∃ t, t < 9 ∧ r = .inr (nI t) ∧ (∃ q, S.testBit q = true ∧ zwk (zEd adj) t p q) ∧ ∀ j, j < t → ¬ ∃ q, S.testBit q = true ∧ zwk (zEd adj) j p q)
    (by decide) (by
      rintro k s hk ⟨m, hm, rfl, hb, hno⟩
      by_cases hk9 : k < 9
      · have n1 : ¬ (9 : Int32) ≤ nI k := by rw [show (9 : Int32) = nI 9 from rfl, nI_leI (by decide) (by omega)]; omega
        by_cases hz : m &&& S = 0
        · left
          refine ⟨(nI (zor adj m P), nI (k + 1)), ?_, hk9, zor adj m P, zor_lt hm (fun q => (h q).1) P, rfl, fun q => ?_, fun j hj => ?_⟩
          · simp only [b_M_stepsTo_6, n1, if_false, fa_and, hz, show nI 0 = (0 : Int32) from rfl, if_true, m_steps_in hP h h1 h2 hm, Option.bind_some, a_M_stepsTo_19, nI_1]
          · rw [zor_bit]
            constructor
            · rintro (w | ⟨r, r1, r2, r3⟩)
              · exact Or.inl ((hb q).mp w)
              · exact Or.inr ⟨r, (hb r).mp r2, r3⟩
            · rintro (w | ⟨r, r2, r3⟩)
              · exact Or.inl ((hb q).mpr w)
              · exact Or.inr ⟨r, ((h r).2 q r3).1, (hb r).mpr r2, r3⟩
          · by_cases e : j = k
            · subst e
              rintro ⟨q, q1, q2⟩
              have := congrArg (fun n => n.testBit q) hz
              simp only [Nat.testBit_and, q1, (hb q).mpr q2, Nat.zero_testBit] at this
              exact absurd this (by decide)
            · exact hno j (by omega)
        · right
          have hlt : m &&& S < 1024 := Nat.lt_of_le_of_lt Nat.and_le_left hm
          refine ⟨.inr (nI k), ?_, Or.inr ⟨k, hk9, rfl, ?_, hno⟩⟩
          · have n2 : ¬ nI (m &&& S) = 0 := nI_ne0 (by omega) (by omega)
            simp only [b_M_stepsTo_6, n1, if_false, fa_and, n2]
          · obtain ⟨q, hq⟩ := Nat.exists_testBit_of_ne_zero hz
            rw [Nat.testBit_and, Bool.and_eq_true] at hq
            exact ⟨q, hq.2, (hb q).mp hq.1⟩
      · right
        have e : k = 9 := by omega
        subst e
        exact ⟨.inl (nI m, nI 9), by simp only [b_M_stepsTo_6]; simp (disch := omega) [fa_lit, nI_ltI, nI_leI, nI_eq, nI_add, pk_sub, zn_cl, zn_zin], Or.inl ⟨_, rfl, hno⟩⟩) (s := (nI (2 ^ p), 0)) ⟨2 ^ p, Nat.lt_of_lt_of_le (Nat.pow_lt_pow_right (by decide) hp) (by decide), rfl, fun q => by
        rw [Nat.testBit_two_pow, decide_eq_true_eq]; rfl, fun j hj => by omega⟩
  have e0 : f_M_stepsTo (nI p) (nI S) u = some (Sum.elim (fun _ => 9) id r) := by
    simp only [f_M_stepsTo, zn_p (show p < 32 by omega), r1, Option.bind_some]
    cases r <;> rfl
  rcases r2 with ⟨s, rfl, hno⟩ | ⟨t, ht, rfl, hit, hno⟩
  · refine ⟨9, e0, Nat.le_refl _, fun k hk => ⟨fun q => by omega, fun q => absurd q (hno k (by omega))⟩⟩
  · refine ⟨t, e0, by omega, fun k hk => ⟨fun q => ?_, fun q => ?_⟩⟩
    · obtain ⟨x, x1, x2⟩ := hit
      exact ⟨x, x1, zwk_mono q x2⟩
    · rcases Nat.lt_or_ge k t with w | w
      · exact absurd q (hno k w)
      · exact w
theorem m_place {a b : Nat} : f_M_placeOf (nI a) (nI b) = some (nI (6 * a + b)) := by
  simp only [f_M_placeOf]
  rw [show (6 : Int32) = nI 6 from rfl, pk_mul, nI_add]
theorem o_of {u : ZSt} {P M : Nat} {adj : Nat → Nat} (h1 : zR1 u P) (h2 : zR2 u M) (h3 : zR3 u) (h5 : zR5 u P adj) (a b : Int32) : ∃ r, f_X_of a b u = some r ∧ f_M_of a b u = some r := by
  obtain ⟨hP, p1, p2, p3⟩ := h1
  obtain ⟨hM, q1, q2⟩ := h2
  obtain ⟨hadj, -, hb, ht⟩ := h5
  have hM10 : M ≤ 10 := by omega
  have c10 : ¬ (1 : Int32) = 0 := by decide
  have cm1 : ¬ (0 : Int32) ≤ -1 := by decide
  have d10 : ¬ (10 : Int32) = 0 ∧ ¬ (10 : Int32) = 1 := by decide
  have d20 : ¬ (20 : Int32) = 0 ∧ ¬ (20 : Int32) = 1 ∧ ¬ (20 : Int32) = 10 := by decide
  have d30 : ¬ (30 : Int32) = 0 ∧ ¬ (30 : Int32) = 1 ∧ ¬ (30 : Int32) = 10 ∧ ¬ (30 : Int32) = 20 := by decide
  have tv : ∀ j, j < 126 → f_X_toldOrVoid (nI (zph j)) u = some (u.2.1 40 j) := by
    intro j hj
    have := zph_lt hj
    have n1 : (0 : Int32) ≤ nI (zph j) := nI_pos' (by omega)
    simp only [f_X_toldOrVoid, n1, if_true, x_toldAt (u := u) this, Option.bind_some, (h3 j hj).1]
  have tm : f_X_toldOrVoid (-1) u = some (-2000000000) := by simp only [f_X_toldOrVoid, cm1, if_false]
  classical
  by_cases hb0 : b = 0
  · subst hb0
    by_cases ha : zpm P M a
    · obtain ⟨p, m, hp, hm, rfl⟩ := id ha
      have hd := z_dr (show 10 * p + m < 2 ^ 31 by omega)
      rw [show (10 * p + m) / 10 = p by omega, show (10 * p + m) % 10 = m by omega] at hd
      have e := tv (6 * p + m) (by omega)
      rw [zph0 (by omega) (by omega)] at e
      refine ⟨u.2.1 40 (6 * p + m), ?_, ?_⟩
      · simp only [f_X_of, if_true, x_slotOf hP hM10 p1 q1 _ 0 (Or.inl rfl), ha, Option.bind_some]
        rw [show (0 : Int32) * 100 + nI (10 * p + m) = nI (10 * p + m) by rw [show (0 : Int32) * 100 = nI 0 by decide, nI_add, Nat.zero_add], e]
        rfl
      · simp only [f_M_of, if_true, m_isPm hP hM10 p2 q2, ha, Option.bind_some, c10, if_false, hd.1, hd.2, m_place, zif (zn_zin (show 6 * p + m < 126 by omega) (by decide)), zn_cl (show 6 * p + m < 2 ^ 31 by omega)]
    · refine ⟨-2000000000, ?_, ?_⟩
      · simp only [f_X_of, if_true, x_slotOf hP hM10 p1 q1 _ 0 (Or.inl rfl), ha, if_false, Option.bind_some, tm]
      · simp only [f_M_of, if_true, m_isPm hP hM10 p2 q2, ha, if_false, Option.bind_some]
  · by_cases hb1 : b = 1
    · subst hb1
      by_cases ha : zpm P M a
      · obtain ⟨p, m, hp, hm, rfl⟩ := id ha
        have hd := z_dr (show 10 * p + m < 2 ^ 31 by omega)
        rw [show (10 * p + m) / 10 = p by omega, show (10 * p + m) % 10 = m by omega] at hd
        have e := tv (60 + (6 * p + m)) (by omega)
        rw [zph1 (by omega) (by omega)] at e
        refine ⟨u.2.1 40 (60 + (6 * p + m)), ?_, ?_⟩
        · simp only [f_X_of, c10, if_false, if_true, x_slotOf hP hM10 p1 q1 _ 1 (Or.inr rfl), ha, Option.bind_some]
          rw [show (1 : Int32) * 100 + nI (10 * p + m) = nI (100 + (10 * p + m)) by rw [show (1 : Int32) * 100 = nI 100 by decide, nI_add], e]
          rfl
        · simp only [f_M_of, c10, if_false, if_true, m_isPm hP hM10 p2 q2, ha, Option.bind_some, hd.1, hd.2, m_place]
          rw [show (60 : Int32) + nI (6 * p + m) = nI (60 + (6 * p + m)) from nI_add 60 _, if_pos (zn_zin (show 60 + (6 * p + m) < 126 by omega) (by decide)), zn_cl (show 60 + (6 * p + m) < 2 ^ 31 by omega)]
      · refine ⟨-2000000000, ?_, ?_⟩
        · simp only [f_X_of, c10, if_false, if_true, x_slotOf hP hM10 p1 q1 _ 1 (Or.inr rfl), ha, Option.bind_some, tm]
        · simp only [f_M_of, c10, if_false, if_true, m_isPm hP hM10 p2 q2, ha, Option.bind_some]
    · by_cases hb10 : b = 10
      · subst hb10
        by_cases ha : 0 ≤ a.toInt ∧ a.toInt < P
        · obtain ⟨p, hp, rfl⟩ := z_pos ha
          obtain ⟨f, f1, f2, f3⟩ := p3 p hp
          refine ⟨nI f, ?_, ?_⟩
          · simp only [f_X_of, d10.1, d10.2, if_false, if_true, x_isPerson hP p1, ha, and_self, Option.bind_some, c10, f_Council_feeOf, zif (zn_zin (show p < 10 by omega) (by decide)), zn_cl (show p < 2 ^ 31 by omega), f2]
          · simp only [f_M_of, d10.1, d10.2, if_false, if_true, m_isPerson hP p2, ha, and_self, Option.bind_some, c10, zif (zn_zin (show p < 10 by omega) (by decide)), zn_cl (show p < 2 ^ 31 by omega), f3]
        · refine ⟨-2000000000, ?_, ?_⟩
          · simp only [f_X_of, d10.1, d10.2, if_false, if_true, x_isPerson hP p1, ha, Option.bind_some]
          · simp only [f_M_of, d10.1, d10.2, if_false, if_true, m_isPerson hP p2, ha, Option.bind_some]
      · by_cases hb20 : b = 20
        · subst hb20
          by_cases ha : 0 ≤ a.toInt ∧ a.toInt < M
          · obtain ⟨m, hm, rfl⟩ := z_pos ha
            have e := tv (120 + m) (by omega)
            rw [zph2 (by omega)] at e
            refine ⟨u.2.1 40 (120 + m), ?_, ?_⟩
            · simp only [f_X_of, d20.1, d20.2.1, d20.2.2, if_false, if_true, x_slotOf2 hM10 q1, ha, and_self, Option.bind_some]
              rw [show (200 : Int32) + nI m = nI (200 + m) from nI_add 200 m, e]
              rfl
            · simp only [f_M_of, d20.1, d20.2.1, d20.2.2, if_false, if_true, m_isMatter hM10 q2, ha, and_self, Option.bind_some, c10]
              rw [show (120 : Int32) + nI m = nI (120 + m) from nI_add 120 m, if_pos (zn_zin (show 120 + m < 126 by omega) (by decide)), zn_cl (show 120 + m < 2 ^ 31 by omega)]
          · refine ⟨-2000000000, ?_, ?_⟩
            · simp only [f_X_of, d20.1, d20.2.1, d20.2.2, if_false, if_true, x_slotOf2 hM10 q1, ha, Option.bind_some, tm]
            · simp only [f_M_of, d20.1, d20.2.1, d20.2.2, if_false, if_true, m_isMatter hM10 q2, ha, Option.bind_some]
        · by_cases hb30 : b = 30
          · subst hb30
            rcases z_int a with ha | ⟨j, hj, rfl⟩
            · refine ⟨-2000000000, ?_, ?_⟩
              · simp only [f_X_of, d30.1, d30.2.1, d30.2.2.1, d30.2.2.2, if_false, if_true, f_Council_isTwo, z_pm, ha, Option.bind_some]
              · simp only [f_M_of, d30.1, d30.2.1, d30.2.2.1, d30.2.2.2, if_false, if_true, z_pm, ha]
            · have hn : ¬ nI j < 0 := by rw [z_pm, nI_toInt hj]; omega
              by_cases hw : j / 10 < P ∧ j % 10 < P
              · obtain ⟨t, t1, t2⟩ := ht j (by omega)
                obtain ⟨s, s1, s2, s3⟩ := m_stepsTo hP hadj p2 hb (p := j / 10) (S := 2 ^ (j % 10)) (by omega) (Nat.lt_of_lt_of_le (Nat.pow_lt_pow_right (by decide) (show j % 10 < 10 by omega)) (by decide))
                have hs : zcel (zEd adj) s (j / 10) (j % 10) := by
                  refine ⟨s2, fun k hk => (s3 k hk).trans ⟨?_, fun w => ⟨j % 10, by rw [Nat.testBit_two_pow, decide_eq_true_eq], w⟩⟩⟩
                  rintro ⟨q, e, w⟩
                  rw [Nat.testBit_two_pow, decide_eq_true_eq] at e
                  rw [e]; exact w
                have e := zcel_uniq hs t2
                subst e
                refine ⟨nI s, ?_, ?_⟩
                · simp only [f_X_of, d30.1, d30.2.1, d30.2.2.1, d30.2.2.2, if_false, if_true, x_isTwo hP p1 hj, hw, and_self, Option.bind_some, c10, (z_dr hj).1, (z_dr hj).2]
                  rw [x_stepsOf (by omega) (by omega), show 10 * (j / 10) + j % 10 = j by omega, t1]
                  rfl
                · simp only [f_M_of, d30.1, d30.2.1, d30.2.2.1, d30.2.2.2, if_false, if_true, hn, (z_dr hj).1, (z_dr hj).2, m_isPerson hP p2, Option.bind_some, z_lt2 (show j / 10 < 2 ^ 31 by omega), z_lt2 (show j % 10 < 2 ^ 31 by omega), hw.1, hw.2, c10, zn_p (show j % 10 < 32 by omega), s1]
              · refine ⟨-2000000000, ?_, ?_⟩
                · simp only [f_X_of, d30.1, d30.2.1, d30.2.2.1, d30.2.2.2, if_false, if_true, x_isTwo hP p1 hj, hw, Option.bind_some]
                · simp only [f_M_of, d30.1, d30.2.1, d30.2.2.1, d30.2.2.2, if_false, if_true, hn, (z_dr hj).1, (z_dr hj).2, m_isPerson hP p2, Option.bind_some, z_lt2 (show j / 10 < 2 ^ 31 by omega), z_lt2 (show j % 10 < 2 ^ 31 by omega), z_it]
                  by_cases e1 : j / 10 < P
                  · by_cases e2 : j % 10 < P
                    · exact absurd ⟨e1, e2⟩ hw
                    · simp only [e1, e2, not_true_eq_false, not_false_eq_true, if_true, if_false]
                  · simp only [e1, not_false_eq_true, if_true]
          · refine ⟨-2000000000, ?_, ?_⟩
            · simp only [f_X_of, hb0, hb1, hb10, hb20, hb30, if_false]
            · simp only [f_M_of, hb0, hb1, hb10, hb20, hb30, if_false]
theorem o_count {u : ZSt} {P M B : Nat} {adj : Nat → Nat} (h1 : zR1 u P) (h2 : zR2 u M) (h4 : zR4 u) (h5 : zR5 u P adj) (h7 : zR7 u) (h10 : zR10 u B) (a : Int32) : ∃ r, f_X_count a u = some r ∧ f_M_count a u = some r := by
  obtain ⟨-, p1, p2, -⟩ := h1
  obtain ⟨-, q1, q2⟩ := h2
  obtain ⟨D, K, -, -, d1, d2, -⟩ := h4
  obtain ⟨-, ⟨C, -, c1, c2⟩, -⟩ := h5
  obtain ⟨n, -, n1, n2, -⟩ := h7
  obtain ⟨-, b1, b2, -, r, -, r1, r2, -⟩ := h10
  simp only [f_X_count, f_M_count, f_Changes_undoable, f_Voters_size, f_Voters_ranInAll, Option.bind_some, p1, p2, q1, q2, d1, d2, c1, c2, n1, n2, b1, b2, r1, r2]
  refine (?_ : ∃ r, _ = some r).elim fun r h => ⟨r, h, h⟩
  repeat' split
  all_goals exact ⟨_, rfl⟩
