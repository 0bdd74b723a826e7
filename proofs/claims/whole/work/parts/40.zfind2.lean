/-! leaveOut, alone, say, hermit, lies, step -/
def zg3 (S A : Nat → Bool) (k : Nat) (x : Option Nat) : Option Nat := if (S k && zfew k x && A k) = true then some k else x
theorem o_leaveOut {u : ZSt} {P M : Nat} {adj : Nat → Nat} (h : zRB u P M adj) (a b : Int32) : ∃ r u1 u2, f_X_leaveOut a b u = some (r, u1) ∧ f_M_leaveOut a b u1 = some (r, u2) ∧ zsc u u2 := by
  have hP := h.1.1
  have hM := h.2.1.1
  have hM10 : M ≤ 10 := by omega
  have c10 : ¬ (1 : Int32) = 0 := by decide
  have x1 := x_isPerson hP h.1.2.1 a
  have m1 := m_isPerson hP h.1.2.2.1 a
  have x2 := x_isBundle hM10 h.2.1.2.1 b
  have m2 := m_isBundle hM10 h.2.1.2.2 b
  by_cases ha : 0 ≤ a.toInt ∧ a.toInt < P
  · rw [if_pos ha] at x1 m1
    by_cases hb : 1 ≤ b.toInt ∧ b.toInt < ((2 ^ M : Nat) : Int)
    · rw [if_pos hb] at x2 m2
      obtain ⟨p, hp, rfl⟩ := z_pos ha
      obtain ⟨B, hB1, hB2, rfl⟩ := z_bund hb
      have hB3 := z_1024 hM10 hB2
      have hq : ∀ k, k < 1024 → (nI k &&& (nI B ^^^ (-1 : Int32)) = 0) = (k &&& (B ^^^ 1023) = 0) := by
        intro k hk
        have := z_and_lt hk (B ^^^ 1023)
        rw [z_andn hk, show (0 : Int32) = nI 0 from rfl]
        exact propext (nI_eq (by omega) (by decide))
      have hW : ∀ k, zW u P M (B &&& (k ^^^ 1023)) (B &&& (k ^^^ 1023)) 0 < 1024 := fun k => zW_lt h (z_and_lt hB3 _) (z_and_lt hB3 _) (by decide)
      generalize hA : (fun k => (zW u P M (B &&& (k ^^^ 1023)) (B &&& (k ^^^ 1023)) 0).testBit p) = A
      have hA' : ∀ k, (zW u P M (B &&& (k ^^^ 1023)) (B &&& (k ^^^ 1023)) 0).testBit p = A k := fun k => by rw [← hA]
      generalize hS : (fun k => decide (k &&& (B ^^^ 1023) = 0)) = S
      have hS' : ∀ k, (k &&& (B ^^^ 1023) = 0) = (S k = true) := fun k => by rw [← hS]; exact propext (by simp)
      obtain ⟨v, v1, v2⟩ := zit_f (B := fun s : Int32 × Int32 × ZSt => b_Finder_fewestLeftOut_4 (nI p) (nI B) s.1 s.2.1 s.2.2) (fun k x v => (zbst x, nI k, v)) (fun x v => (zbst x, nI B, v))
        (fun k x v => zsc u v ∧ zIo x) (zg3 S A) (a := 0) (n := B) (x := none) (v := u) (Nat.zero_le _) (by omega)
        (by
          rintro k x v hk1 hk ⟨hv, hx⟩
          have n1 : ¬ nI B ≤ nI k := by rw [nI_leI (by omega) (by omega)]; omega
          have hk3 : k < 1024 := by omega
          obtain ⟨y, y1, y2⟩ := (zW_ok h (z_and_lt hB3 (k ^^^ 1023)) (z_and_lt hB3 (k ^^^ 1023)) (g := 0) (by decide)).2.1 v hv
          have y1' : f_Ballot_whoMay (nI B &&& (nI k ^^^ (-1 : Int32))) (nI B &&& (nI k ^^^ (-1 : Int32))) 0 v = some (nI (zW u P M (B &&& (k ^^^ 1023)) (B &&& (k ^^^ 1023)) 0), y) := by rw [z_andn hB3]; exact y1
          have := hW k
          simp only [b_Finder_fewestLeftOut_4, n1, if_false, hq k hk3, hS', x_fewer hk3 hx, Option.bind_some, y1', zb_u (show zW u P M (B &&& (k ^^^ 1023)) (B &&& (k ^^^ 1023)) 0 < 2 ^ 31 by omega) (show p < 32 by omega), hA', nI_1]
          by_cases e1 : S k = true
          · by_cases e2 : zfew k x = true
            · by_cases e3 : A k = true
              · have eg : zg3 S A k x = some k := by simp [zg3, e1, e2, e3]
                rw [eg]
                exact ⟨y, by simp only [e1, e2, e3, if_true, c10, if_false, zbst], y2, zIo_s hk3⟩
              · have eg : zg3 S A k x = x := by simp [zg3, e3]
                rw [eg]
                exact ⟨y, by simp only [e1, e2, e3, if_true, c10, if_false, Bool.false_eq_true], y2, hx⟩
            · have eg : zg3 S A k x = x := by simp [zg3, e2]
              rw [eg]
              exact ⟨v, by simp only [e1, e2, if_true, if_false, Bool.false_eq_true], hv, hx⟩
          · have eg : zg3 S A k x = x := by simp [zg3, e1]
            rw [eg]
            exact ⟨v, by simp only [e1, if_false, Bool.false_eq_true], hv, hx⟩)
        (by
          rintro x v -
          have n1 : nI B ≤ nI B := by rw [nI_leI (by omega) (by omega)]; exact Nat.le_refl _
          simp only [b_Finder_fewestLeftOut_4, n1, if_true])
        ⟨zfr_rf u, zIo_n⟩
      obtain ⟨w, w1, w2⟩ := zit_f (B := fun s : Int32 × Int32 × ZSt => b_M_leaveOut_14 (nI p) (nI B) s.1 s.2.1 s.2.2) (fun k x v => (zbst x, nI k, v)) (fun x v => (zbst x, nI B, v))
        (fun k x v => zsc u v ∧ zIo x) (zg3 S A) (a := 0) (n := B) (x := none) (v := v) (Nat.zero_le _) (by omega)
        (by
          rintro k x v hk1 hk ⟨hv, hx⟩
          have n1 : ¬ nI B ≤ nI k := by rw [nI_leI (by omega) (by omega)]; omega
          have hk3 : k < 1024 := by omega
          obtain ⟨y, y1, y3, y2⟩ := (zW_ok h (z_and_lt hB3 (k ^^^ 1023)) (z_and_lt hB3 (k ^^^ 1023)) (g := 0) (by decide)).2.2 v hv
          have y1' : f_M_asks (nI B &&& (nI k ^^^ (-1 : Int32))) (nI B &&& (nI k ^^^ (-1 : Int32))) 0 v = some y := by rw [z_andn hB3]; exact y1
          have := hW k
          simp only [b_M_leaveOut_14, n1, if_false, hq k hk3, hS', Option.bind_some, y1', y3, m_isIn (show zW u P M (B &&& (k ^^^ 1023)) (B &&& (k ^^^ 1023)) 0 < 2 ^ 31 by omega) (show p < 32 by omega), hA', nI_1]
          by_cases e1 : S k = true
          · cases x with
            | none =>
              by_cases e3 : A k = true
              · have eg : zg3 S A k none = some k := by simp [zg3, zfew, e1, e3]
                rw [eg]
                exact ⟨y, by simp only [e1, e3, if_true, c10, if_false, zbst, show (-2 : Int32) < 0 by decide], y2.1, zIo_s hk3⟩
              · have eg : zg3 S A k none = none := by simp [zg3, zfew, e3]
                rw [eg]
                exact ⟨y, by simp only [e1, e3, if_true, if_false, Bool.false_eq_true, zbst, show (-2 : Int32) < 0 by decide], y2.1, hx⟩
            | some z =>
              have hz := hx z rfl
              have n0 : ¬ nI z < 0 := nI_pos (by omega)
              simp only [zbst, n0, if_false, m_bits hk3, m_bits hz, Option.bind_some, nI_ltI (zpop_31 k) (zpop_31 z)]
              by_cases e2 : zpop k < zpop z
              · by_cases e3 : A k = true
                · have eg : zg3 S A k (some z) = some k := by simp [zg3, zfew, e1, e2, e3]
                  rw [eg]
                  exact ⟨y, by simp only [e1, e2, e3, if_true, c10, if_false, zbst], y2.1, zIo_s hk3⟩
                · have eg : zg3 S A k (some z) = some z := by simp [zg3, zfew, e3]
                  rw [eg]
                  exact ⟨y, by simp only [e1, e2, e3, if_true, if_false, Bool.false_eq_true, zbst], y2.1, hx⟩
              · have eg : zg3 S A k (some z) = some z := by simp [zg3, zfew, e2]
                rw [eg]
                exact ⟨v, by simp only [e1, e2, if_true, if_false, zbst], hv, hx⟩
          · have eg : zg3 S A k x = x := by simp [zg3, e1]
            rw [eg]
            exact ⟨v, by simp only [e1, if_false, Bool.false_eq_true], hv, hx⟩)
        (by
          rintro x v -
          have n1 : nI B ≤ nI B := by rw [nI_leI (by omega) (by omega)]; exact Nat.le_refl _
          simp only [b_M_leaveOut_14, n1, if_true])
        ⟨v2.1, zIo_n⟩
      have hv := h.sc v2.1
      have m1' := m_isPerson hP hv.1.2.2.1 (nI p)
      have m2' := m_isBundle hM10 hv.2.1.2.2 (nI B)
      rw [if_pos ha] at m1'
      rw [if_pos hb] at m2'
      refine ⟨zbst (zfo (zg3 S A) 0 (B - 0) none), v, w, ?_, ?_, w2.1⟩
      · have v1' : ziter (fun s : Int32 × Int32 × ZSt => b_Finder_fewestLeftOut_4 (nI p) (nI B) s.1 s.2.1 s.2.2) zfu (-2, 0, u) = _ := v1
        simp only [f_X_leaveOut, x1, x2, Option.bind_some, c10, if_false, f_Finder_fewestLeftOut, v1', a_Finder_fewestLeftOut_4]
      · have w1' : ziter (fun s : Int32 × Int32 × ZSt => b_M_leaveOut_14 (nI p) (nI B) s.1 s.2.1 s.2.2) zfu (-2, 0, v) = _ := w1
        simp only [f_M_leaveOut, m1', m2', Option.bind_some, c10, if_false, w1', a_M_leaveOut_14]
    · rw [if_neg hb] at x2 m2
      refine ⟨-1, u, u, ?_, ?_, zfr_rf u⟩
      · simp only [f_X_leaveOut, x1, x2, Option.bind_some, c10, if_false, if_true]
      · simp only [f_M_leaveOut, m1, m2, Option.bind_some, c10, if_false, if_true]
  · rw [if_neg ha] at x1 m1
    refine ⟨-1, u, u, ?_, ?_, zfr_rf u⟩
    · simp only [f_X_leaveOut, x1, Option.bind_some, if_true]
    · simp only [f_M_leaveOut, m1, Option.bind_some, if_true]
theorem z_2k {k M : Nat} (hk : k < M) (hM : M ≤ 6) : 2 ^ k < 1024 := Nat.lt_of_lt_of_le (Nat.pow_lt_pow_right (by decide) (show k < 10 by omega)) (Nat.le_refl _)
theorem o_alone {u : ZSt} {P M : Nat} {adj : Nat → Nat} (h : zRB u P M adj) : ∃ r u1 u2, f_X_alone u = some (r, u1) ∧ f_M_alone u1 = some (r, u2) ∧ zsc u u2 := by
  have hM := h.2.1.1
  have c10 : ¬ (1 : Int32) = 0 := by decide
  generalize hA : (fun k => zC u P M (2 ^ k) 0) = A
  have hA' : ∀ k, zC u P M (2 ^ k) 0 = A k := fun k => by rw [← hA]
  obtain ⟨v, v1, v2⟩ := zit_f (B := fun s : Int32 × Int32 × ZSt => b_Finder_carriedAlone_4 s.1 s.2.1 s.2.2) (α := Unit) (fun k _ v => (nI (zbits A k), nI k, v)) (fun _ v => (nI (zbits A M), nI M, v))
    (fun k _ v => zsc u v) (fun _ x => x) (a := 0) (n := M) (x := ()) (v := u) (Nat.zero_le _) (by omega)
    (by
      rintro k - v - hk hv
      have n1 : ¬ nI M ≤ nI k := by rw [nI_leI (by omega) (by omega)]; omega
      obtain ⟨y, y1, y2⟩ := x_car h hv (z_2k hk hM) (g := 0) (by decide)
      have y1' : f_Ballot_isCarried ((1 : Int32) <<< (nI k &&& 31)) 0 v = some (if A k = true then 1 else 0, y) := by rw [zn_p (by omega), ← hA']; exact y1
      have st := zbits_step A (k := k) (by omega)
      refine ⟨y, ?_, y2⟩
      simp only [b_Finder_carriedAlone_4, (h.sc hv).2.1.2.1, n1, if_false, y1', Option.bind_some, nI_1]
      by_cases e : A k = true
      · rw [if_pos e] at st
        rw [if_pos e, if_neg c10, st]
      · rw [if_neg e] at st
        rw [if_neg e, if_pos rfl, st])
    (by
      rintro - v hv
      have n1 : nI M ≤ nI M := by rw [nI_leI (by omega) (by omega)]; exact Nat.le_refl _
      simp only [b_Finder_carriedAlone_4, (h.sc hv).2.1.2.1, n1, if_true])
    (zfr_rf u)
  obtain ⟨w, w1, w2⟩ := zit_f (B := fun s : Int32 × Int32 × ZSt => b_M_alone_4 s.1 s.2.1 s.2.2) (α := Unit) (fun k _ v => (nI (zbits A k), nI k, v)) (fun _ v => (nI (zbits A M), nI M, v))
    (fun k _ v => zsc u v) (fun _ x => x) (a := 0) (n := M) (x := ()) (v := v) (Nat.zero_le _) (by omega)
    (by
      rintro k - v - hk hv
      have n1 : ¬ nI M ≤ nI k := by rw [nI_leI (by omega) (by omega)]; omega
      obtain ⟨y, y1, -, y2⟩ := m_car h hv (z_2k hk hM) (g := 0) (by decide)
      have y1' : f_M_isCarried ((1 : Int32) <<< (nI k &&& 31)) 0 v = some (if A k = true then 1 else 0, y) := by rw [zn_p (by omega), ← hA']; exact y1
      have st := zbits_step A (k := k) (by omega)
      refine ⟨y, ?_, y2.1⟩
      simp only [b_M_alone_4, (h.sc hv).2.1.2.2, n1, if_false, y1', Option.bind_some, nI_1]
      by_cases e : A k = true
      · rw [if_pos e] at st
        rw [if_pos e, if_neg c10, st]
      · rw [if_neg e] at st
        rw [if_neg e, if_pos rfl, st])
    (by
      rintro - v hv
      have n1 : nI M ≤ nI M := by rw [nI_leI (by omega) (by omega)]; exact Nat.le_refl _
      simp only [b_M_alone_4, (h.sc hv).2.1.2.2, n1, if_true])
    v2
  refine ⟨nI (zbits A M), v, w, ?_, ?_, w2⟩
  · have v1' : ziter (fun s : Int32 × Int32 × ZSt => b_Finder_carriedAlone_4 s.1 s.2.1 s.2.2) zfu (0, 0, u) = _ := v1
    simp only [f_X_alone, f_Finder_carriedAlone, v1', Option.bind_some, a_Finder_carriedAlone_4]
  · have w1' : ziter (fun s : Int32 × Int32 × ZSt => b_M_alone_4 s.1 s.2.1 s.2.2) zfu (0, 0, v) = _ := w1
    simp only [f_M_alone, w1', Option.bind_some, a_M_alone_4]
/-! how often -/
def zct (A : Nat → Bool) : Nat → Nat
  | 0 => 0
  | k + 1 => zct A k + if (decide (0 < k) && A k) = true then 1 else 0
theorem zct_le (A : Nat → Bool) : ∀ n, zct A n ≤ n := by
  intro n
  induction n with
  | zero => exact Nat.le_refl _
  | succ n ih => rw [zct]; split <;> omega
theorem zct_1 (A : Nat → Bool) : zct A 1 = 0 := rfl
theorem zct_y {A : Nat → Bool} {k : Nat} (hk : 1 ≤ k) (h : A k = true) : zct A (k + 1) = zct A k + 1 := by
  rw [zct, if_pos (by simp [h]; omega)]
theorem zct_n {A : Nat → Bool} {k : Nat} (h : ¬ A k = true) : zct A (k + 1) = zct A k := by
  rw [zct, if_neg (by simp [h])]
  rfl
theorem x_says {u v0 : ZSt} {P M : Nat} {adj : Nat → Nat} (h : zRB u P M adj) (hv0 : zsc u v0) : ∃ v, f_Finder_countSays v0 = some v ∧ zsc u v ∧ ∀ p, p < 10 → v.2.1 23 p = nI (zct (fun b => (zW u P M b b 0).testBit p) (2 ^ M)) := by
  have hM := h.2.1.1
  have hM10 : M ≤ 10 := by omega
  have hp := z_pow hM10 (Nat.le_refl _)
  obtain ⟨v, v1, v2⟩ := zit_f (B := fun s : Int32 × ZSt => b_Finder_countSays_2 s.1 s.2) (α := Unit) (fun k _ v => (nI k, v)) (fun _ v => (nI 10, v))
    (fun k _ v => zsc u v ∧ ∀ p, p < k → v.2.1 23 p = 0) (fun _ x => x) (a := 0) (n := 10) (x := ()) (v := v0) (Nat.zero_le _) (by decide)
    (by
      rintro k - v - hk ⟨hv, h23⟩
      have n1 : ¬ (10 : Int32) ≤ nI k := by rw [show (10 : Int32) = nI 10 from rfl, nI_leI (by decide) (by omega)]; omega
      refine ⟨za v 23 k 0, ?_, hv.a _ (by decide), fun p hp => ?_⟩
      · simp only [b_Finder_countSays_2, n1, if_false, zif (zn_zin hk (show 10 < 2 ^ 31 by decide)), zn_cl (show k < 2 ^ 31 by omega), nI_1]
      · by_cases e : p = k
        · rw [e, za_s]
        · rw [za_i _ _ _ e]; exact h23 p (by omega))
    (by
      rintro - v -
      simp only [b_Finder_countSays_2, show (10 : Int32) ≤ nI 10 by decide, if_true])
    ⟨hv0, fun p hp => by omega⟩
  obtain ⟨w, w1, w2⟩ := zit_f (B := fun s : Int32 × ZSt => b_Finder_countSays_18 (nI (2 ^ M - 1)) s.1 s.2) (α := Unit) (fun k _ v => (nI k, v)) (fun _ v => (nI (2 ^ M), v))
    (fun k _ v => zsc u v ∧ ∀ p, p < 10 → v.2.1 23 p = nI (zct (fun b => (zW u P M b b 0).testBit p) k)) (fun _ x => x) (a := 1) (n := 2 ^ M) (x := ()) (v := v) hp.1 (by omega)
    (by
      rintro k - v hk1 hk ⟨hv, h23⟩
      have hk3 : k < 1024 := by omega
      have n1 : ¬ nI (2 ^ M - 1) < nI k := by rw [nI_ltI (by omega) (by omega)]; omega
      obtain ⟨y, y1, y2⟩ := (zW_ok h hk3 hk3 (g := 0) (by decide)).2.1 v hv
      have wl := zW_lt h hk3 hk3 (g := 0) (by decide)
      have y1' : f_Ballot_whoMay (nI k) (nI k) 0 v = some (nI (zW u P M k k 0), y) := y1
      obtain ⟨z, z1, z2⟩ := zit_f (B := fun s : Int32 × ZSt => b_Finder_countSays_30 (nI (2 ^ M - 1)) (nI k) (nI (zW u P M k k 0)) s.1 s.2) (α := Unit) (fun k _ v => (nI k, v)) (fun _ v => (nI 10, v))
        (fun j _ z => zsc u z ∧ (∀ p, p < j → z.2.1 23 p = nI (zct (fun b => (zW u P M b b 0).testBit p) (k + 1))) ∧ ∀ p, j ≤ p → p < 10 → z.2.1 23 p = nI (zct (fun b => (zW u P M b b 0).testBit p) k)) (fun _ x => x) (a := 0) (n := 10) (x := ()) (v := y) (Nat.zero_le _) (by decide)
        (by
          rintro j - z - hj ⟨hz, g1, g2⟩
          have n2 : ¬ (10 : Int32) ≤ nI j := by rw [show (10 : Int32) = nI 10 from rfl, nI_leI (by decide) (by omega)]; omega
          refine ⟨za z 23 j (nI (zct (fun b => (zW u P M b b 0).testBit j) (k + 1))), ?_, hz.a _ (by decide), fun p hp => ?_, fun p hp hp2 => ?_⟩
          · simp only [b_Finder_countSays_30, n2, if_false, zif (zn_zin hj (show 10 < 2 ^ 31 by decide)), zn_cl (show j < 2 ^ 31 by omega), zb_u (show zW u P M k k 0 < 2 ^ 31 by omega) (show j < 32 by omega), g2 j (Nat.le_refl _) hj, nI_1]
            by_cases e : (zW u P M k k 0).testBit j = true
            · rw [if_pos e, zct_y hk1 e, nI_1]
            · rw [if_neg e, zct_n (A := fun b => (zW u P M b b 0).testBit j) (k := k) e, Int32.add_zero]
          · by_cases e : p = j
            · rw [e, za_s]
            · rw [za_i _ _ _ e]; exact g1 p (by omega)
          · rw [za_i _ _ _ (by omega)]; exact g2 p (by omega) hp2)
        (by
          rintro - z -
          simp only [b_Finder_countSays_30, show (10 : Int32) ≤ nI 10 by decide, if_true])
        ⟨y2, fun p hp => by omega, fun p _ hp => by rw [(x_who_fr h hk3 hk3 (by decide) hv y1).ga 23]; exact h23 p hp⟩
      refine ⟨z, ?_, z2.1, fun p hp => z2.2.1 p hp⟩
      have z1' : ziter (fun s : Int32 × ZSt => b_Finder_countSays_30 (nI (2 ^ M - 1)) (nI k) (nI (zW u P M k k 0)) s.1 s.2) zfu (0, y) = some (nI 10, z) := z1
      simp only [b_Finder_countSays_18, n1, if_false, y1', Option.bind_some, z1', a_Finder_countSays_30, nI_1])
    (by
      rintro - v -
      have n1 : nI (2 ^ M - 1) < nI (2 ^ M) := by rw [nI_ltI (by omega) (by omega)]; omega
      simp only [b_Finder_countSays_18, n1, if_true])
    ⟨v2.1, fun p hp => by rw [v2.2 p hp, zct_1]; rfl⟩
  refine ⟨w, ?_, w2⟩
  have v1' : ziter (fun s : Int32 × ZSt => b_Finder_countSays_2 s.1 s.2) zfu (0, v0) = some (nI 10, v) := v1
  have w1' : ziter (fun s : Int32 × ZSt => b_Finder_countSays_18 (nI (2 ^ M - 1)) s.1 s.2) zfu (1, v) = some (nI (2 ^ M), w) := w1
  simp only [f_Finder_countSays, v1', Option.bind_some, a_Finder_countSays_2, f_Council_everything, (h.sc v2.1).2.1.2.1, x_all' (u := u) hM10, w1', a_Finder_countSays_18]
