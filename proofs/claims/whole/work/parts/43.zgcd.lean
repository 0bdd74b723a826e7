/-! chance -/
theorem z_half {b r : Nat} (hr : 0 < r) (h : r < b) : 2 * (b % r) < b := by
  have h1 := Nat.div_add_mod b r
  have h2 := Nat.mod_lt b hr
  have h3 : 1 ≤ b / r := (Nat.one_le_div_iff hr).mpr (Nat.le_of_lt h)
  have h4 : r * 1 ≤ r * (b / r) := Nat.mul_le_mul_left r h3
  omega
theorem z_gcds (a b : Nat) : Nat.gcd b (a % b) = Nat.gcd a b := by
  rw [Nat.gcd_comm a b, Nat.gcd_rec b a, Nat.gcd_comm]
theorem x_gcd_loop : ∀ (n a b i F : Nat), a < 2 ^ 31 → b < 2 ^ 31 → b < 2 ^ n → i + 2 * n ≤ 99 → 2 * n < F → ∃ y j, ziter (fun s : Int32 × Int32 × Int32 => b_Finder_commonDivisor_6 s.1 s.2.1 s.2.2) F (nI a, nI b, nI i) = some (nI (Nat.gcd a b), y, nI j) := by
  have stop : ∀ (a i F : Nat), 0 < F → ziter (fun s : Int32 × Int32 × Int32 => b_Finder_commonDivisor_6 s.1 s.2.1 s.2.2) F (nI a, nI 0, nI i) = some (nI a, nI 0, nI i) := by
    intro a i F hF
    obtain ⟨F, rfl⟩ := Nat.exists_eq_succ_of_ne_zero (show F ≠ 0 by omega)
    refine ziter_r ?_
    simp only [b_Finder_commonDivisor_6, show nI 0 = (0 : Int32) from rfl, if_true]
    split <;> rfl
  have step : ∀ (a b i F : Nat), a < 2 ^ 31 → b < 2 ^ 31 → 0 < b → i < 100 → ziter (fun s : Int32 × Int32 × Int32 => b_Finder_commonDivisor_6 s.1 s.2.1 s.2.2) (F + 1) (nI a, nI b, nI i) = ziter (fun s : Int32 × Int32 × Int32 => b_Finder_commonDivisor_6 s.1 s.2.1 s.2.2) F (nI b, nI (a % b), nI (i + 1)) := by
    intro a b i F ha hb hb0 hi
    have n1 : ¬ (100 : Int32) ≤ nI i := by rw [show (100 : Int32) = nI 100 from rfl, nI_leI (by decide) (by omega)]; omega
    have n2 : ¬ nI b = 0 := nI_ne0 hb0 hb
    refine ziter_l ?_
    simp only [b_Finder_commonDivisor_6, n1, n2, if_false, nI_1]
    rw [show zrem (nI a) (nI b) = nI (a % b) from pk_rem ha hb0 hb]
  intro n
  induction n with
  | zero =>
    intro a b i F ha hb hbn hi hF
    have : b = 0 := by simpa using hbn
    subst this
    exact ⟨nI 0, i, by rw [stop a i F (by omega), Nat.gcd_zero_right]⟩
  | succ n ih =>
    intro a b i F ha hb hbn hi hF
    by_cases hb0 : b = 0
    · subst hb0
      exact ⟨nI 0, i, by rw [stop a i F (by omega), Nat.gcd_zero_right]⟩
    · obtain ⟨F, rfl⟩ := Nat.exists_eq_succ_of_ne_zero (show F ≠ 0 by omega)
      obtain ⟨F, rfl⟩ := Nat.exists_eq_succ_of_ne_zero (show F ≠ 0 by omega)
      have hr := Nat.mod_lt a (Nat.pos_of_ne_zero hb0)
      rw [step a b i (F + 1) ha hb (by omega) (by omega)]
      by_cases hr0 : a % b = 0
      · rw [hr0]
        refine ⟨nI 0, i + 1, ?_⟩
        rw [stop b (i + 1) (F + 1) (by omega), ← z_gcds, hr0, Nat.gcd_zero_right]
      · rw [step b (a % b) (i + 1) F hb (by omega) (by omega) (by omega)]
        have hh := z_half (b := b) (r := a % b) (by omega) hr
        rw [Nat.pow_succ] at hbn
        obtain ⟨y, j, e⟩ := ih (a % b) (b % (a % b)) (i + 1 + 1) F (by omega) (by omega) (by omega) (by omega) (by omega)
        exact ⟨y, j, by rw [e, z_gcds, z_gcds]⟩
theorem m_gcd_loop : ∀ (n a b F : Nat), a < 2 ^ 31 → b < 2 ^ 31 → b < 2 ^ n → 2 * n < F → ∃ y, ziter (fun s : Int32 × Int32 => b_M_common_4 s.1 s.2) F (nI a, nI b) = some (nI (Nat.gcd a b), y) := by
  have stop : ∀ (a F : Nat), 0 < F → ziter (fun s : Int32 × Int32 => b_M_common_4 s.1 s.2) F (nI a, nI 0) = some (nI a, nI 0) := by
    intro a F hF
    obtain ⟨F, rfl⟩ := Nat.exists_eq_succ_of_ne_zero (show F ≠ 0 by omega)
    refine ziter_r ?_
    simp only [b_M_common_4, show nI 0 = (0 : Int32) from rfl, if_true]
  have step : ∀ (a b F : Nat), a < 2 ^ 31 → b < 2 ^ 31 → 0 < b → ziter (fun s : Int32 × Int32 => b_M_common_4 s.1 s.2) (F + 1) (nI a, nI b) = ziter (fun s : Int32 × Int32 => b_M_common_4 s.1 s.2) F (nI b, nI (a % b)) := by
    intro a b F ha hb hb0
    have n2 : ¬ nI b = 0 := nI_ne0 hb0 hb
    refine ziter_l ?_
    simp only [b_M_common_4, n2, if_false]
    rw [show zrem (nI a) (nI b) = nI (a % b) from pk_rem ha hb0 hb]
  intro n
  induction n with
  | zero =>
    intro a b F ha hb hbn hF
    have : b = 0 := by simpa using hbn
    subst this
    exact ⟨nI 0, by rw [stop a F (by omega), Nat.gcd_zero_right]⟩
  | succ n ih =>
    intro a b F ha hb hbn hF
    by_cases hb0 : b = 0
    · subst hb0
      exact ⟨nI 0, by rw [stop a F (by omega), Nat.gcd_zero_right]⟩
    · obtain ⟨F, rfl⟩ := Nat.exists_eq_succ_of_ne_zero (show F ≠ 0 by omega)
      obtain ⟨F, rfl⟩ := Nat.exists_eq_succ_of_ne_zero (show F ≠ 0 by omega)
      have hr := Nat.mod_lt a (Nat.pos_of_ne_zero hb0)
      rw [step a b (F + 1) ha hb (by omega)]
      by_cases hr0 : a % b = 0
      · rw [hr0]
        refine ⟨nI 0, ?_⟩
        rw [stop b (F + 1) (by omega), ← z_gcds, hr0, Nat.gcd_zero_right]
      · rw [step b (a % b) F hb (by omega) (by omega)]
        have hh := z_half (b := b) (r := a % b) (by omega) hr
        rw [Nat.pow_succ] at hbn
        obtain ⟨y, e⟩ := ih (a % b) (b % (a % b)) F (by omega) (by omega) (by omega) (by omega)
        exact ⟨y, by rw [e, z_gcds, z_gcds]⟩
theorem x_gcd {a b : Nat} (ha : a < 2 ^ 31) (hb : b < 2 ^ 22) : f_Finder_commonDivisor (nI a) (nI b) = some (nI (Nat.gcd a b)) := by
  obtain ⟨y, j, e⟩ := x_gcd_loop 22 a b 0 zfu ha (by omega) hb (by decide) (by rw [zfu_eq]; decide)
  have e' : ziter (fun s : Int32 × Int32 × Int32 => b_Finder_commonDivisor_6 s.1 s.2.1 s.2.2) zfu (nI a, nI b, 0) = some (nI (Nat.gcd a b), y, nI j) := e
  simp only [f_Finder_commonDivisor, e', Option.bind_some, a_Finder_commonDivisor_6]
theorem m_gcd {a b : Nat} (ha : a < 2 ^ 31) (hb : b < 2 ^ 22) : f_M_common (nI a) (nI b) = some (nI (Nat.gcd a b)) := by
  obtain ⟨y, e⟩ := m_gcd_loop 22 a b zfu ha (by omega) hb (by rw [zfu_eq]; decide)
  simp only [f_M_common, e, Option.bind_some, a_M_common_4]
/-! weights -/
def zrum (u : ZSt) (m : Nat) : Nat := (u.2.1 40 (120 + m)).toNatClampNeg
theorem zrum_ok {u : ZSt} (h3 : zR3 u) {m : Nat} (hm : m < 6) : u.2.1 40 (120 + m) = nI (zrum u m) ∧ zrum u m ≤ 12 := by
  have := (h3 (120 + m) (by omega)).2
  unfold zokv at this
  rw [if_neg (by omega), if_neg (by omega)] at this
  obtain ⟨f, f1, f2⟩ := z_le99 (n := 12) this
  unfold zrum
  rw [f2, zn_cl (by omega)]
  exact ⟨rfl, f1⟩
theorem zrum_sc {u v : ZSt} (f : zsc u v) : zrum v = zrum u := by
  funext m; unfold zrum; rw [f.ga 40]
def zwgt (r : Nat → Nat) (b t : Nat) : Nat → Nat
  | 0 => 1
  | m + 1 => if b.testBit m then zwgt r b t m * (if t.testBit m then r m else 12 - r m) else zwgt r b t m
theorem zwgt_le {r : Nat → Nat} (b t : Nat) : ∀ {M : Nat}, (∀ m, m < M → r m ≤ 12) → zwgt r b t M ≤ 12 ^ M := by
  intro M
  induction M with
  | zero => intro _; exact Nat.le_refl _
  | succ M ih =>
    intro h
    have h1 := ih (fun m hm => h m (by omega))
    have h2 := h M (by omega)
    rw [zwgt, Nat.pow_succ]
    split
    · refine Nat.mul_le_mul h1 ?_
      split <;> omega
    · exact Nat.le_trans h1 (Nat.le_mul_of_pos_right _ (by decide))
theorem z_12 {M : Nat} (hM : M ≤ 6) : 12 ^ M ≤ 2985984 := Nat.pow_le_pow_right (by decide) hM
theorem x_weight {u v : ZSt} {P M : Nat} {adj : Nat → Nat} (h : zRB u P M adj) (hv : zsc u v) {b t : Nat} (hb : b < 1024) (ht : t < 1024) : f_Finder_weightOf (nI b) (nI t) v = some (nI (zwgt (zrum u) b t M)) := by
  have hM := h.2.1.1
  have hB := h.sc hv
  have key : ziter (fun s : Int32 × Int32 => b_Finder_weightOf_4 (nI b) (nI t) s.1 s.2 v) zfu (1, 0) = some (nI (zwgt (zrum u) b t M), nI M) := by
    refine zit_eq (B := fun s : Int32 × Int32 => b_Finder_weightOf_4 (nI b) (nI t) s.1 s.2 v) M (fun k => (nI (zwgt (zrum u) b t k), nI k)) _ (by omega) ?_ ?_
    · intro k hk
      have n1 : ¬ nI M ≤ nI k := by rw [nI_leI (by omega) (by omega)]; omega
      have hr := zrum_ok hB.2.2.1 (m := k) (by omega)
      rw [zrum_sc hv] at hr
      have hz : zph (120 + k) = 200 + k := zph2 (by omega)
      have hq : f_Council_rumourOf (nI k) v = some (nI (zrum u k)) := by
        have hta := x_toldAt (u := v) (j := 200 + k) (by omega)
        rw [← hz, (hB.2.2.1 _ (by omega)).1, hz, hr.1] at hta
        simp only [f_Council_rumourOf]
        rw [show (200 : Int32) = nI 200 from rfl, nI_add, hta]; rfl
      simp only [b_Finder_weightOf_4, hB.2.1.2.1, n1, if_false, zb_u (show b < 2 ^ 31 by omega) (show k < 32 by omega), zb_u (show t < 2 ^ 31 by omega) (show k < 32 by omega), hq, Option.bind_some, nI_1, zwgt]
      by_cases e : b.testBit k = true
      · rw [if_pos e, if_neg (by decide), if_pos e]
        by_cases e2 : t.testBit k = true
        · rw [if_pos e2, if_neg (by decide), if_pos e2, pk_mul]
        · rw [if_neg e2, if_pos rfl, if_neg e2, show (12 : Int32) = nI 12 from rfl, pk_sub hr.2, pk_mul]
      · rw [if_neg e, if_pos rfl, if_neg e]
    · have n1 : nI M ≤ nI M := by rw [nI_leI (by omega) (by omega)]; exact Nat.le_refl _
      simp only [b_Finder_weightOf_4, hB.2.1.2.1, n1, if_true]
  simp only [f_Finder_weightOf, key, Option.bind_some, a_Finder_weightOf_4]
theorem m_weight {u v : ZSt} {P M : Nat} {adj : Nat → Nat} (h : zRB u P M adj) (hv : zsc u v) {b t : Nat} (hb : b < 1024) (ht : t < 1024) (l2 l3 l4 : Int32) : ziter (fun s : Int32 × Int32 => b_M_chance_50 (nI b) l2 l3 l4 (nI t) s.1 s.2 v) zfu (1, 0) = some (nI (zwgt (zrum u) b t M), nI M) := by
  have hM := h.2.1.1
  have hB := h.sc hv
  have c10 : ¬ (1 : Int32) = 0 := by decide
  refine zit_eq (B := fun s : Int32 × Int32 => b_M_chance_50 (nI b) l2 l3 l4 (nI t) s.1 s.2 v) M (fun k => (nI (zwgt (zrum u) b t k), nI k)) _ (by omega) ?_ ?_
  · intro k hk
    have n1 : ¬ nI M ≤ nI k := by rw [nI_leI (by omega) (by omega)]; omega
    have hr := zrum_ok hB.2.2.1 (m := k) (by omega)
    rw [zrum_sc hv] at hr
    have s1 : (120 : Int32) + nI k = nI (120 + k) := nI_add 120 k
    simp only [b_M_chance_50, hB.2.1.2.2, n1, if_false, s1, zif (zn_zin (show 120 + k < 126 by omega) (show 126 < 2 ^ 31 by decide)), zn_cl (show 120 + k < 2 ^ 31 by omega), hr.1, m_isIn (show b < 2 ^ 31 by omega) (show k < 32 by omega), m_isIn (show t < 2 ^ 31 by omega) (show k < 32 by omega), Option.bind_some, nI_1, zwgt]
    by_cases e : b.testBit k = true
    · rw [if_pos e, if_neg c10, if_pos e]
      by_cases e2 : t.testBit k = true
      · rw [if_pos e2, if_neg c10, if_pos e2, pk_mul]
      · rw [if_neg e2, if_pos rfl, if_neg e2, show (12 : Int32) = nI 12 from rfl, pk_sub hr.2, pk_mul]
    · rw [if_neg e, if_pos rfl, if_neg e, Int32.mul_one]
  · have n1 : nI M ≤ nI M := by rw [nI_leI (by omega) (by omega)]; exact Nat.le_refl _
    simp only [b_M_chance_50, hB.2.1.2.2, n1, if_true]
def zwh (b : Nat) : Nat → Nat
  | 0 => 1
  | m + 1 => if b.testBit m then zwh b m * 12 else zwh b m
theorem zwh_le (b : Nat) : ∀ M, 1 ≤ zwh b M ∧ zwh b M ≤ 12 ^ M := by
  intro M
  induction M with
  | zero => exact ⟨Nat.le_refl _, Nat.le_refl _⟩
  | succ M ih =>
    rw [zwh, Nat.pow_succ]
    split
    · exact ⟨by omega, Nat.mul_le_mul ih.2 (Nat.le_refl _)⟩
    · exact ⟨ih.1, Nat.le_trans ih.2 (Nat.le_mul_of_pos_right _ (by decide))⟩
theorem zwh_top {b P : Nat} (hg : b < 2 ^ P) : ∀ {n : Nat}, P ≤ n → zwh b n = zwh b P := by
  intro n
  induction n with
  | zero => intro h; have : P = 0 := by omega
            subst this; rfl
  | succ n ih =>
    intro h
    rcases Nat.lt_or_ge P (n + 1) with q | q
    · have : b.testBit n = false := Nat.testBit_lt_two_pow (Nat.lt_of_lt_of_le hg (Nat.pow_le_pow_right (by decide) (by omega)))
      rw [zwh, this, if_neg (by decide), ih (by omega)]
    · have : P = n + 1 := by omega
      subst this; rfl
theorem x_twelfths {b M : Nat} (hM : M ≤ 6) (hb : b < 2 ^ M) : f_Finder_twelfths (nI b) = some (nI (zwh b M)) := by
  have hb3 := z_1024 (show M ≤ 10 by omega) hb
  have key : ziter (fun s : Int32 × Int32 => b_Finder_twelfths_4 (nI b) s.1 s.2) zfu (1, 0) = some (nI (zwh b M), nI 6) := by
    refine zit_eq (B := fun s : Int32 × Int32 => b_Finder_twelfths_4 (nI b) s.1 s.2) 6 (fun k => (nI (zwh b k), nI k)) _ (by omega) ?_ ?_
    · intro k hk
      have n1 : ¬ (6 : Int32) ≤ nI k := by rw [show (6 : Int32) = nI 6 from rfl, nI_leI (by decide) (by omega)]; omega
      simp only [b_Finder_twelfths_4, n1, if_false, zb_u (show b < 2 ^ 31 by omega) (show k < 32 by omega), nI_1, zwh]
      by_cases e : b.testBit k = true
      · rw [if_pos e, if_neg (by decide), if_pos e, show (12 : Int32) = nI 12 from rfl, pk_mul]
      · rw [if_neg e, if_pos rfl, if_neg e]
    · simp only [b_Finder_twelfths_4, show (6 : Int32) ≤ nI 6 by decide, if_true, zwh_top hb hM]
  simp only [f_Finder_twelfths, key, Option.bind_some, a_Finder_twelfths_4]
def zsum (f : Nat → Nat) : Nat → Nat
  | 0 => 0
  | k + 1 => zsum f k + f k
theorem zsum_le {f : Nat → Nat} {c : Nat} (h : ∀ k, f k ≤ c) : ∀ n, zsum f n ≤ n * c := by
  intro n
  induction n with
  | zero => exact Nat.zero_le _
  | succ n ih => rw [zsum, Nat.succ_mul]; have := h n; omega
noncomputable def zft (u : ZSt) (P M b t : Nat) : Nat := if t &&& (b ^^^ 1023) = 0 ∧ 0 < zwgt (zrum u) b t M ∧ zcar (zquo u) (zW u P M b t 0) (zF u P M b) (zO u P M b) = true then zwgt (zrum u) b t M else 0
theorem o_chance {u : ZSt} {P M : Nat} {adj : Nat → Nat} (h : zRB u P M adj) (a b : Int32) : ∃ r u1 u2, f_X_chance a b u = some (r, u1) ∧ f_M_chance a b u1 = some (r, u2) ∧ zsc u u2 := by
  have hP := h.1.1
  have hM := h.2.1.1
  have hM10 : M ≤ 10 := by omega
  have c10 : ¬ (1 : Int32) = 0 := by decide
  have hp := z_pow hM10 (Nat.le_refl _)
  have x1 := x_isBundle hM10 h.2.1.2.1 a
  have m1 := m_isBundle hM10 h.2.1.2.2 a
  have m2 : f_M_within b.toInt64 0 1 = some (if 0 ≤ b.toInt ∧ b.toInt ≤ 1 then 1 else 0) := by
    rw [z_within, Int32.toInt_toInt64]; rfl
  by_cases ha : 1 ≤ a.toInt ∧ a.toInt < ((2 ^ M : Nat) : Int)
  · rw [if_pos ha] at x1 m1
    by_cases hb : 0 ≤ b.toInt ∧ b.toInt ≤ 1
    · rw [if_pos hb] at m2
      obtain ⟨B, hB1, hB2, rfl⟩ := z_bund ha
      have hB3 := z_1024 hM10 hB2
      have hB64 : B < 64 := Nat.lt_of_lt_of_le hB2 (Nat.pow_le_pow_right (by decide) hM : 2 ^ M ≤ 2 ^ 6)
      have wl : ∀ t, zwgt (zrum u) B t M ≤ 2985984 := fun t => Nat.le_trans (zwgt_le B t (fun m hm => (zrum_ok h.2.2.1 (by omega)).2)) (z_12 hM)
      have hq : ∀ k, k < 1024 → (nI k &&& (nI B ^^^ (-1 : Int32)) = 0) = (k &&& (B ^^^ 1023) = 0) := by
        intro k hk
        have := z_and_lt hk (B ^^^ 1023)
        rw [z_andn hk, show (0 : Int32) = nI 0 from rfl]
        exact propext (nI_eq (by omega) (by decide))
      have w0 : ∀ k, (nI (zwgt (zrum u) B k M) ≤ 0) = (zwgt (zrum u) B k M = 0) := by
        intro k
        have := wl k
        rw [show (0 : Int32) = nI 0 from rfl]
        exact propext ((nI_leI (by omega) (by decide)).trans (by omega))
      obtain ⟨l1, l2⟩ := x_lean h (zfr_rf u) hB3
      obtain ⟨v, v1, v2⟩ := zit_f (B := fun s : Int32 × Int32 × ZSt => b_Finder_twelfthsCarried_14 (nI B) (nI (zF u P M B)) (nI (zO u P M B)) s.1 s.2.1 s.2.2) (α := Unit) (fun k _ v => (nI (zsum (zft u P M B) k), nI k, v)) (fun _ v => (nI (zsum (zft u P M B) (B + 1)), nI (B + 1), v))
        (fun k _ v => zsc u v) (fun _ x => x) (a := 0) (n := B + 1) (x := ()) (v := u) (Nat.zero_le _) (by omega)
        (by
          rintro k - v - hk hv
          have n1 : ¬ nI B < nI k := by rw [nI_ltI (by omega) (by omega)]; omega
          have hk3 : k < 1024 := by omega
          obtain ⟨y, y1, y2⟩ := (zW_ok h hB3 hk3 (g := 0) (by decide)).2.1 v hv
          have y1' : f_Ballot_whoMay (nI B) (nI k) 0 v = some (nI (zW u P M B k 0), y) := y1
          have hc := x_carBy h y2 (zW_lt h hB3 hk3 (g := 0) (by decide)) (zF u P M B) (zO u P M B)
          simp only [b_Finder_twelfthsCarried_14, n1, if_false, hq k hk3, x_weight h hv hB3 hk3, Option.bind_some, w0, y1', hc, nI_1, zsum]
          by_cases e1 : k &&& (B ^^^ 1023) = 0
          · by_cases e2 : zwgt (zrum u) B k M = 0
            · have eg : zft u P M B k = 0 := by unfold zft; rw [if_neg (by omega)]
              exact ⟨v, by rw [if_pos e1, if_pos e2, eg] <;> rfl, hv⟩
            · by_cases e3 : zcar (zquo u) (zW u P M B k 0) (zF u P M B) (zO u P M B) = true
              · have eg : zft u P M B k = zwgt (zrum u) B k M := by unfold zft; rw [if_pos ⟨e1, by omega, e3⟩]
                exact ⟨y, by rw [if_pos e1, if_neg e2, if_pos e3, if_neg c10, eg, nI_add], y2⟩
              · have eg : zft u P M B k = 0 := by unfold zft; rw [if_neg (fun q => e3 q.2.2)]
                exact ⟨y, by rw [if_pos e1, if_neg e2, if_neg e3, if_pos rfl, eg] <;> rfl, y2⟩
          · have eg : zft u P M B k = 0 := by unfold zft; rw [if_neg (fun q => e1 q.1)]
            exact ⟨v, by rw [if_neg e1, eg] <;> rfl, hv⟩)
        (by
          rintro - v -
          have n1 : nI B < nI (B + 1) := by rw [nI_ltI (by omega) (by omega)]; omega
          simp only [b_Finder_twelfthsCarried_14, n1, if_true])
        (zfr_rf u)
      have hv := h.sc v2
      have hS : zsum (zft u P M B) (B + 1) ≤ 64 * 2985984 := by
        refine Nat.le_trans (zsum_le (c := 2985984) (fun k => ?_) (B + 1)) (Nat.mul_le_mul_right _ (by omega))
        unfold zft
        split
        · exact wl k
        · exact Nat.zero_le _
      generalize hs : zsum (zft u P M B) (B + 1) = S at v1 hS
      have hW1 := (zwh_le B M).1
      have hW2 := Nat.le_trans (zwh_le B M).2 (z_12 hM)
      have kW : ziter (fun s : Int32 × Int32 => b_M_chance_18 (nI B) b 0 s.1 s.2 v) zfu (1, 0) = some (nI (zwh B M), nI M) := by
        refine zit_eq (B := fun s : Int32 × Int32 => b_M_chance_18 (nI B) b 0 s.1 s.2 v) M (fun k => (nI (zwh B k), nI k)) _ (by omega) ?_ ?_
        · intro k hk
          have n1 : ¬ nI M ≤ nI k := by rw [nI_leI (by omega) (by omega)]; omega
          simp only [b_M_chance_18, hv.2.1.2.2, n1, if_false, m_isIn (show B < 2 ^ 31 by omega) (show k < 32 by omega), Option.bind_some, nI_1, zwh]
          by_cases e : B.testBit k = true
          · rw [if_pos e, if_neg c10, if_pos e, show (12 : Int32) = nI 12 from rfl, pk_mul]
          · rw [if_neg e, if_pos rfl, if_neg e, Int32.mul_one]
        · have n1 : nI M ≤ nI M := by rw [nI_leI (by omega) (by omega)]; exact Nat.le_refl _
          simp only [b_M_chance_18, hv.2.1.2.2, n1, if_true]
      obtain ⟨w, w1, w2⟩ := zit_f (B := fun s : Int32 × Int32 × ZSt => b_M_chance_36 (nI B) b (nI (zwh B M)) s.1 s.2.1 s.2.2) (α := Unit) (fun k _ v => (nI (zsum (zft u P M B) k), nI k, v)) (fun _ v => (nI (zsum (zft u P M B) (B + 1)), nI (B + 1), v))
        (fun k _ v => zsc u v) (fun _ x => x) (a := 0) (n := B + 1) (x := ()) (v := v) (Nat.zero_le _) (by omega)
        (by
          rintro k - v - hk hv
          have n1 : ¬ nI B < nI k := by rw [nI_ltI (by omega) (by omega)]; omega
          have hk3 : k < 1024 := by omega
          obtain ⟨y, y1, y3, y2⟩ := (zW_ok h hB3 hk3 (g := 0) (by decide)).2.2 v hv
          have y1' : f_M_asks (nI B) (nI k) 0 v = some y := y1
          have hc := m_carBy h y2.d (zW_lt h hB3 hk3 (g := 0) (by decide))
          simp only [b_M_chance_36, n1, if_false, hq k hk3, m_weight h hv hB3 hk3, Option.bind_some, a_M_chance_50, w0, y1', y3, hc, nI_1, zsum]
          by_cases e1 : k &&& (B ^^^ 1023) = 0
          · by_cases e2 : zwgt (zrum u) B k M = 0
            · have eg : zft u P M B k = 0 := by unfold zft; rw [if_neg (by omega)]
              exact ⟨v, by rw [if_pos e1, if_pos e2, eg] <;> rfl, hv⟩
            · by_cases e3 : zcar (zquo u) (zW u P M B k 0) (zF u P M B) (zO u P M B) = true
              · have eg : zft u P M B k = zwgt (zrum u) B k M := by unfold zft; rw [if_pos ⟨e1, by omega, e3⟩]
                exact ⟨y, by rw [if_pos e1, if_neg e2, if_pos e3, if_neg c10, eg, nI_add], y2.1⟩
              · have eg : zft u P M B k = 0 := by unfold zft; rw [if_neg (fun q => e3 q.2.2)]
                exact ⟨y, by rw [if_pos e1, if_neg e2, if_neg e3, if_pos rfl, eg, Int32.add_zero] <;> rfl, y2.1⟩
          · have eg : zft u P M B k = 0 := by unfold zft; rw [if_neg (fun q => e1 q.1)]
            exact ⟨v, by rw [if_neg e1, eg] <;> rfl, hv⟩)
        (by
          rintro - v -
          have n1 : nI B < nI (B + 1) := by rw [nI_ltI (by omega) (by omega)]; omega
          simp only [b_M_chance_36, n1, if_true])
        v2
      rw [hs] at w1
      have m1' := m_isBundle hM10 hv.2.1.2.2 (nI B)
      rw [if_pos ha] at m1'
      have b1 : ¬ b < 0 := by rw [fa_lt, show (0 : Int32).toInt = 0 from rfl]; omega
      have b2 : b ≤ 1 := by rw [fa_le, show (1 : Int32).toInt = 1 from rfl]; omega
      have v1' : ziter (fun s : Int32 × Int32 × ZSt => b_Finder_twelfthsCarried_14 (nI B) (nI (zF u P M B)) (nI (zO u P M B)) s.1 s.2.1 s.2.2) zfu (0, 0, u) = some (nI S, nI (B + 1), v) := v1
      have w1' : ziter (fun s : Int32 × Int32 × ZSt => b_M_chance_36 (nI B) b (nI (zwh B M)) s.1 s.2.1 s.2.2) zfu (0, 0, v) = some (nI S, nI (B + 1), w) := w1
      have hx : f_X_chance (nI B) b u = some (if b = 0 then nI (S / Nat.gcd S (zwh B M)) else nI (zwh B M / Nat.gcd S (zwh B M)), v) := by
        have hG1 : 0 < Nat.gcd S (zwh B M) := Nat.gcd_pos_of_pos_right _ (by omega)
        have hG2 : Nat.gcd S (zwh B M) ≤ zwh B M := Nat.gcd_le_right _ (by omega)
        have g1 : (1 : Int32) ≤ nI (Nat.gcd S (zwh B M)) := by rw [show (1 : Int32) = nI 1 from rfl, nI_leI (by decide) (by omega)]; omega
        have g2 : ¬ nI (Nat.gcd S (zwh B M)) = 0 := nI_ne0 hG1 (by omega)
        simp only [f_X_chance, x1, Option.bind_some, c10, if_false, b1, b2, if_true, f_Finder_twelfthsCarried, l1, l2, v1', a_Finder_twelfthsCarried_14, x_twelfths hM hB2, x_gcd (show S < 2 ^ 31 by omega) (show zwh B M < 2 ^ 22 by omega), g1, g2]
        rw [show nI S / nI (Nat.gcd S (zwh B M)) = nI (S / Nat.gcd S (zwh B M)) from pk_div (by omega) hG1 (by omega), show nI (zwh B M) / nI (Nat.gcd S (zwh B M)) = nI (zwh B M / Nat.gcd S (zwh B M)) from pk_div (by omega) hG1 (by omega)]
        split <;> rfl
      have hm : f_M_chance (nI B) b v = some (if b = 0 then nI (S / Nat.gcd S (zwh B M)) else nI (zwh B M / Nat.gcd S (zwh B M)), w) := by
        have hG1 : 0 < Nat.gcd S (zwh B M) := Nat.gcd_pos_of_pos_right _ (by omega)
        have hG2 : Nat.gcd S (zwh B M) ≤ zwh B M := Nat.gcd_le_right _ (by omega)
        have g2 : ¬ nI (Nat.gcd S (zwh B M)) = 0 := nI_ne0 hG1 (by omega)
        have s0 : (nI S = 0) = (S = 0) := by rw [show (0 : Int32) = nI 0 from rfl]; exact propext (nI_eq (by omega) (by decide))
        simp only [f_M_chance, m1', m2, Option.bind_some, c10, if_false, kW, a_M_chance_18, w1', a_M_chance_36, s0]
        by_cases e : S = 0
        · rw [if_pos e, e, Nat.gcd_zero_left, Nat.zero_div, Nat.div_self (by omega)]
          obtain ⟨k, hk, rfl⟩ := z_le99 (n := 1) hb
          rcases (show k = 0 ∨ k = 1 by omega) with rfl | rfl
          · rfl
          · rfl
        · rw [if_neg e, m_gcd (show S < 2 ^ 31 by omega) (show zwh B M < 2 ^ 22 by omega)]
          simp only [Option.bind_some, g2, if_false]
          rw [show nI S / nI (Nat.gcd S (zwh B M)) = nI (S / Nat.gcd S (zwh B M)) from pk_div (by omega) hG1 (by omega), show nI (zwh B M) / nI (Nat.gcd S (zwh B M)) = nI (zwh B M / Nat.gcd S (zwh B M)) from pk_div (by omega) hG1 (by omega)]
          split <;> rfl
      exact ⟨_, v, w, hx, hm, w2⟩
    · rw [if_neg hb] at m2
      refine ⟨-1, u, u, ?_, ?_, zfr_rf u⟩
      · simp only [f_X_chance, x1, Option.bind_some, c10, if_false]
        by_cases b1 : b < 0
        · rw [if_pos b1]
        · rw [if_neg b1, if_neg]
          rw [fa_lt, show (0 : Int32).toInt = 0 from rfl] at b1
          rw [fa_le, show (1 : Int32).toInt = 1 from rfl]; omega
      · simp only [f_M_chance, m1, m2, Option.bind_some, c10, if_false, if_true]
  · rw [if_neg ha] at x1 m1
    refine ⟨-1, u, u, ?_, ?_, zfr_rf u⟩
    · simp only [f_X_chance, x1, Option.bind_some, if_true]
    · simp only [f_M_chance, m1, Option.bind_some, if_true]
