/-! for, against, carried; may, vote -/
def zquo (u : ZSt) : Nat := (u.1 107).toNatClampNeg
theorem zquo_ok {u : ZSt} {P M : Nat} {adj : Nat → Nat} (h : zRB u P M adj) : zquo u ≤ 10 ∧ u.1 107 = nI (zquo u) ∧ u.1 3912 = nI (zquo u) := by
  obtain ⟨K, Q, hK, hQ, K1, K2, Q1, Q2⟩ := h.2.2.2.2.1
  unfold zquo
  rw [Q1, zn_cl (by omega)]
  exact ⟨hQ, rfl, Q2⟩
def zF (u : ZSt) (P M b : Nat) : Nat := zbits (fun p => decide (0 < (zlik u M b p).toInt)) P
def zO (u : ZSt) (P M b : Nat) : Nat := zbits (fun p => decide ((zlik u M b p).toInt < 0)) P
theorem zF_lt {u : ZSt} {P : Nat} (hP : P ≤ 10) (M b : Nat) : zF u P M b < 1024 := z_1024 hP (zbits_lt _ P)
theorem zO_lt {u : ZSt} {P : Nat} (hP : P ≤ 10) (M b : Nat) : zO u P M b < 1024 := z_1024 hP (zbits_lt _ P)
theorem x_lean {u v : ZSt} {P M : Nat} {adj : Nat → Nat} (h : zRB u P M adj) (hv : zsc u v) {b : Nat} (hb : b < 1024) : f_Ballot_fans (nI b) v = some (nI (zF u P M b)) ∧ f_Ballot_foes (nI b) v = some (nI (zO u P M b)) := by
  have hP := h.1.1
  have hM := h.2.1.1
  have hB := h.sc hv
  have key : ∀ (way : Int32) (A : Nat → Bool), (∀ p, p < P → (way * zlik u M b p ≤ 0 ↔ ¬ A p = true)) → f_Ballot_whoLeans (nI b) way v = some (nI (zbits A P)) := by
    intro way A hA
    have e : ziter (fun s : Int32 × Int32 => b_Ballot_whoLeans_4 (nI b) way s.1 s.2 v) zfu (0, 0) = some (nI (zbits A P), nI P) := by
      refine zit_eq (B := fun s : Int32 × Int32 => b_Ballot_whoLeans_4 (nI b) way s.1 s.2 v) P (fun k => (nI (zbits A k), nI k)) _ (by omega) ?_ ?_
      · intro k hk
        have n1 : ¬ nI P ≤ nI k := by rw [nI_leI (by omega) (by omega)]; omega
        have hs := x_sum1 hB.2.1.1 hB.2.1.2.1 hB.2.2.1 (p := k) (b := b) (by omega) (by omega)
        rw [zlik_sc hv] at hs
        have st := zbits_step A (k := k) (by omega)
        simp only [b_Ballot_whoLeans_4, hB.1.2.1, n1, if_false, hs, Option.bind_some, nI_1]
        by_cases e : A k = true
        · rw [if_pos e] at st
          rw [if_neg (fun q => (hA k hk).mp q e), st]
        · rw [if_neg e] at st
          rw [if_pos ((hA k hk).mpr e), st]
      · have n1 : nI P ≤ nI P := by rw [nI_leI (by omega) (by omega)]; exact Nat.le_refl _
        simp only [b_Ballot_whoLeans_4, hB.1.2.1, n1, if_true]
    simp only [f_Ballot_whoLeans, e, Option.bind_some, a_Ballot_whoLeans_4]
  constructor
  · have e := key 1 (fun p => decide (0 < (zlik u M b p).toInt)) (fun p hp => by
      rw [Int32.one_mul, fa_le, decide_eq_true_eq, show (0 : Int32).toInt = 0 from rfl]; omega)
    simp only [f_Ballot_fans, e, Option.bind_some, zF]
  · have e := key (-1) (fun p => decide ((zlik u M b p).toInt < 0)) (fun p hp => by
      have := zlik_le h.2.2.1 hM b (p := p) (by omega)
      rw [Int32.neg_mul, Int32.one_mul, fa_le, decide_eq_true_eq, Int32.toInt_neg, Int.bmod_def, show (0 : Int32).toInt = 0 from rfl]
      simp only [show (2 ^ 32 : Nat) = 4294967296 from rfl]
      omega)
    simp only [f_Ballot_foes, e, Option.bind_some, zO]
theorem m_side {u v : ZSt} {P M : Nat} {adj : Nat → Nat} (h : zRB u P M adj) {b f g : Nat} (hv : zMwd u P M b f g v) {s : Nat} (hs : s < 1024) : f_M_sideOf (nI s) 1 v = some (nI (s &&& zF u P M b)) ∧ f_M_sideOf (nI s) 0 v = some (nI (s &&& zO u P M b)) := by
  have hP := h.1.1
  have hB := h.sd hv.1
  have c10 : ¬ (1 : Int32) = 0 := by decide
  have and_eq : ∀ A : Nat → Bool, zbits (fun p => s.testBit p && A p) P = s &&& zbits A P := by
    intro A
    refine Nat.eq_of_testBit_eq (fun i => ?_)
    rw [Nat.testBit_and, zbits_tb, zbits_tb]
    cases s.testBit i <;> cases decide (i < P) <;> rfl
  have key : ∀ (way : Int32) (A : Nat → Bool), (∀ (p : Nat) (w : Int32 × Int32), p < P → (if way = 0 then (if 0 ≤ zlik u M b p then (0 : Int32) else 1) else (if zlik u M b p ≤ 0 then 0 else 1)) = if A p = true then 1 else 0) → f_M_sideOf (nI s) way v = some (nI (s &&& zbits A P)) := by
    intro way A hA
    rw [← and_eq]
    have e : ziter (fun x : Int32 × Int32 => b_M_sideOf_4 (nI s) way x.1 x.2 v) zfu (0, 0) = some (nI (zbits (fun p => s.testBit p && A p) P), nI P) := by
      refine zit_eq (B := fun x : Int32 × Int32 => b_M_sideOf_4 (nI s) way x.1 x.2 v) P (fun k => (nI (zbits (fun p => s.testBit p && A p) k), nI k)) _ (by omega) ?_ ?_
      · intro k hk
        have n1 : ¬ nI P ≤ nI k := by rw [nI_leI (by omega) (by omega)]; omega
        have st := zbits_step (fun p => s.testBit p && A p) (k := k) (by omega)
        have hA2 := hA k (0, 0) hk
        simp only [b_M_sideOf_4, hB.1.2.2.1, n1, if_false, m_isIn (show s < 2 ^ 31 by omega) (show k < 32 by omega), Option.bind_some, zif (zn_zin (show k < 10 by omega) (show 10 < 2 ^ 31 by decide)), zn_cl (show k < 2 ^ 31 by omega), (hv.2 k hk).2, nI_1]
        by_cases e1 : s.testBit k = true
        · rw [if_pos e1, if_neg c10]
          by_cases e2 : A k = true
          · rw [if_pos (by rw [e1, e2]; rfl)] at st
            rw [if_pos e2] at hA2
            rw [st]
            by_cases w0 : way = 0
            · rw [if_pos w0] at hA2 ⊢
              by_cases z : 0 ≤ zlik u M b k
              · rw [if_pos z] at hA2; exact absurd hA2 (by decide)
              · rw [if_neg z]
            · rw [if_neg w0] at hA2 ⊢
              by_cases z : zlik u M b k ≤ 0
              · rw [if_pos z] at hA2; exact absurd hA2 (by decide)
              · rw [if_neg z]
          · rw [if_neg (by rw [e1, Bool.true_and]; exact e2)] at st
            rw [if_neg e2] at hA2
            rw [st]
            by_cases w0 : way = 0
            · rw [if_pos w0] at hA2 ⊢
              by_cases z : 0 ≤ zlik u M b k
              · rw [if_pos z]
              · rw [if_neg z] at hA2; exact absurd hA2 (by decide)
            · rw [if_neg w0] at hA2 ⊢
              by_cases z : zlik u M b k ≤ 0
              · rw [if_pos z]
              · rw [if_neg z] at hA2; exact absurd hA2 (by decide)
        · rw [if_neg e1, if_pos rfl]
          rw [if_neg (by simp [e1])] at st
          rw [st]
      · have n1 : nI P ≤ nI P := by rw [nI_leI (by omega) (by omega)]; exact Nat.le_refl _
        simp only [b_M_sideOf_4, hB.1.2.2.1, n1, if_true]
    simp only [f_M_sideOf, e, Option.bind_some, a_M_sideOf_4]
  constructor
  · refine key 1 _ (fun p _ hp => ?_)
    rw [if_neg c10]
    by_cases e : 0 < (zlik u M b p).toInt
    · rw [if_neg (by rw [fa_le, show (0 : Int32).toInt = 0 from rfl]; omega), if_pos (by simpa using e)]
    · rw [if_pos (by rw [fa_le, show (0 : Int32).toInt = 0 from rfl]; omega), if_neg (by simpa using e)]
  · refine key 0 _ (fun p _ hp => ?_)
    rw [if_pos rfl]
    by_cases e : (zlik u M b p).toInt < 0
    · rw [if_neg (by rw [fa_le, show (0 : Int32).toInt = 0 from rfl]; omega), if_pos (by simpa using e)]
    · rw [if_pos (by rw [fa_le, show (0 : Int32).toInt = 0 from rfl]; omega), if_neg (by simpa using e)]
def zcar (Q s a b : Nat) : Bool := decide (Q ≤ zpop s) && decide (zpop (s &&& b) < zpop (s &&& a))
def zmor (a b : Nat) : Bool := decide (zpop b < zpop a)
theorem z_and_lt {s : Nat} (hs : s < 1024) (a : Nat) : s &&& a < 1024 := Nat.lt_of_le_of_lt Nat.and_le_left hs
theorem zpop_31 (b : Nat) : zpop b < 2 ^ 31 := by have := zpop_le b; omega
theorem x_more {a b : Nat} (ha : a < 1024) (hb : b < 1024) : f_Ballot_isMore (nI a) (nI b) = some (if zmor a b = true then 1 else 0) := by
  simp only [f_Ballot_isMore, z_pcx a ha, z_pcx b hb, Option.bind_some, nI_leI (zpop_31 a) (zpop_31 b), zmor, decide_eq_true_eq]
  by_cases e : zpop b < zpop a
  · rw [if_neg (by omega), if_pos e]
  · rw [if_pos (by omega), if_neg e]
theorem m_more {u v : ZSt} {P M : Nat} {adj : Nat → Nat} (h : zRB u P M adj) {b f g : Nat} (hv : zMwd u P M b f g v) {s : Nat} (hs : s < 1024) : f_M_isMore (nI s) v = some (if zmor (s &&& zF u P M b) (s &&& zO u P M b) = true then 1 else 0) := by
  obtain ⟨e1, e2⟩ := m_side h hv hs
  simp only [f_M_isMore, e1, e2, Option.bind_some, m_bits (z_and_lt hs _), nI_leI (zpop_31 _) (zpop_31 _), zmor, decide_eq_true_eq]
  by_cases e : zpop (s &&& zO u P M b) < zpop (s &&& zF u P M b)
  · rw [if_neg (by omega), if_pos e]
  · rw [if_pos (by omega), if_neg e]
theorem x_carBy {u v : ZSt} {P M : Nat} {adj : Nat → Nat} (h : zRB u P M adj) (hv : zsc u v) {s : Nat} (hs : s < 1024) (a b : Nat) : f_Ballot_isCarriedBy (nI s) (nI a) (nI b) v = some (if zcar (zquo u) s a b = true then 1 else 0) := by
  obtain ⟨q1, q2, q3⟩ := zquo_ok h
  have c10 : ¬ (1 : Int32) = 0 := by decide
  simp only [f_Ballot_isCarriedBy, z_pcx s hs, Option.bind_some, hv.g 107, q2, nI_ltI (zpop_31 s) (show zquo u < 2 ^ 31 by omega), fa_and, x_more (z_and_lt hs a) (z_and_lt hs b)]
  unfold zcar zmor
  by_cases e : zpop s < zquo u
  · rw [if_pos e, if_neg (by simp; omega)]
  · rw [if_neg e]
    by_cases e2 : zpop (s &&& b) < zpop (s &&& a)
    · simp only [e2, decide_true, if_true, c10, if_false, Bool.and_true, decide_eq_true_eq]
      rw [if_pos (by omega)]
    · simp only [e2, decide_false, Bool.false_eq_true, if_false, if_true, Bool.and_false]
theorem m_carBy {u v : ZSt} {P M : Nat} {adj : Nat → Nat} (h : zRB u P M adj) {b f g : Nat} (hv : zMwd u P M b f g v) {s : Nat} (hs : s < 1024) : f_M_isCarriedBy (nI s) v = some (if zcar (zquo u) s (zF u P M b) (zO u P M b) = true then 1 else 0) := by
  obtain ⟨q1, q2, q3⟩ := zquo_ok h
  have c10 : ¬ (1 : Int32) = 0 := by decide
  simp only [f_M_isCarriedBy, m_bits hs, Option.bind_some, hv.1.g 3912, q3, nI_ltI (zpop_31 s) (show zquo u < 2 ^ 31 by omega), m_more h hv hs]
  unfold zcar zmor
  by_cases e : zpop s < zquo u
  · rw [if_pos e, if_neg (by simp; omega)]
  · rw [if_neg e]
    by_cases e2 : zpop (s &&& zO u P M b) < zpop (s &&& zF u P M b)
    · simp only [e2, decide_true, if_true, c10, if_false, Bool.and_true, decide_eq_true_eq]
      rw [if_pos (by omega)]
    · simp only [e2, decide_false, Bool.false_eq_true, if_false, if_true, Bool.and_false]
noncomputable def zW (u : ZSt) (P M b f g : Nat) : Nat := Classical.epsilon (zWs u P M b f g)
theorem zW_ok {u : ZSt} {P M : Nat} {adj : Nat → Nat} (h : zRB u P M adj) {b f g : Nat} (hb : b < 1024) (hf : f < 1024) (hg : g < 1024) : zWs u P M b f g (zW u P M b f g) := Classical.epsilon_spec (o_who h hb hf hg)
theorem zW_lt {u : ZSt} {P M : Nat} {adj : Nat → Nat} (h : zRB u P M adj) {b f g : Nat} (hb : b < 1024) (hf : f < 1024) (hg : g < 1024) : zW u P M b f g < 1024 := z_1024 h.1.1 (zW_ok h hb hf hg).1
noncomputable def zC (u : ZSt) (P M b g : Nat) : Bool := zcar (zquo u) (zW u P M b b g) (zF u P M b) (zO u P M b)
theorem x_car {u v : ZSt} {P M : Nat} {adj : Nat → Nat} (h : zRB u P M adj) (hv : zsc u v) {b g : Nat} (hb : b < 1024) (hg : g < 1024) : ∃ v', f_Ballot_isCarried (nI b) (nI g) v = some (if zC u P M b g = true then 1 else 0, v') ∧ zsc u v' := by
  obtain ⟨v', e1, e2⟩ := (zW_ok h hb hb hg).2.1 v hv
  obtain ⟨e3, e4⟩ := x_lean h e2 hb
  refine ⟨v', ?_, e2⟩
  simp only [f_Ballot_isCarried, e1, e3, e4, Option.bind_some, x_carBy h e2 (zW_lt h hb hb hg)]
  rfl
theorem m_car {u v : ZSt} {P M : Nat} {adj : Nat → Nat} (h : zRB u P M adj) (hv : zsc u v) {b g : Nat} (hb : b < 1024) (hg : g < 1024) : ∃ v', f_M_isCarried (nI b) (nI g) v = some (if zC u P M b g = true then 1 else 0, v') ∧ v'.1 3925 = nI (zW u P M b b g) ∧ zMw u P M b b g v' := by
  obtain ⟨v', e1, e2, e3⟩ := (zW_ok h hb hb hg).2.2 v hv
  refine ⟨v', ?_, e2, e3⟩
  simp only [f_M_isCarried, e1, Option.bind_some, e2, m_carBy h e3.d (zW_lt h hb hb hg)]
  rfl
/-- the same, where the deeds' rows may have changed, too -/
theorem m_card {u v : ZSt} {P M : Nat} {adj : Nat → Nat} (h : zRB u P M adj) (hv : zsd u v) {b g : Nat} (hb : b < 1024) (hg : g < 1024) : ∃ v', f_M_isCarried (nI b) (nI g) v = some (if zC u P M b g = true then 1 else 0, v') ∧ zfr [3917, 3918, 3919, 3920, 3921, 3925] [48, 49, 50] [] v v' := by
  obtain ⟨w, w1, w2, w3⟩ := o_who2 h hb hb hg
  obtain ⟨y, a1, -⟩ := w2 u (zfr_rf u)
  obtain ⟨z, b1, -⟩ := (zW_ok h hb hb hg).2.1 u (zfr_rf u)
  have wl := zW_lt h hb hb hg
  have ww := z_1024 h.1.1 w1
  have e : w = zW u P M b b g := by
    rw [a1] at b1
    have q : nI w = nI (zW u P M b b g) := by injection b1 with q; injection q
    exact (nI_eq (by omega) (by omega)).mp q
  obtain ⟨v', e1, e2, e3, e4⟩ := w3 v hv
  rw [e] at e2
  refine ⟨v', ?_, e4⟩
  simp only [f_M_isCarried, e1, Option.bind_some, e2, m_carBy h e3 wl]
  rfl
/-! bundles, gifts -/
theorem z_pow {k n : Nat} (h : k ≤ n) (hn : n ≤ 10) : 1 ≤ 2 ^ k ∧ 2 ^ k ≤ 1024 := ⟨Nat.two_pow_pos k, Nat.pow_le_pow_right (by decide) (Nat.le_trans h hn : k ≤ 10)⟩
theorem x_all' {u : ZSt} {k : Nat} (hk : k ≤ 10) : ((1 : Int32) <<< (nI k &&& 31)) - (1 : Int32) = nI (2 ^ k - 1) := by
  rw [zn_p (by omega)]; exact z_ds1 (Nat.two_pow_pos k)
theorem x_isBundle {u : ZSt} {M : Nat} (hM : M ≤ 10) (h : u.1 105 = nI M) (a : Int32) : f_Council_isBundle a u = some (if 1 ≤ a.toInt ∧ a.toInt < ((2 ^ M : Nat) : Int) then 1 else 0) := by
  have := z_pow hM (Nat.le_refl _)
  simp only [f_Council_isBundle, f_Council_everything, h, x_all' (u := u) hM, Option.bind_some, fa_le, fa_lt, nI_toInt (show 2 ^ M - 1 < 2 ^ 31 by omega), show (0 : Int32).toInt = 0 from rfl]
  by_cases e1 : a.toInt ≤ 0
  · rw [if_pos e1, if_neg (by omega)]
  · rw [if_neg e1]
    by_cases e2 : ((2 ^ M - 1 : Nat) : Int) < a.toInt
    · rw [if_pos e2, if_neg (by omega)]
    · rw [if_neg e2, if_pos (by omega)]
theorem x_isGifts {u : ZSt} {P : Nat} (hP : P ≤ 10) (h : u.1 103 = nI P) (a : Int32) : f_Council_isGifts a u = some (if 0 ≤ a.toInt ∧ a.toInt < ((2 ^ P : Nat) : Int) then 1 else 0) := by
  have := z_pow hP (Nat.le_refl _)
  simp only [f_Council_isGifts, f_Council_everybody, h, x_all' (u := u) hP, Option.bind_some, fa_lt, nI_toInt (show 2 ^ P - 1 < 2 ^ 31 by omega), show (0 : Int32).toInt = 0 from rfl]
  by_cases e1 : a.toInt < 0
  · rw [if_pos e1, if_neg (by omega)]
  · rw [if_neg e1]
    by_cases e2 : ((2 ^ P - 1 : Nat) : Int) < a.toInt
    · rw [if_pos e2, if_neg (by omega)]
    · rw [if_neg e2, if_pos (by omega)]
theorem m_isBundle {u : ZSt} {M : Nat} (hM : M ≤ 10) (h : u.1 3907 = nI M) (a : Int32) : f_M_isBundle a u = some (if 1 ≤ a.toInt ∧ a.toInt < ((2 ^ M : Nat) : Int) then 1 else 0) := by
  have := z_pow hM (Nat.le_refl _)
  simp only [f_M_isBundle, h, x_all' (u := u) hM, z_within, Int32.toInt_toInt64, nI_toInt (show 2 ^ M - 1 < 2 ^ 31 by omega), show (1 : Int64).toInt = 1 from rfl, Option.bind_some]
  have e : (1 ≤ a.toInt ∧ a.toInt ≤ ((2 ^ M - 1 : Nat) : Int)) ↔ (1 ≤ a.toInt ∧ a.toInt < ((2 ^ M : Nat) : Int)) := by omega
  simp only [e]
theorem m_areGifts {u : ZSt} {P : Nat} (hP : P ≤ 10) (h : u.1 3906 = nI P) (a : Int32) : f_M_areGifts a u = some (if 0 ≤ a.toInt ∧ a.toInt < ((2 ^ P : Nat) : Int) then 1 else 0) := by
  have := z_pow hP (Nat.le_refl _)
  simp only [f_M_areGifts, h, x_all' (u := u) hP, z_within, Int32.toInt_toInt64, nI_toInt (show 2 ^ P - 1 < 2 ^ 31 by omega), show (0 : Int64).toInt = 0 from rfl, Option.bind_some]
  have e : (0 ≤ a.toInt ∧ a.toInt ≤ ((2 ^ P - 1 : Nat) : Int)) ↔ (0 ≤ a.toInt ∧ a.toInt < ((2 ^ P : Nat) : Int)) := by omega
  simp only [e]
theorem z_bund {M : Nat} {a : Int32} (h : 1 ≤ a.toInt ∧ a.toInt < ((2 ^ M : Nat) : Int)) : ∃ b, 1 ≤ b ∧ b < 2 ^ M ∧ a = nI b := by
  obtain ⟨b, h1, h2⟩ := z_pos (n := 2 ^ M) ⟨by omega, h.2⟩
  refine ⟨b, ?_, h1, h2⟩
  rcases Nat.eq_zero_or_pos b with e | e
  · subst e
    rw [h2] at h
    exact absurd h.1 (by decide)
  · exact e
theorem o_may {u : ZSt} {P M : Nat} {adj : Nat → Nat} (h : zRB u P M adj) (a b c : Int32) : ∃ r u1 u2, f_X_may a b c u = some (r, u1) ∧ f_M_may a b c u1 = some (r, u2) ∧ zsc u u2 := by
  have hP := h.1.1
  have hM : M ≤ 10 := by have := h.2.1.1; omega
  have c10 : ¬ (1 : Int32) = 0 := by decide
  have x1 := x_isPerson hP h.1.2.1 a
  have m1 := m_isPerson hP h.1.2.2.1 a
  have x2 := x_isBundle hM h.2.1.2.1 b
  have x3 := x_isGifts hP h.1.2.1 c
  have m2 := m_isBundle hM h.2.1.2.2 b
  have m3 := m_areGifts hP h.1.2.2.1 c
  by_cases ha : 0 ≤ a.toInt ∧ a.toInt < P
  · rw [if_pos ha] at x1 m1
    by_cases hb : 1 ≤ b.toInt ∧ b.toInt < ((2 ^ M : Nat) : Int)
    · rw [if_pos hb] at x2 m2
      by_cases hc : 0 ≤ c.toInt ∧ c.toInt < ((2 ^ P : Nat) : Int)
      · rw [if_pos hc] at x3 m3
        obtain ⟨p, hp, rfl⟩ := z_pos ha
        obtain ⟨B, hB1, hB2, rfl⟩ := z_bund hb
        obtain ⟨g, hg, rfl⟩ := z_pos hc
        have hB3 := z_1024 hM hB2
        have hg3 := z_1024 hP hg
        obtain ⟨w1, w2, w3⟩ := zW_ok h hB3 hB3 hg3
        have wl := zW_lt h hB3 hB3 hg3
        obtain ⟨v, v1, v2⟩ := w2 u (zfr_rf u)
        obtain ⟨y, y1, y2, y3⟩ := w3 v v2
        have hv := h.sc v2
        have m1' := m_isPerson hP hv.1.2.2.1 (nI p)
        have m2' := m_isBundle hM hv.2.1.2.2 (nI B)
        have m3' := m_areGifts hP hv.1.2.2.1 (nI g)
        rw [if_pos ha] at m1'
        rw [if_pos hb] at m2'
        rw [if_pos hc] at m3'
        refine ⟨if (zW u P M B B g).testBit p = true then 1 else 0, v, y, ?_, ?_, y3.1⟩
        · simp only [f_X_may, f_X_isPut, x1, x2, x3, Option.bind_some, c10, if_false, v1, zb_u (show zW u P M B B g < 2 ^ 31 by omega) (show p < 32 by omega)]
        · simp only [f_M_may, m1', m2', m3', Option.bind_some, c10, if_false, y1, y2, m_isIn (show zW u P M B B g < 2 ^ 31 by omega) (show p < 32 by omega)]
          by_cases e : (zW u P M B B g).testBit p = true
          · rw [if_pos e, if_neg c10]
          · rw [if_neg e, if_pos rfl]
      · rw [if_neg hc] at x3 m3
        refine ⟨-1, u, u, ?_, ?_, zfr_rf u⟩
        · simp only [f_X_may, f_X_isPut, x1, x2, x3, Option.bind_some, c10, if_false, if_true]
        · simp only [f_M_may, m1, m2, m3, Option.bind_some, c10, if_false, if_true]
    · rw [if_neg hb] at x2 m2
      refine ⟨-1, u, u, ?_, ?_, zfr_rf u⟩
      · simp only [f_X_may, f_X_isPut, x1, x2, Option.bind_some, c10, if_false, if_true]
      · simp only [f_M_may, m1, m2, Option.bind_some, c10, if_false, if_true]
  · rw [if_neg ha] at x1 m1
    refine ⟨-1, u, u, ?_, ?_, zfr_rf u⟩
    · simp only [f_X_may, x1, Option.bind_some, if_true]
    · simp only [f_M_may, m1, Option.bind_some, if_true]
theorem o_vote {u : ZSt} {P M : Nat} {adj : Nat → Nat} (h : zRB u P M adj) (a b c : Int32) : ∃ r u1 u2, f_X_vote a b c u = some (r, u1) ∧ f_M_vote a b c u1 = some (r, u2) ∧ zsc u u2 := by
  have hP := h.1.1
  have hM : M ≤ 10 := by have := h.2.1.1; omega
  have c10 : ¬ (1 : Int32) = 0 := by decide
  have x2 := x_isBundle hM h.2.1.2.1 a
  have x3 := x_isGifts hP h.1.2.1 b
  have m2 := m_isBundle hM h.2.1.2.2 a
  have m3 := m_areGifts hP h.1.2.2.1 b
  have m4 : f_M_within c.toInt64 0 3 = some (if 0 ≤ c.toInt ∧ c.toInt ≤ 3 then 1 else 0) := by
    rw [z_within, Int32.toInt_toInt64]; rfl
  by_cases hb : 1 ≤ a.toInt ∧ a.toInt < ((2 ^ M : Nat) : Int)
  · rw [if_pos hb] at x2 m2
    by_cases hc : 0 ≤ b.toInt ∧ b.toInt < ((2 ^ P : Nat) : Int)
    · rw [if_pos hc] at x3 m3
      by_cases hd : 0 ≤ c.toInt ∧ c.toInt ≤ 3
      · rw [if_pos hd] at m4
        obtain ⟨k, hk, rfl⟩ := z_le99 (n := 3) hd
        obtain ⟨B, hB1, hB2, rfl⟩ := z_bund hb
        obtain ⟨g, hg, rfl⟩ := z_pos hc
        have hB3 := z_1024 hM hB2
        have hg3 := z_1024 hP hg
        obtain ⟨w1, w2, w3⟩ := zW_ok h hB3 hB3 hg3
        have wl := zW_lt h hB3 hB3 hg3
        obtain ⟨v, v1, v2⟩ := w2 u (zfr_rf u)
        obtain ⟨vc, vc1, vc2⟩ := x_car h (zfr_rf u) hB3 hg3
        obtain ⟨l1, l2⟩ := x_lean h v2 hB3
        have mm : ∀ v, zsc u v → ∃ y, f_M_isCarried (nI B) (nI g) v = some (if zC u P M B g = true then 1 else 0, y) ∧ y.1 3925 = nI (zW u P M B B g) ∧ zMw u P M B B g y ∧ f_M_isBundle (nI B) v = some 1 ∧ f_M_areGifts (nI g) v = some 1 := by
          intro v hv
          obtain ⟨y, y1, y2, y3⟩ := m_car h hv hB3 hg3
          have hv2 := h.sc hv
          have m2' := m_isBundle hM hv2.2.1.2.2 (nI B)
          have m3' := m_areGifts hP hv2.1.2.2.1 (nI g)
          rw [if_pos hb] at m2'
          rw [if_pos hc] at m3'
          exact ⟨y, y1, y2, y3, m2', m3'⟩
        rcases (show k = 0 ∨ k = 1 ∨ k = 2 ∨ k = 3 by omega) with rfl | rfl | rfl | rfl
        · obtain ⟨y, y1, y2, y3, y4, y5⟩ := mm v v2
          have m4' : f_M_within (Int32.toInt64 0) 0 3 = some 1 := m4
          refine ⟨nI (zW u P M B B g), v, y, ?_, ?_, y3.1⟩
          · simp only [f_X_vote, f_X_isPut, x2, x3, Option.bind_some, c10, if_false, v1, show nI 0 = (0 : Int32) from rfl, if_true]
          · simp only [f_M_vote, y4, y5, m4', Option.bind_some, c10, if_false, y1, show nI 0 = (0 : Int32) from rfl, if_true, y2]
        · obtain ⟨y, y1, y2, y3, y4, y5⟩ := mm v v2
          have m4' : f_M_within (Int32.toInt64 1) 0 3 = some 1 := m4
          obtain ⟨s1, s2⟩ := m_side h y3.d wl
          refine ⟨nI (zW u P M B B g &&& zF u P M B), v, y, ?_, ?_, y3.1⟩
          · simp only [f_X_vote, f_X_isPut, x2, x3, Option.bind_some, c10, if_false, v1, show nI 1 = (1 : Int32) from rfl, if_true, l1, fa_and]
          · simp only [f_M_vote, y4, y5, m4', Option.bind_some, c10, if_false, y1, show nI 1 = (1 : Int32) from rfl, if_true, y2, s1, show ¬ (3 : Int32) ≤ 1 by decide]
        · obtain ⟨y, y1, y2, y3, y4, y5⟩ := mm v v2
          have m4' : f_M_within (Int32.toInt64 2) 0 3 = some 1 := m4
          obtain ⟨s1, s2⟩ := m_side h y3.d wl
          refine ⟨nI (zW u P M B B g &&& zO u P M B), v, y, ?_, ?_, y3.1⟩
          · simp only [f_X_vote, f_X_isPut, x2, x3, Option.bind_some, c10, if_false, v1, show nI 2 = (2 : Int32) from rfl, if_true, l2, fa_and, show ¬ (2 : Int32) = 0 by decide, show ¬ (2 : Int32) = 1 by decide]
          · simp only [f_M_vote, y4, y5, m4', Option.bind_some, c10, if_false, y1, show nI 2 = (2 : Int32) from rfl, y2, s2, show ¬ (3 : Int32) ≤ 2 by decide, show ¬ (2 : Int32) = 0 by decide, show ¬ (2 : Int32) = 1 by decide]
        · obtain ⟨y, y1, y2, y3, y4, y5⟩ := mm vc vc2
          have m4' : f_M_within (Int32.toInt64 3) 0 3 = some 1 := m4
          refine ⟨if zC u P M B g = true then 1 else 0, vc, y, ?_, ?_, y3.1⟩
          · simp only [f_X_vote, f_X_isPut, x2, x3, Option.bind_some, c10, if_false, vc1, show nI 3 = (3 : Int32) from rfl, if_true, show ¬ (3 : Int32) = 0 by decide, show ¬ (3 : Int32) = 1 by decide, show ¬ (3 : Int32) = 2 by decide]
            by_cases e : zC u P M B g = true
            · rw [if_pos e, if_neg c10]
            · rw [if_neg e, if_pos rfl]
          · simp only [f_M_vote, y4, y5, m4', Option.bind_some, c10, if_false, y1, show nI 3 = (3 : Int32) from rfl, if_true, show ¬ (3 : Int32) = 0 by decide, show (3 : Int32) ≤ 3 by decide]
            by_cases e : zC u P M B g = true
            · rw [if_pos e, if_neg c10]
            · rw [if_neg e, if_pos rfl]
      · rw [if_neg hd] at m4
        have n0 : ¬ c = 0 := fun e => hd (by rw [e]; decide)
        have n1 : ¬ c = 1 := fun e => hd (by rw [e]; decide)
        have n2 : ¬ c = 2 := fun e => hd (by rw [e]; decide)
        have n3 : ¬ c = 3 := fun e => hd (by rw [e]; decide)
        refine ⟨-1, u, u, ?_, ?_, zfr_rf u⟩
        · simp only [f_X_vote, f_X_isPut, x2, x3, Option.bind_some, c10, if_false, n0, n1, n2, n3]
        · simp only [f_M_vote, m2, m3, m4, Option.bind_some, c10, if_false, if_true]
    · rw [if_neg hc] at x3 m3
      refine ⟨-1, u, u, ?_, ?_, zfr_rf u⟩
      · simp only [f_X_vote, f_X_isPut, x2, x3, Option.bind_some, c10, if_false, if_true]
      · simp only [f_M_vote, m2, m3, Option.bind_some, c10, if_false, if_true]
  · rw [if_neg hb] at x2 m2
    refine ⟨-1, u, u, ?_, ?_, zfr_rf u⟩
    · simp only [f_X_vote, f_X_isPut, x2, Option.bind_some, if_true]
    · simp only [f_M_vote, m2, Option.bind_some, if_true]
