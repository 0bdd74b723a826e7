/-! found by trying: together, silenced, leaveOut, alone -/
def zbst : Option Nat → Int32
  | none => -2
  | some b => nI b
def zfew (k : Nat) : Option Nat → Bool
  | none => true
  | some b => decide (zpop k < zpop b)
def zIo (x : Option Nat) : Prop := ∀ b, x = some b → b < 1024
theorem zIo_n : zIo none := fun b h => by cases h
theorem zIo_s {k : Nat} (h : k < 1024) : zIo (some k) := fun b e => by cases e; exact h
theorem x_fewer {k : Nat} (hk : k < 1024) {x : Option Nat} (hx : zIo x) : f_Finder_isFewer (nI k) (zbst x) = some (if zfew k x = true then 1 else 0) := by
  cases x with
  | none => simp only [f_Finder_isFewer, zbst, show (-2 : Int32) < 0 by decide, if_true, zfew]
  | some b =>
    have hb := hx b rfl
    have n0 : ¬ nI b < 0 := nI_pos (by omega)
    simp only [f_Finder_isFewer, zbst, n0, if_false, z_pcx k hk, z_pcx b hb, Option.bind_some, nI_leI (zpop_31 b) (zpop_31 k), zfew, decide_eq_true_eq]
    by_cases e : zpop k < zpop b
    · rw [if_neg (by omega), if_pos e]
    · rw [if_pos (by omega), if_neg e]
theorem bt_n (a : Nat) {i : Nat} (h : i < 32) : bt (nI a) i = a.testBit i := by
  show (BitVec.ofNat 32 a).getLsbD i = _
  rw [BitVec.getLsbD_ofNat]
  simp [h]
theorem z_andn {a : Nat} (ha : a < 1024) (b : Nat) : nI a &&& (nI b ^^^ (-1 : Int32)) = nI (a &&& (b ^^^ 1023)) := by
  refine b_ext (fun i hi => ?_)
  rw [b_and, b_xor, bt_n a hi, bt_n b hi, b_m1 i hi, bt_n _ hi, Nat.testBit_and, Nat.testBit_xor, show (1023 : Nat) = 2 ^ 10 - 1 from rfl, Nat.testBit_two_pow_sub_one]
  by_cases h : i < 10
  · simp [h]
  · have : a.testBit i = false := Nat.testBit_lt_two_pow (Nat.lt_of_lt_of_le ha (Nat.pow_le_pow_right (by decide) (by omega) : 2 ^ 10 ≤ 2 ^ i))
    rw [this, Bool.false_and, Bool.false_and]
def zgT (C : Nat → Bool) (m k : Nat) (x : Option Nat) : Option Nat := if (k.testBit m && zfew k x && C k) = true then some k else x
theorem o_together {u : ZSt} {P M : Nat} {adj : Nat → Nat} (h : zRB u P M adj) (a : Int32) : ∃ r u1 u2, f_X_together a u = some (r, u1) ∧ f_M_together a u1 = some (r, u2) ∧ zsc u u2 := by
  have hM := h.2.1.1
  have hM10 : M ≤ 10 := by omega
  have c10 : ¬ (1 : Int32) = 0 := by decide
  have hp := z_pow hM10 (Nat.le_refl _)
  have x1 := x_isMatter hM10 h.2.1.2.1 a
  have m1 := m_isMatter hM10 h.2.1.2.2 a
  by_cases ha : 0 ≤ a.toInt ∧ a.toInt < M
  · rw [if_pos ha] at x1 m1
    obtain ⟨m, hm, rfl⟩ := z_pos ha
    obtain ⟨v, v1, v2⟩ := zit_f (B := fun s : Int32 × Int32 × ZSt => b_Finder_smallestCarriedWith_8 (nI m) (nI (2 ^ M - 1)) s.1 s.2.1 s.2.2) (fun k x v => (zbst x, nI k, v)) (fun x v => (zbst x, nI (2 ^ M), v))
      (fun k x v => zsc u v ∧ zIo x) (zgT (fun k => zC u P M k 0) m) (a := 1) (n := 2 ^ M) (x := none) (v := u) hp.1 (by omega)
      (by
        rintro k x v hk1 hk ⟨hv, hx⟩
        have n1 : ¬ nI (2 ^ M - 1) < nI k := by rw [nI_ltI (by omega) (by omega)]; omega
        have hk3 : k < 1024 := by omega
        obtain ⟨y, y1, y2⟩ := x_car h hv hk3 (g := 0) (by decide)
        have y1' : f_Ballot_isCarried (nI k) 0 v = some (if zC u P M k 0 = true then 1 else 0, y) := y1
        simp only [b_Finder_smallestCarriedWith_8, n1, if_false, zb_u (show k < 2 ^ 31 by omega) (show m < 32 by omega), x_fewer hk3 hx, Option.bind_some, y1', nI_1]
        by_cases e1 : k.testBit m = true
        · by_cases e2 : zfew k x = true
          · by_cases e3 : zC u P M k 0 = true
            · have eg : zgT (fun k => zC u P M k 0) m k x = some k := by simp [zgT, e1, e2, e3]
              rw [eg]
              exact ⟨y, by simp only [e1, e2, e3, if_true, c10, if_false, zbst], y2, zIo_s hk3⟩
            · have eg : zgT (fun k => zC u P M k 0) m k x = x := by simp [zgT, e1, e2, e3]
              rw [eg]
              exact ⟨y, by simp only [e1, e2, e3, if_true, c10, if_false, Bool.false_eq_true, zbst], y2, hx⟩
          · have eg : zgT (fun k => zC u P M k 0) m k x = x := by simp [zgT, e1, e2]
            rw [eg]
            exact ⟨v, by simp only [e1, e2, if_true, c10, if_false, Bool.false_eq_true, zbst], hv, hx⟩
        · have eg : zgT (fun k => zC u P M k 0) m k x = x := by simp [zgT, e1]
          rw [eg]
          exact ⟨v, by simp only [e1, if_true, if_false, Bool.false_eq_true, zbst], hv, hx⟩)
      (by
        rintro x v -
        have n1 : nI (2 ^ M - 1) < nI (2 ^ M) := by rw [nI_ltI (by omega) (by omega)]; omega
        simp only [b_Finder_smallestCarriedWith_8, n1, if_true])
      ⟨zfr_rf u, zIo_n⟩
    obtain ⟨w, w1, w2⟩ := zit_f (B := fun s : Int32 × Int32 × ZSt => b_M_together_10 (nI m) s.1 s.2.1 s.2.2) (fun k x v => (zbst x, nI k, v)) (fun x v => (zbst x, nI (2 ^ M), v))
      (fun k x v => zsc u v ∧ zIo x) (zgT (fun k => zC u P M k 0) m) (a := 1) (n := 2 ^ M) (x := none) (v := v) hp.1 (by omega)
      (by
        rintro k x v hk1 hk ⟨hv, hx⟩
        have hB := h.sc hv
        have n1 : ¬ nI (2 ^ M) ≤ nI k := by rw [nI_leI (by omega) (by omega)]; omega
        have hk3 : k < 1024 := by omega
        obtain ⟨y, y1, -, y2⟩ := m_car h hv hk3 (g := 0) (by decide)
        have y1' : f_M_isCarried (nI k) 0 v = some (if zC u P M k 0 = true then 1 else 0, y) := y1
        simp only [b_M_together_10, hB.2.1.2.2, zn_p (show M < 32 by omega), n1, if_false, m_isIn (show k < 2 ^ 31 by omega) (show m < 32 by omega), Option.bind_some, y1', nI_1]
        by_cases e1 : k.testBit m = true
        · cases x with
          | none =>
            by_cases e3 : zC u P M k 0 = true
            · have eg : zgT (fun k => zC u P M k 0) m k none = some k := by simp [zgT, zfew, e1, e3]
              rw [eg]
              exact ⟨y, by simp only [e1, e3, zbst, show (-2 : Int32) < 0 by decide, zfew, if_true, c10, if_false], y2.1, zIo_s hk3⟩
            · have eg : zgT (fun k => zC u P M k 0) m k none = none := by simp [zgT, zfew, e1, e3]
              rw [eg]
              exact ⟨y, by simp only [e1, e3, zbst, show (-2 : Int32) < 0 by decide, zfew, if_true, c10, if_false, Bool.false_eq_true], y2.1, hx⟩
          | some b =>
            have hb := hx b rfl
            have n0 : ¬ nI b < 0 := nI_pos (by omega)
            simp only [zbst, n0, if_false, m_bits hk3, m_bits hb, Option.bind_some, nI_leI (zpop_31 b) (zpop_31 k)]
            by_cases e2 : zpop k < zpop b
            · have e2' : ¬ zpop b ≤ zpop k := by omega
              by_cases e3 : zC u P M k 0 = true
              · have eg : zgT (fun k => zC u P M k 0) m k (some b) = some k := by simp [zgT, zfew, e1, e2, e3]
                rw [eg]
                exact ⟨y, by simp only [e1, e2, e2', e3, if_true, c10, if_false, zbst], y2.1, zIo_s hk3⟩
              · have eg : zgT (fun k => zC u P M k 0) m k (some b) = some b := by simp [zgT, zfew, e1, e2, e3]
                rw [eg]
                exact ⟨y, by simp only [e1, e2, e2', e3, if_true, c10, if_false, Bool.false_eq_true, zbst], y2.1, hx⟩
            · have e2' : zpop b ≤ zpop k := by omega
              have eg : zgT (fun k => zC u P M k 0) m k (some b) = some b := by simp [zgT, zfew, e1, e2]
              rw [eg]
              exact ⟨v, by simp only [e1, e2, e2', if_true, c10, if_false, Bool.false_eq_true, zbst], hv, hx⟩
        · have eg : zgT (fun k => zC u P M k 0) m k x = x := by simp [zgT, e1]
          rw [eg]
          exact ⟨v, by simp only [e1, if_true, if_false, Bool.false_eq_true, zbst], hv, hx⟩)
      (by
        rintro x v ⟨hv, -⟩
        have n1 : nI (2 ^ M) ≤ nI (2 ^ M) := by rw [nI_leI (by omega) (by omega)]; exact Nat.le_refl _
        simp only [b_M_together_10, (h.sc hv).2.1.2.2, zn_p (show M < 32 by omega), n1, if_true])
      ⟨v2.1, zIo_n⟩
    have m1' := m_isMatter hM10 (h.sc v2.1).2.1.2.2 (nI m)
    rw [if_pos ha] at m1'
    refine ⟨zbst (zfo (zgT (fun k => zC u P M k 0) m) 1 (2 ^ M - 1) none), v, w, ?_, ?_, w2.1⟩
    · have v1' : ziter (fun s : Int32 × Int32 × ZSt => b_Finder_smallestCarriedWith_8 (nI m) (nI (2 ^ M - 1)) s.1 s.2.1 s.2.2) zfu (-2, 1, u) = _ := v1
      simp only [f_X_together, x1, Option.bind_some, c10, if_false, f_Finder_smallestCarriedWith, f_Council_everything, h.2.1.2.1, x_all' (u := u) hM10, v1', a_Finder_smallestCarriedWith_8]
    · have w1' : ziter (fun s : Int32 × Int32 × ZSt => b_M_together_10 (nI m) s.1 s.2.1 s.2.2) zfu (-2, 1, v) = _ := w1
      simp only [f_M_together, m1', Option.bind_some, c10, if_false, w1', a_M_together_10]
  · rw [if_neg ha] at x1 m1
    refine ⟨-1, u, u, ?_, ?_, zfr_rf u⟩
    · simp only [f_X_together, x1, Option.bind_some, if_true]
    · simp only [f_M_together, m1, Option.bind_some, if_true]
/-! fees -/
def zfe (u : ZSt) (p : Nat) : Nat := (u.2.1 2 p).toNatClampNeg
theorem zfe_ok {u : ZSt} {P : Nat} (h : zR1 u P) {p : Nat} (hp : p < P) : u.2.1 2 p = nI (zfe u p) ∧ u.2.1 44 p = nI (zfe u p) ∧ zfe u p ≤ 99 := by
  obtain ⟨f, f1, f2, f3⟩ := h.2.2.2 p hp
  unfold zfe
  rw [f2, zn_cl (by omega)]
  exact ⟨rfl, f3, f1⟩
def zfs (u : ZSt) (P g : Nat) : Nat := zsn (zfe u) g P
theorem zfs_le {u : ZSt} {P : Nat} (h : zR1 u P) (g : Nat) : zfs u P g ≤ 990 := by
  have := zsn_le (g := zfe u) g (M := P) (fun m hm => (zfe_ok h hm).2.2)
  have := h.1
  unfold zfs
  omega
theorem zsn_top (f : Nat → Nat) {g P : Nat} (hg : g < 2 ^ P) : ∀ {n : Nat}, P ≤ n → zsn f g n = zsn f g P := by
  intro n
  induction n with
  | zero => intro h; have : P = 0 := by omega
            subst this; rfl
  | succ n ih =>
    intro h
    rcases Nat.lt_or_ge P (n + 1) with q | q
    · have : g.testBit n = false := Nat.testBit_lt_two_pow (Nat.lt_of_lt_of_le hg (Nat.pow_le_pow_right (by decide) (by omega)))
      rw [zsn, this, if_neg (by decide), ih (by omega)]
    · have : P = n + 1 := by omega
      subst this; rfl
theorem x_fees {u v : ZSt} {P M : Nat} {adj : Nat → Nat} (h : zRB u P M adj) (hv : zsc u v) {g : Nat} (hg : g < 2 ^ P) : f_Council_feesOf (nI g) v = some (nI (zfs u P g)) := by
  have hP := h.1.1
  have hg3 := z_1024 hP hg
  have e2 : v.2.1 2 = u.2.1 2 := hv.ga 2
  have key : ziter (fun s : Int32 × Int32 => b_Council_feesOf_4 (nI g) s.1 s.2 v) zfu (0, 0) = some (nI (zfs u P g), nI 10) := by
    refine zit_eq (B := fun s : Int32 × Int32 => b_Council_feesOf_4 (nI g) s.1 s.2 v) 10 (fun k => (nI (zsn (zfe u) g k), nI k)) _ (by omega) ?_ ?_
    · intro k hk
      have n1 : ¬ (10 : Int32) ≤ nI k := by rw [show (10 : Int32) = nI 10 from rfl, nI_leI (by decide) (by omega)]; omega
      simp only [b_Council_feesOf_4, n1, if_false, zb_u (show g < 2 ^ 31 by omega) (show k < 32 by omega), zif (zn_zin hk (show 10 < 2 ^ 31 by decide)), zn_cl (show k < 2 ^ 31 by omega), nI_1, zsn]
      by_cases e : g.testBit k = true
      · have hk2 : k < P := by
          rcases Nat.lt_or_ge k P with q | q
          · exact q
          · rw [Nat.testBit_lt_two_pow (Nat.lt_of_lt_of_le hg (Nat.pow_le_pow_right (by decide) q))] at e
            exact absurd e (by decide)
        rw [if_pos e, if_neg (by decide), if_pos e, e2, (zfe_ok h.1 hk2).1, nI_add]
      · rw [if_neg e, if_pos rfl, if_neg e]
    · have n1 : (10 : Int32) ≤ nI 10 := by decide
      simp only [b_Council_feesOf_4, n1, if_true, zfs, zsn_top (zfe u) hg hP]
  simp only [f_Council_feesOf, key, Option.bind_some, a_Council_feesOf_4]
theorem m_fees {u v : ZSt} {P M : Nat} {adj : Nat → Nat} (h : zRB u P M adj) (hv : v.1 3906 = nI P) (hv2 : v.2.1 44 = u.2.1 44) {g : Nat} (hg : g < 2 ^ P) : f_M_feesOf (nI g) v = some (nI (zfs u P g)) := by
  have hP := h.1.1
  have hg3 := z_1024 hP hg
  have c10 : ¬ (1 : Int32) = 0 := by decide
  have key : ziter (fun s : Int32 × Int32 => b_M_feesOf_4 (nI g) s.1 s.2 v) zfu (0, 0) = some (nI (zfs u P g), nI P) := by
    refine zit_eq (B := fun s : Int32 × Int32 => b_M_feesOf_4 (nI g) s.1 s.2 v) P (fun k => (nI (zsn (zfe u) g k), nI k)) _ (by omega) ?_ ?_
    · intro k hk
      have n1 : ¬ nI P ≤ nI k := by rw [nI_leI (by omega) (by omega)]; omega
      simp only [b_M_feesOf_4, hv, n1, if_false, m_isIn (show g < 2 ^ 31 by omega) (show k < 32 by omega), Option.bind_some, zif (zn_zin (show k < 10 by omega) (show 10 < 2 ^ 31 by decide)), zn_cl (show k < 2 ^ 31 by omega), nI_1, zsn]
      by_cases e : g.testBit k = true
      · rw [if_pos e, if_neg c10, if_pos e, hv2, (zfe_ok h.1 hk).2.1, nI_add]
      · rw [if_neg e, if_pos rfl, if_neg e, Int32.add_zero]
    · have n1 : nI P ≤ nI P := by rw [nI_leI (by omega) (by omega)]; exact Nat.le_refl _
      simp only [b_M_feesOf_4, hv, n1, if_true, zfs]
  simp only [f_M_feesOf, key, Option.bind_some, a_M_feesOf_4]
def zchp (fs : Nat → Nat) (k : Nat) : Option Nat → Bool
  | none => true
  | some b => decide (fs k < fs b) || (decide (fs k = fs b) && decide (zpop k < zpop b))
def zgS (fs : Nat → Nat) (C : Nat → Bool) (k : Nat) (x : Option Nat) : Option Nat := if (zchp fs k x && C k) = true then some k else x
def zIg (P : Nat) (x : Option Nat) : Prop := ∀ b, x = some b → b < 2 ^ P
theorem zIg_n (P : Nat) : zIg P none := fun b h => by cases h
theorem zIg_s {P k : Nat} (h : k < 2 ^ P) : zIg P (some k) := fun b e => by cases e; exact h
theorem x_cheap {u v : ZSt} {P M : Nat} {adj : Nat → Nat} (h : zRB u P M adj) (hv : zsc u v) {k : Nat} (hk : k < 2 ^ P) {x : Option Nat} (hx : zIg P x) : f_Finder_isCheaper (nI k) (zbst x) v = some (if zchp (zfs u P) k x = true then 1 else 0) := by
  have hP := h.1.1
  have c10 : ¬ (1 : Int32) = 0 := by decide
  cases x with
  | none => simp only [f_Finder_isCheaper, zbst, show ¬ (0 : Int32) ≤ -2 by decide, if_false, zchp, if_true]
  | some b =>
    have hb := hx b rfl
    have hb3 := z_1024 hP hb
    have hk3 := z_1024 hP hk
    have n0 : (0 : Int32) ≤ nI b := nI_pos' (by omega)
    have l1 := zfs_le h.1 k
    have l2 := zfs_le h.1 b
    have hf := x_fewer hk3 (zIo_s hb3)
    have hsub := pk_sub_toInt (a := zfs u P k) (b := zfs u P b) (by omega) (by omega)
    have q1 : (nI (zfs u P k) - nI (zfs u P b) < 0) = (zfs u P k < zfs u P b) := by
      rw [fa_lt, hsub, show (0 : Int32).toInt = 0 from rfl]; exact propext (by omega)
    have q2 : (nI (zfs u P k) - nI (zfs u P b) = 0) = (zfs u P k = zfs u P b) := by
      rw [fa_eq, hsub, show (0 : Int32).toInt = 0 from rfl]; exact propext (by omega)
    have hf' : f_Finder_isFewer (nI k) (nI b) = some (if zpop k < zpop b then 1 else 0) := by
      have e : f_Finder_isFewer (nI k) (nI b) = some (if zfew k (some b) = true then 1 else 0) := hf
      rw [e]; simp only [zfew, decide_eq_true_eq]
    simp only [f_Finder_isCheaper, zbst, n0, if_true, x_fees h hv hk, x_fees h hv hb, Option.bind_some, q1, q2, hf', zchp]
    by_cases e1 : zfs u P k < zfs u P b
    · simp only [e1, if_true, decide_true, Bool.true_or]
    · by_cases e2 : zfs u P k = zfs u P b
      · by_cases e3 : zpop k < zpop b
        · simp only [e1, e2, e3, if_true, if_false, decide_true, decide_false, Bool.and_self, Bool.or_true, c10, Nat.lt_irrefl]
        · simp only [e1, e2, e3, if_true, if_false, decide_true, decide_false, Bool.and_false, Bool.or_self, Bool.false_eq_true, Nat.lt_irrefl]
      · simp only [e1, e2, if_false, decide_false, Bool.false_and, Bool.or_self, Bool.false_eq_true]
theorem o_silenced {u : ZSt} {P M : Nat} {adj : Nat → Nat} (h : zRB u P M adj) (a b : Int32) : ∃ r u1 u2, f_X_silenced a b u = some (r, u1) ∧ f_M_silenced a b u1 = some (r, u2) ∧ zsc u u2 := by
  have hP := h.1.1
  have hM := h.2.1.1
  have hM10 : M ≤ 10 := by omega
  have c10 : ¬ (1 : Int32) = 0 := by decide
  have hp := z_pow hP (Nat.le_refl _)
  have x1 := x_isBundle hM10 h.2.1.2.1 a
  have m1 := m_isBundle hM10 h.2.1.2.2 a
  have m2 : f_M_within b.toInt64 0 1 = some (if 0 ≤ b.toInt ∧ b.toInt ≤ 1 then 1 else 0) := by
    rw [z_within, Int32.toInt_toInt64]; rfl
  by_cases ha : 1 ≤ a.toInt ∧ a.toInt < ((2 ^ M : Nat) : Int)
  · rw [if_pos ha] at x1 m1
    by_cases hb : 0 ≤ b.toInt ∧ b.toInt ≤ 1
    · rw [if_pos hb] at m2
      obtain ⟨B, hB1, hB2, rfl⟩ := z_bund ha
      have hB3 := z_1024 hM10 hB2
      obtain ⟨v, v1, v2⟩ := zit_f (B := fun s : Int32 × Int32 × ZSt => b_Finder_cheapestGifts_8 (nI B) (nI (2 ^ P - 1)) s.1 s.2.1 s.2.2) (fun k x v => (zbst x, nI k, v)) (fun x v => (zbst x, nI (2 ^ P), v))
        (fun k x v => zsc u v ∧ zIg P x) (zgS (zfs u P) (fun k => zC u P M B k)) (a := 0) (n := 2 ^ P) (x := none) (v := u) (Nat.zero_le _) (by omega)
        (by
          rintro k x v hk1 hk ⟨hv, hx⟩
          have n1 : ¬ nI (2 ^ P - 1) < nI k := by rw [nI_ltI (by omega) (by omega)]; omega
          have hk3 : k < 1024 := by omega
          obtain ⟨y, y1, y2⟩ := x_car h hv hB3 hk3
          simp only [b_Finder_cheapestGifts_8, n1, if_false, x_cheap h hv hk hx, Option.bind_some, y1, nI_1]
          by_cases e2 : zchp (zfs u P) k x = true
          · by_cases e3 : zC u P M B k = true
            · have eg : zgS (zfs u P) (fun k => zC u P M B k) k x = some k := by simp [zgS, e2, e3]
              rw [eg]
              exact ⟨y, by simp only [e2, e3, if_true, c10, if_false, zbst], y2, zIg_s hk⟩
            · have eg : zgS (zfs u P) (fun k => zC u P M B k) k x = x := by simp [zgS, e2, e3]
              rw [eg]
              exact ⟨y, by simp only [e2, e3, if_true, c10, if_false, Bool.false_eq_true, zbst], y2, hx⟩
          · have eg : zgS (zfs u P) (fun k => zC u P M B k) k x = x := by simp [zgS, e2]
            rw [eg]
            exact ⟨v, by simp only [e2, if_true, if_false, Bool.false_eq_true, zbst], hv, hx⟩)
        (by
          rintro x v -
          have n1 : nI (2 ^ P - 1) < nI (2 ^ P) := by rw [nI_ltI (by omega) (by omega)]; omega
          simp only [b_Finder_cheapestGifts_8, n1, if_true])
        ⟨zfr_rf u, zIg_n P⟩
      obtain ⟨w, w1, w2⟩ := zit_f (B := fun s : Int32 × Int32 × ZSt => b_M_silenced_16 (nI B) b s.1 s.2.1 s.2.2) (fun k x v => (zbst x, nI k, v)) (fun x v => (zbst x, nI (2 ^ P), v))
        (fun k x v => zsc u v ∧ zIg P x) (zgS (zfs u P) (fun k => zC u P M B k)) (a := 0) (n := 2 ^ P) (x := none) (v := v) (Nat.zero_le _) (by omega)
        (by
          rintro k x v hk1 hk ⟨hv, hx⟩
          have hBB := h.sc hv
          have n1 : ¬ nI (2 ^ P) ≤ nI k := by rw [nI_leI (by omega) (by omega)]; omega
          have hk3 : k < 1024 := by omega
          obtain ⟨y, y1, -, y2⟩ := m_car h hv hB3 hk3
          cases x with
          | none =>
            simp only [b_M_silenced_16, hBB.1.2.2.1, zn_p (show P < 32 by omega), n1, if_false, zbst, show (-2 : Int32) < 0 by decide, if_true, c10, y1, Option.bind_some, nI_1]
            by_cases e3 : zC u P M B k = true
            · have eg : zgS (zfs u P) (fun k => zC u P M B k) k none = some k := by simp [zgS, zchp, e3]
              rw [eg]
              exact ⟨y, by simp only [e3, if_true, c10, if_false, zbst], y2.1, zIg_s hk⟩
            · have eg : zgS (zfs u P) (fun k => zC u P M B k) k none = none := by simp [zgS, zchp, e3]
              rw [eg]
              exact ⟨y, by simp only [e3, if_true, if_false, Bool.false_eq_true, zbst], y2.1, hx⟩
          | some z =>
            have hz := hx z rfl
            have hz3 := z_1024 hP hz
            have n0 : ¬ nI z < 0 := nI_pos (by omega)
            have f1 := m_fees h hBB.1.2.2.1 (hv.ga 44) hk
            have f2 := m_fees h hBB.1.2.2.1 (hv.ga 44) hz
            have l1 := zfs_le h.1 k
            have l2 := zfs_le h.1 z
            have q2 : (nI (zfs u P k) = nI (zfs u P z)) = (zfs u P k = zfs u P z) := propext (nI_eq (by omega) (by omega))
            simp only [b_M_silenced_16, hBB.1.2.2.1, zn_p (show P < 32 by omega), n1, if_false, zbst, n0, f1, f2, Option.bind_some, nI_ltI (show zfs u P k < 2 ^ 31 by omega) (show zfs u P z < 2 ^ 31 by omega), q2, m_bits hk3, m_bits hz3, nI_leI (zpop_31 z) (zpop_31 k), c10, if_true, y1, nI_1]
            by_cases e1 : zfs u P k < zfs u P z
            · by_cases e3 : zC u P M B k = true
              · have eg : zgS (zfs u P) (fun k => zC u P M B k) k (some z) = some k := by simp [zgS, zchp, e1, e3]
                rw [eg]
                exact ⟨y, by simp only [e1, e3, if_true, c10, if_false, zbst], y2.1, zIg_s hk⟩
              · have eg : zgS (zfs u P) (fun k => zC u P M B k) k (some z) = some z := by simp [zgS, zchp, e1, e3]
                rw [eg]
                exact ⟨y, by simp only [e1, e3, if_true, if_false, Bool.false_eq_true, zbst], y2.1, hx⟩
            · by_cases e2 : zfs u P k = zfs u P z
              · by_cases e4 : zpop k < zpop z
                · have e4' : ¬ zpop z ≤ zpop k := by omega
                  by_cases e3 : zC u P M B k = true
                  · have eg : zgS (zfs u P) (fun k => zC u P M B k) k (some z) = some k := by simp [zgS, zchp, e2, e4, e3]
                    rw [eg]
                    exact ⟨y, by simp only [e2, e4, e4', e3, if_true, c10, if_false, zbst, Nat.lt_irrefl], y2.1, zIg_s hk⟩
                  · have eg : zgS (zfs u P) (fun k => zC u P M B k) k (some z) = some z := by simp [zgS, zchp, e2, e4, e3]
                    rw [eg]
                    exact ⟨y, by simp only [e2, e4, e4', e3, if_true, if_false, Bool.false_eq_true, zbst, Nat.lt_irrefl], y2.1, hx⟩
                · have e4' : zpop z ≤ zpop k := by omega
                  have eg : zgS (zfs u P) (fun k => zC u P M B k) k (some z) = some z := by simp [zgS, zchp, e2, e4]
                  rw [eg]
                  exact ⟨v, by simp only [e2, e4, e4', if_true, if_false, Bool.false_eq_true, zbst, Nat.lt_irrefl], hv, hx⟩
              · have eg : zgS (zfs u P) (fun k => zC u P M B k) k (some z) = some z := by simp [zgS, zchp, e1, e2]
                rw [eg]
                exact ⟨v, by simp only [e1, e2, if_true, if_false, Bool.false_eq_true, zbst], hv, hx⟩)
        (by
          rintro x v ⟨hv, -⟩
          have n1 : nI (2 ^ P) ≤ nI (2 ^ P) := by rw [nI_leI (by omega) (by omega)]; exact Nat.le_refl _
          simp only [b_M_silenced_16, (h.sc hv).1.2.2.1, zn_p (show P < 32 by omega), n1, if_true])
        ⟨v2.1, zIg_n P⟩
      have m1' := m_isBundle hM10 (h.sc v2.1).2.1.2.2 (nI B)
      rw [if_pos ha] at m1'
      have b1 : ¬ b < 0 := by rw [fa_lt, show (0 : Int32).toInt = 0 from rfl]; omega
      have b2 : b ≤ 1 := by rw [fa_le, show (1 : Int32).toInt = 1 from rfl]; omega
      generalize hx : zfo (zgS (zfs u P) (fun k => zC u P M B k)) 0 (2 ^ P - 0) none = x at v1 v2 w1 w2
      have v1' : ziter (fun s : Int32 × Int32 × ZSt => b_Finder_cheapestGifts_8 (nI B) (nI (2 ^ P - 1)) s.1 s.2.1 s.2.2) zfu (-2, 0, u) = some (zbst x, nI (2 ^ P), v) := v1
      have w1' : ziter (fun s : Int32 × Int32 × ZSt => b_M_silenced_16 (nI B) b s.1 s.2.1 s.2.2) zfu (-2, 0, v) = some (zbst x, nI (2 ^ P), w) := w1
      cases x with
      | none =>
        refine ⟨-2, v, w, ?_, ?_, w2.1⟩
        · simp only [f_X_silenced, x1, Option.bind_some, c10, if_false, b1, b2, if_true, f_Finder_cheapestGifts, f_Council_everybody, h.1.2.1, x_all' (u := u) hP, v1', a_Finder_cheapestGifts_8, zbst, show (-2 : Int32) < 0 by decide]
        · simp only [f_M_silenced, m1', m2, Option.bind_some, c10, if_false, w1', a_M_silenced_16, zbst, show (-2 : Int32) < 0 by decide, if_true]
      | some g =>
        have hg := v2.2 g rfl
        have hg3 := z_1024 hP hg
        have n0 : ¬ nI g < 0 := nI_pos (by omega)
        refine ⟨if b = 0 then nI g else nI (zfs u P g), v, w, ?_, ?_, w2.1⟩
        · simp only [f_X_silenced, x1, Option.bind_some, c10, if_false, b1, b2, if_true, f_Finder_cheapestGifts, f_Council_everybody, h.1.2.1, x_all' (u := u) hP, v1', a_Finder_cheapestGifts_8, zbst, n0, x_fees h v2.1 hg]
          split <;> rfl
        · simp only [f_M_silenced, m1', m2, Option.bind_some, c10, if_false, w1', a_M_silenced_16, zbst, n0, m_fees h (h.sc w2.1).1.2.2.1 (w2.1.ga 44) hg]
          split <;> rfl
    · rw [if_neg hb] at m2
      refine ⟨-1, u, u, ?_, ?_, zfr_rf u⟩
      · simp only [f_X_silenced, x1, Option.bind_some, c10, if_false]
        by_cases b1 : b < 0
        · rw [if_pos b1]
        · rw [if_neg b1, if_neg]
          rw [fa_lt, show (0 : Int32).toInt = 0 from rfl] at b1
          rw [fa_le, show (1 : Int32).toInt = 1 from rfl]; omega
      · simp only [f_M_silenced, m1, m2, Option.bind_some, c10, if_false, if_true]
  · rw [if_neg ha] at x1 m1
    refine ⟨-1, u, u, ?_, ?_, zfr_rf u⟩
    · simp only [f_X_silenced, x1, Option.bind_some, if_true]
    · simp only [f_M_silenced, m1, Option.bind_some, if_true]
