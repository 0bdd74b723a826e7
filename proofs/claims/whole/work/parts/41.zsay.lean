/-! say, hermit, lies, step -/
theorem z_clr {w p : Nat} (hw : w < 1024) (hp : p < 10) : (w &&& (2 ^ p ^^^ 1023) = w) = (w.testBit p = false) := by
  refine propext ⟨fun h => ?_, fun h => ?_⟩
  · have := congrArg (fun n => n.testBit p) h
    simp only [Nat.testBit_and, Nat.testBit_xor, show (1023 : Nat) = 2 ^ 10 - 1 from rfl, Nat.testBit_two_pow_sub_one, Nat.testBit_two_pow_self, hp, decide_true, Bool.xor_self, Bool.and_false] at this
    exact this.symm
  · refine Nat.eq_of_testBit_eq (fun i => ?_)
    rw [Nat.testBit_and, Nat.testBit_xor, show (1023 : Nat) = 2 ^ 10 - 1 from rfl, Nat.testBit_two_pow_sub_one, Nat.testBit_two_pow]
    by_cases e : p = i
    · subst e; rw [h]; rfl
    · by_cases e2 : i < 10
      · simp [e, e2]
      · rw [Nat.testBit_lt_two_pow (Nat.lt_of_lt_of_le hw (Nat.pow_le_pow_right (by decide) (by omega) : 2 ^ 10 ≤ 2 ^ i))]
        rfl
theorem z_iteq (a b : Bool) : ((if a = true then (1 : Int32) else 0) = (if b = true then 1 else 0)) = (a = b) := by
  cases a <;> cases b <;> simp
theorem z_clrI {w p : Nat} (hw : w < 1024) (hp : p < 10) : nI w &&& (((1 : Int32) <<< (nI p &&& 31)) ^^^ (-1 : Int32)) = nI (w &&& (2 ^ p ^^^ 1023)) := by
  rw [zn_p (by omega), z_andn hw]
noncomputable def zPw (u : ZSt) (P M p b : Nat) : Bool := (zW u P M b b 0).testBit p && (zC u P M b 0 != zcar (zquo u) (zW u P M b b 0 &&& (2 ^ p ^^^ 1023)) (zF u P M b) (zO u P M b))
noncomputable def zSy (u : ZSt) (P M p : Nat) (t : Bool) (b : Nat) : Bool := if t then zPw u P M p b else (zW u P M b b 0).testBit p
theorem m_sayOf {u v0 : ZSt} {P M : Nat} {adj : Nat → Nat} (h : zRB u P M adj) (hv0 : zsc u v0) {p : Nat} (hp : p < P) (t : Bool) : ∃ v, f_M_sayOf (nI p) (if t then 1 else 0) v0 = some (nI (zct (zSy u P M p t) (2 ^ M)), v) ∧ zsc u v := by
  have hP := h.1.1
  have hM := h.2.1.1
  have hM10 : M ≤ 10 := by omega
  have hp2 := z_pow hM10 (Nat.le_refl _)
  have c10 : ¬ (1 : Int32) = 0 := by decide
  obtain ⟨w, w1, w2⟩ := zit_f (B := fun s : Int32 × Int32 × ZSt => b_M_sayOf_4 (nI p) (if t then 1 else 0) s.1 s.2.1 s.2.2) (α := Unit) (fun k _ v => (nI (zct (zSy u P M p t) k), nI k, v)) (fun _ v => (nI (zct (zSy u P M p t) (2 ^ M)), nI (2 ^ M), v))
    (fun k _ v => zsc u v) (fun _ x => x) (a := 1) (n := 2 ^ M) (x := ()) (v := v0) hp2.1 (by omega)
    (by
      rintro k - v hk1 hk hv
      have hk3 : k < 1024 := by omega
      have n1 : ¬ nI (2 ^ M) ≤ nI k := by rw [nI_leI (by omega) (by omega)]; omega
      obtain ⟨y, y1, y2, y3⟩ := m_car h hv hk3 (g := 0) (by decide)
      have y1' : f_M_isCarried (nI k) 0 v = some (if zC u P M k 0 = true then 1 else 0, y) := y1
      have wl := zW_lt h hk3 hk3 (g := 0) (by decide)
      have hc := m_carBy h y3.d (z_and_lt wl (2 ^ p ^^^ 1023))
      refine ⟨y, ?_, y3.1⟩
      simp only [b_M_sayOf_4, (h.sc hv).2.1.2.2, zn_p (show M < 32 by omega), n1, if_false, y1', Option.bind_some, y2, m_isIn (show zW u P M k k 0 < 2 ^ 31 by omega) (show p < 32 by omega), nI_1]
      by_cases e : (zW u P M k k 0).testBit p = true
      · rw [if_pos e, if_neg c10]
        cases t with
        | false =>
          have ez : zct (zSy u P M p false) (k + 1) = zct (zSy u P M p false) k + 1 := zct_y hk1 (by unfold zSy; rw [if_neg (by decide)]; exact e)
          rw [ez, if_pos (by decide)]
        | true =>
          rw [if_neg (by decide), z_clrI wl (by omega), hc]
          simp only [Option.bind_some, z_iteq]
          by_cases e2 : zC u P M k 0 = zcar (zquo u) (zW u P M k k 0 &&& (2 ^ p ^^^ 1023)) (zF u P M k) (zO u P M k)
          · have ez : zct (zSy u P M p true) (k + 1) = zct (zSy u P M p true) k := zct_n (by unfold zSy zPw; rw [if_pos rfl, ← e2]; simp)
            rw [ez, if_pos e2, Int32.add_zero]
          · have ez : zct (zSy u P M p true) (k + 1) = zct (zSy u P M p true) k + 1 := zct_y hk1 (by unfold zSy zPw; rw [if_pos rfl, e]; simpa using e2)
            rw [ez, if_neg e2]
      · have ez : zct (zSy u P M p t) (k + 1) = zct (zSy u P M p t) k := zct_n (by
          cases t with
          | false => unfold zSy; rw [if_neg (by decide)]; exact e
          | true => unfold zSy zPw; rw [if_pos rfl]; simp [e])
        rw [if_neg e, if_pos rfl, ez, Int32.add_zero])
    (by
      rintro - v hv
      have n1 : nI (2 ^ M) ≤ nI (2 ^ M) := by rw [nI_leI (by omega) (by omega)]; exact Nat.le_refl _
      simp only [b_M_sayOf_4, (h.sc hv).2.1.2.2, zn_p (show M < 32 by omega), n1, if_true])
    hv0
  refine ⟨w, ?_, w2⟩
  have w1' : ziter (fun s : Int32 × Int32 × ZSt => b_M_sayOf_4 (nI p) (if t then 1 else 0) s.1 s.2.1 s.2.2) zfu (0, 1, v0) = _ := w1
  simp only [f_M_sayOf, w1', Option.bind_some, a_M_sayOf_4]
theorem x_power {u : ZSt} {P M : Nat} {adj : Nat → Nat} (h : zRB u P M adj) {p : Nat} (hp : p < P) : ∃ v, f_Finder_powerOf (nI p) u = some (nI (zct (zSy u P M p true) (2 ^ M)), v) ∧ zsc u v := by
  have hP := h.1.1
  have hM := h.2.1.1
  have hM10 : M ≤ 10 := by omega
  have hp2 := z_pow hM10 (Nat.le_refl _)
  obtain ⟨w, w1, w2⟩ := zit_f (B := fun s : Int32 × Int32 × ZSt => b_Finder_powerOf_8 (nI p) (nI (2 ^ M - 1)) s.1 s.2.1 s.2.2) (α := Unit) (fun k _ v => (nI (zct (zSy u P M p true) k), nI k, v)) (fun _ v => (nI (zct (zSy u P M p true) (2 ^ M)), nI (2 ^ M), v))
    (fun k _ v => zsc u v) (fun _ x => x) (a := 1) (n := 2 ^ M) (x := ()) (v := u) hp2.1 (by omega)
    (by
      rintro k - v hk1 hk hv
      have hk3 : k < 1024 := by omega
      have n1 : ¬ nI (2 ^ M - 1) < nI k := by rw [nI_ltI (by omega) (by omega)]; omega
      obtain ⟨y, y1, y2⟩ := (zW_ok h hk3 hk3 (g := 0) (by decide)).2.1 v hv
      have y1' : f_Ballot_whoMay (nI k) (nI k) 0 v = some (nI (zW u P M k k 0), y) := y1
      have wl := zW_lt h hk3 hk3 (g := 0) (by decide)
      obtain ⟨l1, l2⟩ := x_lean h y2 hk3
      have hc1 : f_Ballot_isCarriedBy (nI (zW u P M k k 0)) (nI (zF u P M k)) (nI (zO u P M k)) y = some (if zC u P M k 0 = true then 1 else 0) := x_carBy h y2 wl (zF u P M k) (zO u P M k)
      have hc2 := x_carBy h y2 (z_and_lt wl (2 ^ p ^^^ 1023)) (zF u P M k) (zO u P M k)
      have q0 : (nI (zW u P M k k 0 &&& (2 ^ p ^^^ 1023)) = nI (zW u P M k k 0)) = ((zW u P M k k 0).testBit p = false) := by
        have := z_and_lt wl (2 ^ p ^^^ 1023)
        rw [← z_clr wl (by omega)]
        exact propext (nI_eq (by omega) (by omega))
      refine ⟨y, ?_, y2⟩
      simp only [b_Finder_powerOf_8, n1, if_false, y1', l1, l2, Option.bind_some, z_clrI wl (show p < 10 by omega), q0, hc1, hc2, z_iteq, nI_1]
      by_cases e : (zW u P M k k 0).testBit p = false
      · have ez : zct (zSy u P M p true) (k + 1) = zct (zSy u P M p true) k := zct_n (by unfold zSy zPw; rw [if_pos rfl, e]; simp)
        rw [if_pos e, ez]
      · have e' : (zW u P M k k 0).testBit p = true := by simpa using e
        rw [if_neg e]
        by_cases e2 : zC u P M k 0 = zcar (zquo u) (zW u P M k k 0 &&& (2 ^ p ^^^ 1023)) (zF u P M k) (zO u P M k)
        · have ez : zct (zSy u P M p true) (k + 1) = zct (zSy u P M p true) k := zct_n (by unfold zSy zPw; rw [if_pos rfl, ← e2]; simp)
          rw [ez, if_pos e2]
        · have ez : zct (zSy u P M p true) (k + 1) = zct (zSy u P M p true) k + 1 := zct_y hk1 (by unfold zSy zPw; rw [if_pos rfl, e']; simpa using e2)
          rw [ez, if_neg e2])
    (by
      rintro - v -
      have n1 : nI (2 ^ M - 1) < nI (2 ^ M) := by rw [nI_ltI (by omega) (by omega)]; omega
      simp only [b_Finder_powerOf_8, n1, if_true])
    (zfr_rf u)
  refine ⟨w, ?_, w2⟩
  have w1' : ziter (fun s : Int32 × Int32 × ZSt => b_Finder_powerOf_8 (nI p) (nI (2 ^ M - 1)) s.1 s.2.1 s.2.2) zfu (0, 1, u) = _ := w1
  simp only [f_Finder_powerOf, f_Council_everything, h.2.1.2.1, x_all' (u := u) hM10, w1', Option.bind_some, a_Finder_powerOf_8]
theorem o_say {u : ZSt} {P M : Nat} {adj : Nat → Nat} (h : zRB u P M adj) (a b : Int32) : ∃ r u1 u2, f_X_say a b u = some (r, u1) ∧ f_M_say a b u1 = some (r, u2) ∧ zsc u u2 := by
  have hP := h.1.1
  have c10 : ¬ (1 : Int32) = 0 := by decide
  have x1 := x_isPerson hP h.1.2.1 a
  have m1 := m_isPerson hP h.1.2.2.1 a
  have m2 : f_M_within b.toInt64 0 1 = some (if 0 ≤ b.toInt ∧ b.toInt ≤ 1 then 1 else 0) := by
    rw [z_within, Int32.toInt_toInt64]; rfl
  by_cases ha : 0 ≤ a.toInt ∧ a.toInt < P
  · rw [if_pos ha] at x1 m1
    by_cases hb : 0 ≤ b.toInt ∧ b.toInt ≤ 1
    · rw [if_pos hb] at m2
      obtain ⟨p, hp, rfl⟩ := z_pos ha
      obtain ⟨k, hk, rfl⟩ := z_le99 (n := 1) hb
      rcases (show k = 0 ∨ k = 1 by omega) with rfl | rfl
      · obtain ⟨v, v1, v2, v3⟩ := x_says h (zfr_rf u)
        obtain ⟨w, w1, w2⟩ := m_sayOf h v2 hp false
        have m1' := m_isPerson hP (h.sc v2).1.2.2.1 (nI p)
        rw [if_pos ha] at m1'
        have w1' : f_M_sayOf (nI p) (nI 0) v = some (nI (zct (zSy u P M p false) (2 ^ M)), w) := w1
        have n1 : ¬ nI p < 0 := nI_pos (by omega)
        have n2 : ¬ (10 : Int32) ≤ nI p := by rw [show (10 : Int32) = nI 10 from rfl, nI_leI (by decide) (by omega)]; omega
        have e : zct (fun b => (zW u P M b b 0).testBit p) (2 ^ M) = zct (zSy u P M p false) (2 ^ M) := rfl
        refine ⟨nI (zct (zSy u P M p false) (2 ^ M)), v, w, ?_, ?_, w2⟩
        · simp only [f_X_say, x1, Option.bind_some, c10, if_false, show nI 0 = (0 : Int32) from rfl, if_true, f_Finder_sayOf, v1, n1, n2, zif (zn_zin (show p < 10 by omega) (show 10 < 2 ^ 31 by decide)), zn_cl (show p < 2 ^ 31 by omega), v3 p (by omega), e]
        · simp only [f_M_say, m1', m2, Option.bind_some, c10, if_false, w1']
      · obtain ⟨v, v1, v2⟩ := x_power h hp
        obtain ⟨w, w1, w2⟩ := m_sayOf h v2 hp true
        have m1' := m_isPerson hP (h.sc v2).1.2.2.1 (nI p)
        rw [if_pos ha] at m1'
        have w1' : f_M_sayOf (nI p) (nI 1) v = some (nI (zct (zSy u P M p true) (2 ^ M)), w) := w1
        refine ⟨nI (zct (zSy u P M p true) (2 ^ M)), v, w, ?_, ?_, w2⟩
        · simp only [f_X_say, x1, Option.bind_some, c10, if_false, show nI 1 = (1 : Int32) from rfl, if_true, v1]
        · simp only [f_M_say, m1', m2, Option.bind_some, c10, if_false, w1']
    · rw [if_neg hb] at m2
      have n0 : ¬ b = 0 := fun e => hb (by rw [e]; decide)
      have n1 : ¬ b = 1 := fun e => hb (by rw [e]; decide)
      refine ⟨-1, u, u, ?_, ?_, zfr_rf u⟩
      · simp only [f_X_say, x1, Option.bind_some, c10, if_false, n0, n1]
      · simp only [f_M_say, m1, m2, Option.bind_some, c10, if_false, if_true]
  · rw [if_neg ha] at x1 m1
    refine ⟨-1, u, u, ?_, ?_, zfr_rf u⟩
    · simp only [f_X_say, x1, Option.bind_some, if_true]
    · simp only [f_M_say, m1, Option.bind_some, if_true]
/-! hermit -/
def zgH (s : Nat → Nat) (k x : Nat) : Nat := if s k ≤ s x then x else k
def zgH2 (s : Nat → Nat) (k : Nat) : Option Nat → Option Nat
  | none => some k
  | some x => some (zgH s k x)
theorem zgH_eq (s : Nat → Nat) : ∀ d a x, zfo (zgH2 s) a d (some x) = some (zfo (zgH s) a d x) := by
  intro d
  induction d with
  | zero => intro a x; rfl
  | succ d ih => intro a x; exact ih (a + 1) (zgH s a x)
theorem o_hermit {u : ZSt} {P M : Nat} {adj : Nat → Nat} (h : zRB u P M adj) : ∃ r u1 u2, f_X_hermit u = some (r, u1) ∧ f_M_hermit u1 = some (r, u2) ∧ zsc u u2 := by
  have hP := h.1.1
  have hM := h.2.1.1
  have hM10 : M ≤ 10 := by omega
  have hp2 := z_pow hM10 (Nat.le_refl _)
  have c10 : ¬ (1 : Int32) = 0 := by decide
  generalize hs : (fun p => zct (zSy u P M p false) (2 ^ M)) = s
  have hs' : ∀ p, zct (zSy u P M p false) (2 ^ M) = s p := fun p => by rw [← hs]
  have hsl : ∀ p, s p ≤ 1024 := fun p => by rw [← hs' p]; have := zct_le (zSy u P M p false) (2 ^ M); omega
  have ml : ∀ v0, zsc u v0 → ∃ w, ziter (fun s : Int32 × Int32 × Int32 × ZSt => b_M_hermit_6 s.1 s.2.1 s.2.2.1 s.2.2.2) zfu (-5, -1, 0, v0) = some (match zfo (zgH2 s) 0 P none with | none => (-5, -1, nI P, w) | some x => (nI x, nI (s x), nI P, w)) ∧ zsc u w := by
    intro v0 hv0
    obtain ⟨w, w1, w2⟩ := zit_f (B := fun s : Int32 × Int32 × Int32 × ZSt => b_M_hermit_6 s.1 s.2.1 s.2.2.1 s.2.2.2) (fun k x v => match x with | none => (-5, -1, nI k, v) | some x => (nI x, nI (s x), nI k, v)) (fun x v => match x with | none => (-5, -1, nI P, v) | some x => (nI x, nI (s x), nI P, v))
      (fun k x v => zsc u v) (zgH2 s) (a := 0) (n := P) (x := none) (v := v0) (Nat.zero_le _) (by omega)
      (by
        rintro k x v - hk hv
        have n1 : ¬ nI P ≤ nI k := by rw [nI_leI (by omega) (by omega)]; omega
        obtain ⟨y, y1, y2⟩ := m_sayOf h hv hk false
        rw [hs'] at y1
        have y1' : f_M_sayOf (nI k) 0 v = some (nI (s k), y) := y1
        have := hsl k
        refine ⟨y, ?_, y2⟩
        cases x with
        | none =>
          have n2 : ¬ nI (s k) ≤ -1 := by rw [fa_le, nI_toInt (by omega), show (-1 : Int32).toInt = -1 by decide]; omega
          show b_M_hermit_6 (-5) (-1) (nI k) v = some (.inl (nI k, nI (s k), nI (k + 1), y))
          simp only [b_M_hermit_6, (h.sc hv).1.2.2.1, n1, if_false, y1', Option.bind_some, n2, nI_1]
        | some x =>
          have := hsl x
          show b_M_hermit_6 (nI x) (nI (s x)) (nI k) v = some (.inl (nI (zgH s k x), nI (s (zgH s k x)), nI (k + 1), y))
          simp only [b_M_hermit_6, (h.sc hv).1.2.2.1, n1, if_false, y1', Option.bind_some, nI_leI (show s k < 2 ^ 31 by omega) (show s x < 2 ^ 31 by omega), nI_1, zgH]
          by_cases e : s k ≤ s x
          · simp only [e, if_true]
          · simp only [e, if_false])
      (by
        rintro x v hv
        have n1 : nI P ≤ nI P := by rw [nI_leI (by omega) (by omega)]; exact Nat.le_refl _
        cases x with
        | none => show b_M_hermit_6 (-5) (-1) (nI P) v = _; simp only [b_M_hermit_6, (h.sc hv).1.2.2.1, n1, if_true]
        | some x => show b_M_hermit_6 (nI x) (nI (s x)) (nI P) v = _; simp only [b_M_hermit_6, (h.sc hv).1.2.2.1, n1, if_true])
      hv0
    exact ⟨w, w1, w2⟩
  by_cases hP0 : P = 0
  · subst hP0
    obtain ⟨w, w1, w2⟩ := ml u (zfr_rf u)
    refine ⟨-5, u, w, ?_, ?_, w2⟩
    · simp only [f_X_hermit, h.1.2.1, show nI 0 = (0 : Int32) from rfl, if_true]
    · simp only [f_M_hermit, w1, zfo, Option.bind_some, a_M_hermit_6]
  · obtain ⟨d, rfl⟩ := Nat.exists_eq_succ_of_ne_zero hP0
    have nP : ¬ nI (d + 1) = 0 := nI_ne0 (by omega) (by omega)
    obtain ⟨v, v1, v2, v3⟩ := x_says h (zfr_rf u)
    have v3' : ∀ p, p < 10 → v.2.1 23 p = nI (s p) := fun p hp => by rw [v3 p hp, ← hs' p]; rfl
    have hv := h.sc v2
    obtain ⟨-, q1, q2⟩ := zit_f (B := fun s : Int32 × Int32 => b_Finder_mostSaying_6 s.1 s.2 v) (fun k x (_ : ZSt) => (nI x, nI k)) (fun x _ => (nI x, nI (d + 1)))
      (fun k x _ => x < 10) (zgH s) (a := 1) (n := d + 1) (x := 0) (v := u) (by omega) (by omega)
      (by
        rintro k x y hk1 hk hx
        have n1 : ¬ nI (d + 1) ≤ nI k := by rw [nI_leI (by omega) (by omega)]; omega
        have n2 : ¬ (10 : Int32) ≤ nI k := by rw [show (10 : Int32) = nI 10 from rfl, nI_leI (by decide) (by omega)]; omega
        have := hsl k
        have := hsl x
        refine ⟨y, ?_, ?_⟩
        · show b_Finder_mostSaying_6 (nI x) (nI k) v = some (.inl (nI (zgH s k x), nI (k + 1)))
          simp only [b_Finder_mostSaying_6, hv.1.2.1, n1, n2, if_false, zif (zn_zin (show k < 10 by omega) (show 10 < 2 ^ 31 by decide)), zif (zn_zin hx (show 10 < 2 ^ 31 by decide)), zn_cl (show k < 2 ^ 31 by omega), zn_cl (show x < 2 ^ 31 by omega), v3' k (by omega), v3' x hx, nI_leI (show s k < 2 ^ 31 by omega) (show s x < 2 ^ 31 by omega), nI_1, zgH]
          by_cases e : s k ≤ s x
          · simp only [e, if_true]
          · simp only [e, if_false]
        · unfold zgH; split <;> omega)
      (by
        rintro x y -
        have n1 : nI (d + 1) ≤ nI (d + 1) := by rw [nI_leI (by omega) (by omega)]; exact Nat.le_refl _
        show b_Finder_mostSaying_6 (nI x) (nI (d + 1)) v = _
        simp only [b_Finder_mostSaying_6, hv.1.2.1, n1, if_true])
      (by decide)
    obtain ⟨w, w1, w2⟩ := ml v v2
    have e0 : zfo (zgH2 s) 0 (d + 1) none = some (zfo (zgH s) 1 d 0) := zgH_eq s d 1 0
    rw [e0] at w1
    refine ⟨nI (zfo (zgH s) 1 d 0), v, w, ?_, ?_, w2⟩
    · have q1' : ziter (fun s : Int32 × Int32 => b_Finder_mostSaying_6 s.1 s.2 v) zfu (0, 1) = some (nI (zfo (zgH s) 1 d 0), nI (d + 1)) := q1
      simp only [f_X_hermit, h.1.2.1, nP, if_false, f_Finder_mostSaying, v1, Option.bind_some, q1', a_Finder_mostSaying_6]
    · simp only [f_M_hermit, w1, Option.bind_some, a_M_hermit_6]
