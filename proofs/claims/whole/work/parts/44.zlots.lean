/-! lots -/
theorem zcn_mono {A : Nat → Bool} {m n : Nat} (h : m ≤ n) : zcn A m ≤ zcn A n := by
  induction n with
  | zero => have : m = 0 := by omega
            subst this; exact Nat.le_refl _
  | succ n ih =>
    rcases Nat.lt_or_ge m (n + 1) with q | q
    · have := ih (by omega)
      rw [zcn]
      omega
    · have : m = n + 1 := by omega
      subst this; exact Nat.le_refl _
theorem zcn_y {A : Nat → Bool} {k : Nat} (h : A k = true) : zcn A (k + 1) = zcn A k + 1 := by rw [zcn, if_pos h]
theorem zcn_ex {A : Nat → Bool} {i : Nat} : ∀ {n : Nat}, i < zcn A n → ∃ j, j < n ∧ A j = true ∧ zcn A j = i := by
  intro n
  induction n with
  | zero => intro h; exact absurd h (Nat.not_lt_zero _)
  | succ n ih =>
    intro h
    rcases Nat.lt_or_ge i (zcn A n) with q | q
    · obtain ⟨j, j1, j2⟩ := ih q
      exact ⟨j, by omega, j2⟩
    · rw [zcn] at h
      by_cases e : A n = true
      · rw [if_pos e] at h
        exact ⟨n, by omega, e, by omega⟩
      · rw [if_neg e] at h; omega
theorem zcn_uq {A : Nat → Bool} {i j : Nat} (hi : A i = true) (hj : A j = true) (h : zcn A i = zcn A j) : i = j := by
  rcases Nat.lt_trichotomy i j with q | q | q
  · have := zcn_mono (A := A) (show i + 1 ≤ j by omega)
    rw [zcn_y hi] at this; omega
  · exact q
  · have := zcn_mono (A := A) (show j + 1 ≤ i by omega)
    rw [zcn_y hj] at this; omega
def zlb (x : Nat) : Nat := fa_first (fun i => x.testBit i) 10
theorem z_low : ∀ x, x < 1024 → 0 < x → nI x &&& (nI x - 1) = nI (x &&& (2 ^ zlb x ^^^ 1023)) ∧ nI x &&& (-nI x) = nI (2 ^ zlb x) ∧ zlb x < 10 := by decide +kernel
theorem zpop_cn (x : Nat) : zpop x = zcn (fun i => x.testBit i) 10 := zcn_f _ 10
theorem zpop_cl : ∀ x, x < 1024 → ∀ q, q < 10 → x.testBit q = true → zpop (x &&& (2 ^ q ^^^ 1023)) + 1 = zpop x := by decide +kernel
theorem z_clb {x q j : Nat} (hx : x < 1024) : (x &&& (2 ^ q ^^^ 1023)).testBit j = (x.testBit j && !decide (q = j)) := by
  rw [Nat.testBit_and, Nat.testBit_xor, show (1023 : Nat) = 2 ^ 10 - 1 from rfl, Nat.testBit_two_pow_sub_one, Nat.testBit_two_pow]
  by_cases e2 : j < 10
  · simp [e2]
  · rw [Nat.testBit_lt_two_pow (Nat.lt_of_lt_of_le hx (Nat.pow_le_pow_right (by decide) (by omega) : 2 ^ 10 ≤ 2 ^ j))]
    rfl
noncomputable def zsl (L k : Nat) : Nat := Classical.epsilon (fun q => L.testBit q = true ∧ zcn (fun i => L.testBit i) q = k)
theorem zsl_ok {L P k : Nat} (hP : P ≤ 10) (hL : L < 2 ^ P) (hk : k < zpop L) : zsl L k < P ∧ L.testBit (zsl L k) = true ∧ zcn (fun i => L.testBit i) (zsl L k) = k := by
  rw [zpop_cn] at hk
  obtain ⟨q, q1, q2, q3⟩ := zcn_ex hk
  have h := Classical.epsilon_spec (p := fun q => L.testBit q = true ∧ zcn (fun i => L.testBit i) q = k) ⟨q, q2, q3⟩
  have h' : L.testBit (zsl L k) = true ∧ zcn (fun i => L.testBit i) (zsl L k) = k := h
  refine ⟨?_, h'⟩
  rcases Nat.lt_or_ge (zsl L k) P with w | w
  · exact w
  · have := h'.1
    rw [Nat.testBit_lt_two_pow (Nat.lt_of_lt_of_le hL (Nat.pow_le_pow_right (by decide) w))] at this
    exact absurd this (by decide)
theorem x_bitAt {L P k : Nat} (hP : P ≤ 10) (hL : L < 2 ^ P) (hk : k < zpop L) : f_Finder_bitAt (nI L) (nI k) = some (nI (2 ^ zsl L k)) := by
  have hL3 := z_1024 hP hL
  obtain ⟨s1, s2, s3⟩ := zsl_ok hP hL hk
  have hk10 : k < 10 := by have := zpop_le L; omega
  have low : ∀ (i R : Nat), i ≤ k → R < 1024 → (∀ j, R.testBit j = (L.testBit j && decide (i ≤ zcn (fun i => L.testBit i) j))) → 0 < R ∧ L.testBit (zlb R) = true ∧ zcn (fun i => L.testBit i) (zlb R) = i := by
    intro i R hi hR hb
    have hs : R.testBit (zsl L k) = true := by rw [hb, s2, s3]; simpa using hi
    have hR0 : 0 < R := by
      rcases Nat.eq_zero_or_pos R with e | e
      · rw [e] at hs; simp at hs
      · exact e
    have hl := (z_low R hR hR0).2.2
    have hy : R.testBit (zlb R) = true := fa_first_yes (fun i => R.testBit i) 10 hl
    have hno : ∀ j, j < zlb R → R.testBit j = false := fa_first_no (fun i => R.testBit i) 10
    have hyb := hy
    rw [hb] at hyb
    simp only [Bool.and_eq_true, decide_eq_true_eq] at hyb
    refine ⟨hR0, hyb.1, ?_⟩
    rcases Nat.lt_or_ge i (zcn (fun i => L.testBit i) (zlb R)) with q | q
    · obtain ⟨j, j1, j2, j3⟩ := zcn_ex q
      have := hno j j1
      have j2' : L.testBit j = true := j2
      rw [hb, j2', j3] at this
      simp at this
    · omega
  obtain ⟨-, q1, q2⟩ := zit_f (B := fun s : Int32 × Int32 => b_Finder_bitAt_4 (nI k) s.1 s.2) (fun i x (_ : ZSt) => (nI x, nI i)) (fun x _ => (nI x, nI k))
    (fun i x _ => x < 1024 ∧ ∀ j, x.testBit j = (L.testBit j && decide (i ≤ zcn (fun i => L.testBit i) j))) (fun _ x => x &&& (2 ^ zlb x ^^^ 1023)) (a := 0) (n := k) (x := L) (v := (fun _ => 0, fun _ _ => 0, fun _ _ => 0)) (Nat.zero_le _) (by omega)
    (by
      rintro i R v - hi ⟨hR, hb⟩
      have n1 : ¬ nI k ≤ nI i := by rw [nI_leI (by omega) (by omega)]; omega
      have n2 : ¬ (10 : Int32) ≤ nI i := by rw [show (10 : Int32) = nI 10 from rfl, nI_leI (by decide) (by omega)]; omega
      obtain ⟨l1, l2, l3⟩ := low i R (by omega) hR hb
      refine ⟨v, ?_, z_and_lt hR _, fun j => ?_⟩
      · simp only [b_Finder_bitAt_4, n1, n2, if_false, (z_low R hR l1).1, nI_1]
      · rw [z_clb hR, hb]
        by_cases e : L.testBit j = true
        · by_cases e2 : zlb R = j
          · subst e2
            simp [l3]
          · have : ¬ zcn (fun i => L.testBit i) j = i := fun q => e2 (zcn_uq l2 e (l3.trans q.symm))
            simp only [e, e2, decide_false, Bool.not_false, Bool.and_true, Bool.true_and]
            exact decide_eq_decide.mpr (by omega)
        · simp [e])
    (by
      rintro x v -
      have n1 : nI k ≤ nI k := by rw [nI_leI (by omega) (by omega)]; exact Nat.le_refl _
      simp only [b_Finder_bitAt_4, n1, if_true])
    ⟨hL3, fun j => by simp⟩
  obtain ⟨l1, l2, l3⟩ := low k _ (Nat.le_refl _) q2.1 q2.2
  have e := zcn_uq l2 s2 (l3.trans s3.symm)
  have q1' : ziter (fun s : Int32 × Int32 => b_Finder_bitAt_4 (nI k) s.1 s.2) zfu (nI L, 0) = _ := q1
  simp only [f_Finder_bitAt, q1', Option.bind_some, a_Finder_bitAt_4, (z_low _ q2.1 l1).2.1, e]
theorem m_drawn {v : ZSt} {L P k : Nat} (hP : P ≤ 10) (hv : v.1 3906 = nI P) (hL : L < 2 ^ P) (hk : k < zpop L) : f_M_drawnOf (nI L) (nI k) v = some (nI (zsl L k)) := by
  have hL3 := z_1024 hP hL
  have c10 : ¬ (1 : Int32) = 0 := by decide
  obtain ⟨s1, s2, s3⟩ := zsl_ok hP hL hk
  have hk10 : k < 10 := by have := zpop_le L; omega
  obtain ⟨r, r1, r2⟩ := zit (B := fun s : Int32 × Int32 => b_M_drawnOf_4 (nI L) s.1 s.2 v) P
    (fun p s => s = (nI (k - zcn (fun i => L.testBit i) p), nI p) ∧ p ≤ zsl L k)
    (fun r => r = .inr (nI (zsl L k))) (by omega) (by
      rintro p s hp ⟨rfl, hp2⟩
      have hm := zcn_mono (A := fun i => L.testBit i) hp2
      have n1 : ¬ nI P ≤ nI p := by rw [nI_leI (by omega) (by omega)]; omega
      have q0 : (nI (k - zcn (fun i => L.testBit i) p) = 0) = (k - zcn (fun i => L.testBit i) p = 0) := by rw [show (0 : Int32) = nI 0 from rfl]; exact propext (nI_eq (by omega) (by decide))
      simp only [b_M_drawnOf_4, hv, n1, if_false, m_isIn (show L < 2 ^ 31 by omega) (show p < 32 by omega), Option.bind_some, q0, nI_1]
      by_cases e : L.testBit p = true
      · rw [if_pos e, if_neg c10]
        by_cases e2 : k - zcn (fun i => L.testBit i) p = 0
        · right
          have := zcn_uq (A := fun i => L.testBit i) e s2 (by omega)
          exact ⟨.inr (nI p), by rw [if_pos e2], by rw [this]⟩
        · left
          have hne : p ≠ zsl L k := fun q => by rw [← q] at s3; omega
          have hy := zcn_y (A := fun i => L.testBit i) (k := p) e
          refine ⟨(nI (k - zcn (fun i => L.testBit i) (p + 1)), nI (p + 1)), ?_, by omega, rfl, by omega⟩
          rw [if_neg e2, z_dm1 (by omega), hy, Nat.sub_sub]
      · left
        have hne : p ≠ zsl L k := fun q => e (by rw [q]; exact s2)
        refine ⟨(nI (k - zcn (fun i => L.testBit i) (p + 1)), nI (p + 1)), ?_, by omega, rfl, by omega⟩
        rw [if_neg e, if_pos rfl, show zcn (fun i => L.testBit i) (p + 1) = zcn (fun i => L.testBit i) p by rw [zcn, if_neg e]; rfl])
    (s := (nI k, 0)) ⟨rfl, Nat.zero_le _⟩
  subst r2
  simp only [f_M_drawnOf, r1, Option.bind_some, Sum.elim_inr]
theorem z_sh8 (z : Int32) : ∃ m, m < 2 ^ 24 ∧ zushr z 8 = nI m := by
  refine ⟨(zushr z (nI 8)).toBitVec.toNat, ?_, ?_⟩
  · refine Nat.lt_pow_two_of_testBit _ (fun i hi => ?_)
    have h := b_ushr 8 (by decide) z i
    have h2 : bt z (8 + i) = false := b_big (by omega)
    exact h.trans h2
  · refine Int32.toBitVec_inj.mp ?_
    show (zushr z (nI 8)).toBitVec = BitVec.ofNat 32 (zushr z (nI 8)).toBitVec.toNat
    rw [BitVec.ofNat_toNat, BitVec.setWidth_eq]
def zlc (z : Int32) : Int32 := z * 1103515245 + 12345
noncomputable def zlm (z : Int32) : Nat := Classical.epsilon (fun m => m < 2 ^ 24 ∧ zushr z 8 = nI m)
theorem zlm_ok (z : Int32) : zlm z < 2 ^ 24 ∧ zushr z 8 = nI (zlm z) := Classical.epsilon_spec (z_sh8 z)
def zlef (P D : Nat) : Nat := (2 ^ P - 1) &&& (D ^^^ 1023)
noncomputable def zdrw (P k : Nat) (x : Int32 × Nat) : Int32 × Nat := (zlc x.1, x.2 ||| 2 ^ zsl (zlef P x.2) (zlm (zlc x.1) % (P - k)))
theorem zlef_tb {P D : Nat} (hP : P ≤ 10) (j : Nat) : (zlef P D).testBit j = (decide (j < P) && !D.testBit j) := by
  unfold zlef
  rw [Nat.testBit_and, Nat.testBit_two_pow_sub_one, Nat.testBit_xor, show (1023 : Nat) = 2 ^ 10 - 1 from rfl, Nat.testBit_two_pow_sub_one]
  by_cases e : j < P
  · simp [e, show j < 10 by omega]
  · simp [e]
theorem zlef_lt {P D : Nat} : zlef P D < 2 ^ P := by
  have := Nat.two_pow_pos P
  have : zlef P D ≤ 2 ^ P - 1 := Nat.and_le_left
  omega
theorem zlef_or {P D q : Nat} (hP : P ≤ 10) : zlef P (D ||| 2 ^ q) = zlef P D &&& (2 ^ q ^^^ 1023) := by
  refine Nat.eq_of_testBit_eq (fun j => ?_)
  rw [z_clb (z_1024 hP zlef_lt), zlef_tb hP, zlef_tb hP, Nat.testBit_or, Nat.testBit_two_pow]
  cases D.testBit j <;> cases decide (j < P) <;> cases decide (q = j) <;> rfl
theorem zlef_rst {P D : Nat} (hP : P ≤ 10) (hD : D < 2 ^ P) : zlef P (zlef P D) = D := by
  refine Nat.eq_of_testBit_eq (fun j => ?_)
  rw [zlef_tb hP, zlef_tb hP]
  by_cases e : j < P
  · simp [e]
  · rw [Nat.testBit_lt_two_pow (Nat.lt_of_lt_of_le hD (Nat.pow_le_pow_right (by decide) (by omega)))]
    simp [e]
def zID (P k : Nat) (x : Int32 × Nat) : Prop := x.2 < 2 ^ P ∧ zpop (zlef P x.2) = P - k
theorem zID_step {P k : Nat} (hP : P ≤ 10) (hk : k < P) {x : Int32 × Nat} (h : zID P k x) : zID P (k + 1) (zdrw P k x) ∧ zlm (zlc x.1) % (P - k) < zpop (zlef P x.2) := by
  have hm := Nat.mod_lt (zlm (zlc x.1)) (show 0 < P - k by omega)
  have hlt : zlm (zlc x.1) % (P - k) < zpop (zlef P x.2) := by rw [h.2]; exact hm
  obtain ⟨s1, s2, s3⟩ := zsl_ok hP zlef_lt hlt
  refine ⟨⟨?_, ?_⟩, hlt⟩
  · exact Nat.or_lt_two_pow h.1 (Nat.pow_lt_pow_right (by decide) s1)
  · show zpop (zlef P (x.2 ||| 2 ^ zsl (zlef P x.2) (zlm (zlc x.1) % (P - k)))) = _
    have := zpop_cl _ (z_1024 hP (zlef_lt (P := P) (D := x.2))) _ (show zsl (zlef P x.2) (zlm (zlc x.1) % (P - k)) < 10 by omega) s2
    rw [zlef_or hP]
    have := h.2
    omega
theorem zlef_0 : ∀ P, P < 11 → zpop (zlef P 0) = P := by decide +kernel
theorem zID_0 {P : Nat} (hP : P ≤ 10) (z : Int32) : zID P 0 (z, 0) := ⟨Nat.two_pow_pos P, zlef_0 P (by omega)⟩
noncomputable def zlot (P m F O : Nat) (_ : Nat) (x : Int32 × Nat) : Int32 × Nat := ((zfo (zdrw P) 0 m (x.1, 0)).1, x.2 + if zmor ((zfo (zdrw P) 0 m (x.1, 0)).2 &&& F) ((zfo (zdrw P) 0 m (x.1, 0)).2 &&& O) = true then 1 else 0)
theorem o_lots {u : ZSt} {P M : Nat} {adj : Nat → Nat} (h : zRB u P M adj) (a b c : Int32) : ∃ r u2, f_X_lots a b c u = some r ∧ f_M_lots a b c u = some (r, u2) ∧ zsc u u2 := by
  have hP := h.1.1
  have hM := h.2.1.1
  have hM10 : M ≤ 10 := by omega
  have c10 : ¬ (1 : Int32) = 0 := by decide
  have hpw := z_pow hP (Nat.le_refl _)
  have x1 := x_isBundle hM10 h.2.1.2.1 c
  have m1 := m_isBundle hM10 h.2.1.2.2 c
  rcases z_int b with hb | ⟨j, hj, rfl⟩
  · have n0 : b < 0 := by rw [fa_lt]; exact hb
    exact ⟨-1, u, by simp only [f_X_lots, n0, if_true], by simp only [f_M_lots, n0, if_true], zfr_rf u⟩
  · have n0 : ¬ nI j < 0 := nI_pos hj
    have ed : nI j / 100 = nI (j / 100) := pk_div (d := 100) hj (by decide) (by decide)
    have er : zrem (nI j) 100 = nI (j % 100) := pk_rem (d := 100) hj (by decide) (by decide)
    have m2 : f_M_within ((nI j / 100).toInt64) 1 30 = some (if 1 ≤ j / 100 ∧ j / 100 ≤ 30 then 1 else 0) := by
      rw [z_within, Int32.toInt_toInt64, ed, nI_toInt (by omega)]
      have e : ((1 : Int64).toInt ≤ ((j / 100 : Nat) : Int) ∧ ((j / 100 : Nat) : Int) ≤ (30 : Int64).toInt) ↔ (1 ≤ j / 100 ∧ j / 100 ≤ 30) := by
        rw [show (1 : Int64).toInt = 1 from rfl, show (30 : Int64).toInt = 30 from rfl]; omega
      simp only [e]
    have m3 : f_M_within ((zrem (nI j) 100).toInt64) 1 ((u.1 3906).toInt64) = some (if 1 ≤ j % 100 ∧ j % 100 ≤ P then 1 else 0) := by
      rw [z_within, Int32.toInt_toInt64, Int32.toInt_toInt64, er, nI_toInt (by omega), h.1.2.2.1, nI_toInt (by omega)]
      have e : ((1 : Int64).toInt ≤ ((j % 100 : Nat) : Int) ∧ ((j % 100 : Nat) : Int) ≤ (P : Int)) ↔ (1 ≤ j % 100 ∧ j % 100 ≤ P) := by
        rw [show (1 : Int64).toInt = 1 from rfl]; omega
      simp only [e]
    have k1 : (nI j / 100 < 1) = (j / 100 < 1) := by rw [ed, show (1 : Int32) = nI 1 from rfl]; exact propext (nI_ltI (by omega) (by decide))
    have k2 : ((30 : Int32) < nI j / 100) = (30 < j / 100) := by rw [ed, show (30 : Int32) = nI 30 from rfl]; exact propext (nI_ltI (by decide) (by omega))
    have k3 : (zrem (nI j) 100 < 1) = (j % 100 < 1) := by rw [er, show (1 : Int32) = nI 1 from rfl]; exact propext (nI_ltI (by omega) (by decide))
    have k4 : (zrem (nI j) 100 ≤ u.1 103) = (j % 100 ≤ P) := by rw [er, h.1.2.1]; exact propext (nI_leI (by omega) (by omega))
    by_cases hc : 1 ≤ c.toInt ∧ c.toInt < ((2 ^ M : Nat) : Int)
    · rw [if_pos hc] at x1 m1
      by_cases ht : 1 ≤ j / 100 ∧ j / 100 ≤ 30
      · rw [if_pos ht] at m2
        by_cases hn : 1 ≤ j % 100 ∧ j % 100 ≤ P
        · rw [if_pos hn] at m3
          obtain ⟨B, hB1, hB2, rfl⟩ := z_bund hc
          have hB3 := z_1024 hM10 hB2
          generalize hT : j / 100 = T at *
          generalize hm : j % 100 = m at *
          obtain ⟨l1, l2⟩ := x_lean h (zfr_rf u) hB3
          have hF := zF_lt hP M B (u := u)
          have hO := zO_lt hP M B (u := u)
          have inX : ∀ (z l7 l9 : Int32), ziter (fun s : Int32 × Int32 × Int32 => b_Finder_oftenCarriedByLot_25 (nI T) (nI m) (nI (zF u P M B)) (nI (zO u P M B)) l7 l9 s.1 s.2.1 s.2.2 u) zfu (z, 0, nI P) = some ((zfo (zdrw P) 0 m (z, 0)).1, nI (zfo (zdrw P) 0 m (z, 0)).2, nI (P - m)) ∧ zID P m (zfo (zdrw P) 0 m (z, 0)) := by
            intro z l7 l9
            obtain ⟨-, q1, q2⟩ := zit_f (B := fun s : Int32 × Int32 × Int32 => b_Finder_oftenCarriedByLot_25 (nI T) (nI m) (nI (zF u P M B)) (nI (zO u P M B)) l7 l9 s.1 s.2.1 s.2.2 u) (fun k x (_ : ZSt) => (x.1, nI x.2, nI (P - k))) (fun x _ => (x.1, nI x.2, nI (P - m)))
              (fun k x _ => zID P k x) (zdrw P) (a := 0) (n := m) (x := (z, 0)) (v := u) (Nat.zero_le _) (by omega)
              (by
                rintro k x v - hk hx
                obtain ⟨s1, s2⟩ := zID_step hP (show k < P by omega) hx
                refine ⟨v, ?_, s1⟩
                have n1 : ¬ nI (P - k) ≤ 0 := by rw [show (0 : Int32) = nI 0 from rfl, nI_leI (by omega) (by decide)]; omega
                have n2 : ¬ nI (P - k) ≤ nI P - nI m := by rw [pk_sub (by omega), nI_leI (by omega) (by omega)]; omega
                have n3 : ¬ nI (P - k) = 0 := nI_ne0 (by omega) (by omega)
                have hz := zlm_ok (zlc x.1)
                have e1 : zrem (zushr (x.1 * 1103515245 + 12345) 8) (nI (P - k)) = nI (zlm (zlc x.1) % (P - k)) := by
                  rw [show x.1 * 1103515245 + 12345 = zlc x.1 from rfl, hz.2]
                  exact pk_rem (by omega) (by omega) (by omega)
                have e2 : nI (2 ^ P - 1) &&& (nI x.2 ^^^ (-1 : Int32)) = nI (zlef P x.2) := z_andn (by omega) _
                have e3 := x_bitAt hP zlef_lt s2
                simp only [b_Finder_oftenCarriedByLot_25, n1, if_false, h.1.2.1, n2, f_Council_everybody, x_all' (u := u) hP, Option.bind_some, n3, e2, e1, e3, fa_or, z_dm1 (show 1 ≤ P - k by omega)]
                rfl)
              (by
                rintro x v -
                by_cases e : P - m = 0
                · rw [e]
                  simp only [b_Finder_oftenCarriedByLot_25, show nI 0 ≤ (0 : Int32) by decide, if_true]
                · have n1 : ¬ nI (P - m) ≤ 0 := by rw [show (0 : Int32) = nI 0 from rfl, nI_leI (by omega) (by decide)]; omega
                  have n2 : nI (P - m) ≤ nI P - nI m := by rw [pk_sub (by omega), nI_leI (by omega) (by omega)]; omega
                  simp only [b_Finder_oftenCarriedByLot_25, n1, if_false, h.1.2.1, n2, if_true])
              (zID_0 hP z)
            exact ⟨q1, q2⟩
          obtain ⟨-, q1, -⟩ := zit_f (B := fun s : Int32 × Int32 × Int32 => b_Finder_oftenCarriedByLot_16 (nI T) (nI m) (nI (zF u P M B)) (nI (zO u P M B)) s.1 s.2.1 s.2.2 u) (fun k x (_ : ZSt) => (nI x.2, x.1, nI k)) (fun x _ => (nI x.2, x.1, nI T))
            (fun k x _ => True) (zlot P m (zF u P M B) (zO u P M B)) (a := 0) (n := T) (x := (a, 0)) (v := u) (Nat.zero_le _) (by omega)
            (by
              rintro k x v - hk -
              have n1 : ¬ nI T ≤ nI k := by rw [nI_leI (by omega) (by omega)]; omega
              obtain ⟨i1, i2⟩ := inX x.1 (nI x.2) (nI k)
              have hD := z_1024 hP i2.1
              refine ⟨v, ?_, trivial⟩
              simp only [b_Finder_oftenCarriedByLot_16, n1, if_false, h.1.2.1, i1, Option.bind_some, a_Finder_oftenCarriedByLot_25, fa_and, x_more (z_and_lt hD (zF u P M B)) (z_and_lt hD (zO u P M B)), nI_1, zlot]
              by_cases e : zmor ((zfo (zdrw P) 0 m (x.1, 0)).2 &&& zF u P M B) ((zfo (zdrw P) 0 m (x.1, 0)).2 &&& zO u P M B) = true
              · simp only [e, if_true, c10, if_false]
              · simp only [e, if_true, if_false, Nat.add_zero, Bool.false_eq_true])
            (by
              rintro x v -
              have n1 : nI T ≤ nI T := by rw [nI_leI (by omega) (by omega)]; exact Nat.le_refl _
              simp only [b_Finder_oftenCarriedByLot_16, n1, if_true])
            trivial
          obtain ⟨y, y1, y2, y3⟩ := m_touches h (zfr_rf u) hB3 hB3 (g := 0) (by decide)
          have y1' : f_M_touches (nI B) (nI B) 0 u = some y := y1
          have hy := h.sd y2.1
          have hsy : zsc u y := y3.mono (by decide) (by decide) (by decide)
          have inM : ∀ (z l5 l6 : Int32), ziter (fun s : Int32 × Int32 × Int32 => b_M_lots_51 (nI j) l5 l6 s.1 s.2.1 s.2.2 y) zfu (z, nI (2 ^ P - 1), 0) = some ((zfo (zdrw P) 0 m (z, 0)).1, nI (zlef P (zfo (zdrw P) 0 m (z, 0)).2), nI m) := by
            intro z l5 l6
            have e00 : zlef P 0 = 2 ^ P - 1 := by
              refine Nat.eq_of_testBit_eq (fun i => ?_)
              rw [zlef_tb hP, Nat.testBit_two_pow_sub_one]; simp
            obtain ⟨-, q1, q2⟩ := zit_f (B := fun s : Int32 × Int32 × Int32 => b_M_lots_51 (nI j) l5 l6 s.1 s.2.1 s.2.2 y) (fun k x (_ : ZSt) => (x.1, nI (zlef P x.2), nI k)) (fun x _ => (x.1, nI (zlef P x.2), nI m))
              (fun k x _ => zID P k x) (zdrw P) (a := 0) (n := m) (x := (z, 0)) (v := u) (Nat.zero_le _) (by omega)
              (by
                rintro k x v - hk hx
                obtain ⟨s1, s2⟩ := zID_step hP (show k < P by omega) hx
                have s4 := (zsl_ok hP zlef_lt s2).1
                refine ⟨v, ?_, s1⟩
                have n1 : ¬ nI m ≤ nI k := by rw [nI_leI (by omega) (by omega)]; omega
                have n3 : ¬ nI (P - k) = 0 := nI_ne0 (by omega) (by omega)
                have hz := zlm_ok (zlc x.1)
                have e1 : zrem (zushr (x.1 * 1103515245 + 12345) 8) (nI (P - k)) = nI (zlm (zlc x.1) % (P - k)) := by
                  rw [show x.1 * 1103515245 + 12345 = zlc x.1 from rfl, hz.2]
                  exact pk_rem (by omega) (by omega) (by omega)
                have e3 := m_drawn (v := y) hP hy.1.2.2.1 zlef_lt s2
                have hL := z_1024 hP (zlef_lt (P := P) (D := x.2))
                have e4 := z_clrI hL (show zsl (zlef P x.2) (zlm (zlc x.1) % (P - k)) < 10 by omega)
                rw [← zlef_or hP] at e4
                simp only [b_M_lots_51, er, n1, if_false, m_bits hL, hx.2, Option.bind_some, n3, e1, e3, e4, nI_1]
                rfl)
              (by
                rintro x v -
                have n1 : nI m ≤ nI m := by rw [nI_leI (by omega) (by omega)]; exact Nat.le_refl _
                simp only [b_M_lots_51, er, n1, if_true])
              (zID_0 hP z)
            rw [← e00]
            exact q1
          obtain ⟨-, w1, -⟩ := zit_f (B := fun s : Int32 × Int32 × Int32 => b_M_lots_37 (nI j) s.1 s.2.1 s.2.2 y) (fun k x (_ : ZSt) => (x.1, nI x.2, nI k)) (fun x _ => (x.1, nI x.2, nI T))
            (fun k x _ => True) (zlot P m (zF u P M B) (zO u P M B)) (a := 0) (n := T) (x := (a, 0)) (v := u) (Nat.zero_le _) (by omega)
            (by
              rintro k x v - hk -
              have n1 : ¬ nI T ≤ nI k := by rw [nI_leI (by omega) (by omega)]; omega
              have i1 := inM x.1 (nI x.2) (nI k)
              have i2 := (inX x.1 0 0).2
              have hD := z_1024 hP i2.1
              have eD : nI (2 ^ P - 1) &&& (nI (zlef P (zfo (zdrw P) 0 m (x.1, 0)).2) ^^^ (-1 : Int32)) = nI (zfo (zdrw P) 0 m (x.1, 0)).2 := by
                rw [z_andn (by omega)]
                exact congrArg nI (zlef_rst hP i2.1)
              refine ⟨v, ?_, trivial⟩
              simp only [b_M_lots_37, ed, n1, if_false, hy.1.2.2.1, x_all' (u := u) hP, i1, Option.bind_some, a_M_lots_51, eD, m_more h y2 hD, nI_1, zlot]
              by_cases e : zmor ((zfo (zdrw P) 0 m (x.1, 0)).2 &&& zF u P M B) ((zfo (zdrw P) 0 m (x.1, 0)).2 &&& zO u P M B) = true
              · simp only [e, if_true, c10, if_false]
              · simp only [e, if_true, if_false, Nat.add_zero, Bool.false_eq_true, Int32.add_zero])
            (by
              rintro x v -
              have n1 : nI T ≤ nI T := by rw [nI_leI (by omega) (by omega)]; exact Nat.le_refl _
              simp only [b_M_lots_37, ed, n1, if_true])
            trivial
          have q1' : ziter (fun s : Int32 × Int32 × Int32 => b_Finder_oftenCarriedByLot_16 (nI T) (nI m) (nI (zF u P M B)) (nI (zO u P M B)) s.1 s.2.1 s.2.2 u) zfu (0, a, 0) = _ := q1
          have w1' : ziter (fun s : Int32 × Int32 × Int32 => b_M_lots_37 (nI j) s.1 s.2.1 s.2.2 y) zfu (a, 0, 0) = _ := w1
          rw [ed] at k1 k2
          rw [er] at k3 k4
          have t1 : ¬ nI T < 1 := by rw [k1]; omega
          have t2 : ¬ (30 : Int32) < nI T := by rw [k2]; omega
          have t3 : ¬ nI m < 1 := by rw [k3]; omega
          have t4 : nI m ≤ u.1 103 := by rw [k4]; omega
          refine ⟨nI (zfo (zlot P m (zF u P M B) (zO u P M B)) 0 (T - 0) (a, 0)).2, y, ?_, ?_, hsy⟩
          · simp only [f_X_lots, n0, if_false, x1, Option.bind_some, c10, ed, er, t1, t2, t3, t4, if_true, f_Finder_oftenCarriedByLot, l1, l2, q1', a_Finder_oftenCarriedByLot_16]
          · simp only [f_M_lots, n0, if_false, m2, m3, m1, Option.bind_some, c10, y1', w1', a_M_lots_37]
        · rw [if_neg hn] at m3
          refine ⟨-1, u, ?_, ?_, zfr_rf u⟩
          · simp only [f_X_lots, n0, if_false, x1, Option.bind_some, c10, k1, k2, k3, k4, show ¬ j / 100 < 1 by omega, show ¬ 30 < j / 100 by omega]
            by_cases e : j % 100 < 1
            · rw [if_pos e]
            · rw [if_neg e, if_neg (by omega)]
          · simp only [f_M_lots, n0, if_false, m2, m3, Option.bind_some, c10, if_true]
      · rw [if_neg ht] at m2
        refine ⟨-1, u, ?_, ?_, zfr_rf u⟩
        · simp only [f_X_lots, n0, if_false, x1, Option.bind_some, c10, k1, k2]
          by_cases e : j / 100 < 1
          · rw [if_pos e]
          · rw [if_neg e, if_pos (by omega)]
        · simp only [f_M_lots, n0, if_false, m2, Option.bind_some, if_true]
    · rw [if_neg hc] at x1 m1
      refine ⟨-1, u, ?_, ?_, zfr_rf u⟩
      · simp only [f_X_lots, n0, if_false, x1, Option.bind_some, if_true]
      · simp only [f_M_lots, n0, if_false, m2, m3, m1, Option.bind_some]
        by_cases e1 : 1 ≤ j / 100 ∧ j / 100 ≤ 30
        · rw [if_pos e1, if_neg c10]
          by_cases e2 : 1 ≤ j % 100 ∧ j % 100 ≤ P
          · rw [if_pos e2, if_neg c10] <;> rfl
          · rw [if_neg e2, if_pos rfl]
        · rw [if_neg e1, if_pos rfl]
