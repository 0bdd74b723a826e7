/-! frames: which numbers may have changed -/
def zfr (S A L : List Nat) (u v : ZSt) : Prop := (∀ i, i ∉ S → v.1 i = u.1 i) ∧ (∀ k, k ∉ A → v.2.1 k = u.2.1 k) ∧ ∀ k, k ∉ L → v.2.2 k = u.2.2 k
theorem zfr_rf {S A L : List Nat} (u : ZSt) : zfr S A L u u := ⟨fun _ _ => rfl, fun _ _ => rfl, fun _ _ => rfl⟩
theorem zfr.tr {S A L : List Nat} {u v w : ZSt} (h1 : zfr S A L u v) (h2 : zfr S A L v w) : zfr S A L u w :=
  ⟨fun i hi => (h2.1 i hi).trans (h1.1 i hi), fun k hk => (h2.2.1 k hk).trans (h1.2.1 k hk), fun k hk => (h2.2.2 k hk).trans (h1.2.2 k hk)⟩
theorem zfr.mono {S A L S' A' L' : List Nat} {u v : ZSt} (h : zfr S A L u v) (hS : ∀ i ∈ S, i ∈ S') (hA : ∀ i ∈ A, i ∈ A') (hL : ∀ i ∈ L, i ∈ L') : zfr S' A' L' u v :=
  ⟨fun i hi => h.1 i (fun q => hi (hS i q)), fun k hk => h.2.1 k (fun q => hk (hA k q)), fun k hk => h.2.2 k (fun q => hk (hL k q))⟩
theorem zfr.s {S A L : List Nat} {u v : ZSt} {i : Nat} (x : Int32) (h : zfr S A L u v) (hi : i ∈ S) : zfr S A L u (zs v i x) :=
  ⟨fun j hj => by
    have : j ≠ i := fun e => hj (e ▸ hi)
    rw [zs1, if_neg this]; exact h.1 j hj, fun k hk => h.2.1 k hk, fun k hk => h.2.2 k hk⟩
theorem zfr.a {S A L : List Nat} {u v : ZSt} {k i : Nat} (x : Int32) (h : zfr S A L u v) (hk : k ∈ A) : zfr S A L u (za v k i x) :=
  ⟨fun j hj => h.1 j hj, fun j hj => by
    have : j ≠ k := fun e => hj (e ▸ hk)
    rw [za2, if_neg this]; exact h.2.1 j hj, fun k hk => h.2.2 k hk⟩
theorem zfr.l {S A L : List Nat} {u v : ZSt} {k i : Nat} (x : Int64) (h : zfr S A L u v) (hk : k ∈ L) : zfr S A L u (zl v k i x) :=
  ⟨fun j hj => h.1 j hj, fun j hj => h.2.1 j hj, fun j hj => by
    have : j ≠ k := fun e => hj (e ▸ hk)
    rw [zl3, if_neg this]; exact h.2.2 j hj⟩
theorem zfr.c {S A L : List Nat} {u v : ZSt} {k k' a b n : Nat} (h : zfr S A L u v) (hk : k' ∈ A) : zfr S A L u (zcp v k k' a b n) :=
  ⟨fun j hj => h.1 j hj, fun j hj => by
    have : j ≠ k' := fun e => hj (e ▸ hk)
    rw [zc2, if_neg this]; exact h.2.1 j hj, fun k hk => h.2.2 k hk⟩
theorem zfr.d {S A L : List Nat} {u v : ZSt} {k k' a b n : Nat} (h : zfr S A L u v) (hk : k' ∈ L) : zfr S A L u (zcpl v k k' a b n) :=
  ⟨fun j hj => h.1 j hj, fun j hj => h.2.1 j hj, fun j hj => by
    have : j ≠ k' := fun e => hj (e ▸ hk)
    rw [zd3, if_neg this]; exact h.2.2 j hj⟩
theorem zfr.g {S A L : List Nat} {u v : ZSt} (h : zfr S A L u v) (i : Nat) (hi : i ∉ S := by decide) : v.1 i = u.1 i := h.1 i hi
theorem zfr.ga {S A L : List Nat} {u v : ZSt} (h : zfr S A L u v) (i : Nat) (hi : i ∉ A := by decide) : v.2.1 i = u.2.1 i := h.2.1 i hi
theorem zfr.gl {S A L : List Nat} {u v : ZSt} (h : zfr S A L u v) (i : Nat) (hi : i ∉ L := by decide) : v.2.2 i = u.2.2 i := h.2.2 i hi
/-! guards: numbers of persons and matters -/
theorem z_ge {a b : Int32} : ¬ a < b ↔ b ≤ a := by rw [fa_lt, fa_le]; omega
theorem z_it {c : Prop} [Decidable c] : ((if c then (1 : Int32) else 0) = 0) ↔ ¬ c := by by_cases h : c <;> simp [h]
theorem z_sub1 {P : Nat} (h : P < 2 ^ 30) : (nI P - 1).toInt = (P : Int) - 1 := pk_sub_toInt (b := 1) h (by decide)
theorem x_isPerson {u : ZSt} {P : Nat} (hP : P ≤ 10) (h : u.1 103 = nI P) (a : Int32) : f_Council_isPerson a u = some (if 0 ≤ a.toInt ∧ a.toInt < P then 1 else 0) := by
  simp only [f_Council_isPerson, h, fa_lt, fa_le, nI_toInt (show P < 2 ^ 31 by omega)]
  by_cases h1 : a.toInt < 0
  · have : ¬ 0 ≤ a.toInt := by omega
    simp [h1, this]
  · by_cases h2 : (P : Int) ≤ a.toInt
    · have : ¬ a.toInt < P := by omega
      simp [h1, h2, this]
    · have h3 : a.toInt < P := by omega
      have h4 : 0 ≤ a.toInt := by omega
      simp [h1, h2, h3, h4]
theorem x_isMatter {u : ZSt} {P : Nat} (hP : P ≤ 10) (h : u.1 105 = nI P) (a : Int32) : f_Council_isMatter a u = some (if 0 ≤ a.toInt ∧ a.toInt < P then 1 else 0) := by
  simp only [f_Council_isMatter, h, fa_lt, fa_le, nI_toInt (show P < 2 ^ 31 by omega)]
  by_cases h1 : a.toInt < 0
  · have : ¬ 0 ≤ a.toInt := by omega
    simp [h1, this]
  · by_cases h2 : (P : Int) ≤ a.toInt
    · have : ¬ a.toInt < P := by omega
      simp [h1, h2, this]
    · have h3 : a.toInt < P := by omega
      have h4 : 0 ≤ a.toInt := by omega
      simp [h1, h2, h3, h4]
theorem m_range {P : Nat} (hP : P ≤ 10) (a : Int32) : f_M_within a.toInt64 0 ((nI P - 1).toInt64) = some (if 0 ≤ a.toInt ∧ a.toInt < P then 1 else 0) := by
  rw [z_within, Int32.toInt_toInt64, Int32.toInt_toInt64, z_sub1 (by omega)]
  have e : ((0 : Int64).toInt ≤ a.toInt ∧ a.toInt ≤ (P : Int) - 1) ↔ (0 ≤ a.toInt ∧ a.toInt < P) := by
    rw [show (0 : Int64).toInt = 0 from rfl]; omega
  simp only [e]
theorem m_isPerson {u : ZSt} {P : Nat} (hP : P ≤ 10) (h : u.1 3906 = nI P) (a : Int32) : f_M_isPerson a u = some (if 0 ≤ a.toInt ∧ a.toInt < P then 1 else 0) := by
  simp only [f_M_isPerson, h, m_range hP, Option.bind_some]
theorem m_isMatter {u : ZSt} {P : Nat} (hP : P ≤ 10) (h : u.1 3907 = nI P) (a : Int32) : f_M_isMatter a u = some (if 0 ≤ a.toInt ∧ a.toInt < P then 1 else 0) := by
  simp only [f_M_isMatter, h, m_range hP, Option.bind_some]
theorem z_pos {a : Int32} {n : Nat} (h : 0 ≤ a.toInt ∧ a.toInt < n) : ∃ p, p < n ∧ a = nI p := by
  rcases z_int a with ha | ⟨j, hj, rfl⟩
  · omega
  · rw [nI_toInt hj] at h
    exact ⟨j, by omega, rfl⟩
theorem z_pm {a : Int32} : (a < 0) ↔ a.toInt < 0 := by rw [fa_lt]; rfl
/-- pm: 10 times the person and the matter -/
def zpm (P M : Nat) (a : Int32) : Prop := ∃ p m, p < P ∧ m < M ∧ a = nI (10 * p + m)
theorem zpm_iff {P M : Nat} (hP : P ≤ 10) (hM : M ≤ 10) {a : Int32} {j : Nat} (hj : j < 2 ^ 31) (ha : a = nI j) : zpm P M a ↔ (j / 10 < P ∧ j % 10 < M) := by
  constructor
  · rintro ⟨p, m, hp, hm, e⟩
    rw [ha, nI_eq hj (by omega)] at e
    subst e
    omega
  · rintro ⟨h1, h2⟩
    exact ⟨j / 10, j % 10, h1, h2, by rw [ha]; congr 1; omega⟩
theorem z_dr {j : Nat} (hj : j < 2 ^ 31) : nI j / 10 = nI (j / 10) ∧ zrem (nI j) 10 = nI (j % 10) := ⟨pk_div (d := 10) hj (by decide) (by decide), pk_rem (d := 10) hj (by decide) (by decide)⟩
theorem z_lt2 {P j : Nat} (hj : j < 2 ^ 31) : (0 ≤ (nI j).toInt ∧ (nI j).toInt < P) ↔ j < P := by rw [nI_toInt hj]; omega
theorem m_isPm {u : ZSt} {P M : Nat} (hP : P ≤ 10) (hM : M ≤ 10) (h1 : u.1 3906 = nI P) (h2 : u.1 3907 = nI M) (a : Int32) [Decidable (zpm P M a)] : f_M_isPm a u = some (if zpm P M a then 1 else 0) := by
  rcases z_int a with ha | ⟨j, hj, rfl⟩
  · have : ¬ zpm P M a := by
      rintro ⟨p, m, hp, hm, rfl⟩
      rw [nI_toInt (by omega)] at ha
      omega
    simp only [f_M_isPm, z_pm, ha, if_true, this, if_false]
  · have e := zpm_iff hP hM hj rfl
    have hn : ¬ (nI j).toInt < 0 := by rw [nI_toInt hj]; omega
    simp only [f_M_isPm, z_pm, hn, if_false, (z_dr hj).1, (z_dr hj).2, m_isPerson hP h1, m_isMatter hM h2, Option.bind_some, z_lt2 (show j / 10 < 2 ^ 31 by omega), z_lt2 (show j % 10 < 2 ^ 31 by omega), z_it, e]
    by_cases h3 : j / 10 < P <;> by_cases h4 : j % 10 < M <;> simp [h3, h4]
theorem x_slotOf {u : ZSt} {P M : Nat} (hP : P ≤ 10) (hM : M ≤ 10) (h1 : u.1 103 = nI P) (h2 : u.1 105 = nI M) (a b : Int32) [Decidable (zpm P M a)] (hb : b = 0 ∨ b = 1) : f_Council_slotOf a b u = some (if zpm P M a then b * 100 + a else -1) := by
  have hb2 : ¬ b = 2 := by rcases hb with rfl | rfl <;> decide
  rcases z_int a with ha | ⟨j, hj, rfl⟩
  · have : ¬ zpm P M a := by
      rintro ⟨p, m, hp, hm, rfl⟩
      rw [nI_toInt (by omega)] at ha
      omega
    simp only [f_Council_slotOf, hb2, z_pm, ha, if_true, this, if_false]
  · have e := zpm_iff hP hM hj rfl
    have hn : ¬ (nI j).toInt < 0 := by rw [nI_toInt hj]; omega
    have h10 : ¬ (1 : Int32) = 0 := by decide
    simp only [f_Council_slotOf, hb2, z_pm, hn, if_false, (z_dr hj).1, (z_dr hj).2, x_isPerson hP h1, x_isMatter hM h2, Option.bind_some, z_lt2 (show j / 10 < 2 ^ 31 by omega), z_lt2 (show j % 10 < 2 ^ 31 by omega), z_it, e, h10]
    by_cases h3 : j / 10 < P <;> by_cases h4 : j % 10 < M <;> rcases hb with rfl | rfl <;> simp [h3, h4]
theorem x_slotOf2 {u : ZSt} {M : Nat} (hM : M ≤ 10) (h2 : u.1 105 = nI M) (a : Int32) : f_Council_slotOf a 2 u = some (if 0 ≤ a.toInt ∧ a.toInt < M then 200 + a else -1) := by
  simp only [f_Council_slotOf, if_true, x_isMatter hM h2, Option.bind_some, z_it]
  by_cases h : 0 ≤ a.toInt ∧ a.toInt < M <;> simp [h]
