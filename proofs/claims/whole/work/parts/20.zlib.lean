/-! a toolkit for the functions over numbers -/
theorem zs1 (u : ZSt) (i : Nat) (v : Int32) (j : Nat) : (zs u i v).1 j = if j = i then v else u.1 j := rfl
theorem zs2 (u : ZSt) (i : Nat) (v : Int32) : (zs u i v).2 = u.2 := rfl
theorem za1 (u : ZSt) (k i : Nat) (v : Int32) : (za u k i v).1 = u.1 := rfl
theorem za2 (u : ZSt) (k i : Nat) (v : Int32) (j : Nat) : (za u k i v).2.1 j = if j = k then upd (u.2.1 k) i v else u.2.1 j := rfl
theorem za3 (u : ZSt) (k i : Nat) (v : Int32) : (za u k i v).2.2 = u.2.2 := rfl
theorem zl1 (u : ZSt) (k i : Nat) (v : Int64) : (zl u k i v).1 = u.1 := rfl
theorem zl2 (u : ZSt) (k i : Nat) (v : Int64) : (zl u k i v).2.1 = u.2.1 := rfl
theorem zl3 (u : ZSt) (k i : Nat) (v : Int64) (j : Nat) : (zl u k i v).2.2 j = if j = k then vp_updL (u.2.2 k) i v else u.2.2 j := rfl
theorem zc1 (u : ZSt) (k k' a b n : Nat) : (zcp u k k' a b n).1 = u.1 := rfl
theorem zc2 (u : ZSt) (k k' a b n j : Nat) : (zcp u k k' a b n).2.1 j = if j = k' then va_cpy (u.2.1 k) (u.2.1 k') a b n else u.2.1 j := rfl
theorem zc3 (u : ZSt) (k k' a b n : Nat) : (zcp u k k' a b n).2.2 = u.2.2 := rfl
theorem zd1 (u : ZSt) (k k' a b n : Nat) : (zcpl u k k' a b n).1 = u.1 := rfl
theorem zd2 (u : ZSt) (k k' a b n : Nat) : (zcpl u k k' a b n).2.1 = u.2.1 := rfl
theorem zd3 (u : ZSt) (k k' a b n j : Nat) : (zcpl u k k' a b n).2.2 j = if j = k' then va_cpy (u.2.2 k) (u.2.2 k') a b n else u.2.2 j := rfl
theorem upd1 (f : Nat → Int32) (k : Nat) (x : Int32) (j : Nat) : upd f k x j = if j = k then x else f j := rfl
theorem updL1 (f : Nat → Int64) (k : Nat) (x : Int64) (j : Nat) : vp_updL f k x j = if j = k then x else f j := rfl
/-- loops: an invariant by rounds, an end after at most n of them -/
theorem zit {σ ρ : Type} {B : σ → Option (σ ⊕ ρ)} (n : Nat) (I : Nat → σ → Prop) (Q : ρ → Prop) (hn : n < 1048576)
    (h : ∀ k s, k ≤ n → I k s → (∃ s', B s = some (.inl s') ∧ k < n ∧ I (k + 1) s') ∨ ∃ r, B s = some (.inr r) ∧ Q r) {s : σ} (h0 : I 0 s) : ∃ r, ziter B zfu s = some r ∧ Q r := by
  have key : ∀ (f k : Nat) (s : σ), n - k < f → k ≤ n → I k s → ∃ r, ziter B f s = some r ∧ Q r := by
    intro f
    induction f with
    | zero => intro k s hf; omega
    | succ f ih =>
      intro k s hf hk hI
      rcases h k s hk hI with ⟨s', h1, h2, h3⟩ | ⟨r, h1, h2⟩
      · obtain ⟨r, h4, h5⟩ := ih (k + 1) s' (by omega) (by omega) h3
        exact ⟨r, by simp only [ziter, h1, Option.bind_some]; exact h4, h5⟩
      · exact ⟨r, by simp only [ziter, h1, Option.bind_some], h2⟩
  exact key zfu 0 s (by rw [zfu_eq]; omega) (Nat.zero_le _) h0
/-- the same, where the loop counts from 0 to n -/
theorem zit_eq {σ ρ : Type} {B : σ → Option (σ ⊕ ρ)} (n : Nat) (f : Nat → σ) (r : ρ) (hn : n < 1048576) (hs : ∀ k, k < n → B (f k) = some (.inl (f (k + 1)))) (he : B (f n) = some (.inr r)) : ziter B zfu (f 0) = some r := by
  obtain ⟨r', h1, h2⟩ := zit (B := B) n (fun k s => s = f k) (fun x => x = r) hn (fun k s hk hI => by
    subst hI
    by_cases hk2 : k < n
    · exact Or.inl ⟨_, hs k hk2, hk2, rfl⟩
    · have : k = n := by omega
      subst this
      exact Or.inr ⟨r, he, rfl⟩) rfl
  rw [h1, h2]
/-! numbers -/
theorem zn_u {a b : Nat} (ha : a < 2 ^ 31) (hb : b < 32) : zushr (nI a) (nI b) = nI (a / 2 ^ b) := pk_ushrN (Nat.lt_trans ha (by decide)) (nI b) b (s_u b hb)
theorem zn_s {a b : Nat} (ha : a < 2 ^ 31) (hb : b < 32) : nI a >>> (nI b &&& 31) = nI (a / 2 ^ b) := pk_shrN ha (nI b &&& 31) b (s_l b hb)
theorem zn_l {a b : Nat} (hb : b < 32) (h : a * 2 ^ b < 2 ^ 32) : nI a <<< (nI b &&& 31) = nI (a * 2 ^ b) := pk_shlN (nI b &&& 31) b (s_l b hb) h
theorem zn_p {b : Nat} (hb : b < 32) : (1 : Int32) <<< (nI b &&& 31) = nI (2 ^ b) := by
  have h := zn_l (a := 1) hb (by rw [Nat.one_mul]; exact Nat.pow_lt_pow_right (by decide) hb)
  rw [Nat.one_mul] at h
  exact h
theorem zn_and1 (a : Nat) : nI a &&& 1 = nI (a % 2) := by
  have h := fa_mask a 1
  exact h
theorem zn_bit (a p : Nat) : a / 2 ^ p % 2 = if a.testBit p then 1 else 0 := by
  rw [Nat.testBit_eq_decide_div_mod_eq]
  have := Nat.mod_two_eq_zero_or_one (a / 2 ^ p)
  rcases this with h | h <;> simp [h]
theorem zb_u {a p : Nat} (ha : a < 2 ^ 31) (hp : p < 32) : zushr (nI a) (nI p) &&& 1 = if a.testBit p then 1 else 0 := by
  rw [zn_u ha hp, zn_and1, zn_bit]
  split <;> rfl
theorem zb_s {a p : Nat} (ha : a < 2 ^ 31) (hp : p < 32) : (nI a >>> (nI p &&& 31)) &&& 1 = if a.testBit p then 1 else 0 := by
  rw [zn_s ha hp, zn_and1, zn_bit]
  split <;> rfl
theorem zn_zin {a n : Nat} (h : a < n) (hn : n < 2 ^ 31) : zin (nI a) n := nI_in h hn
theorem zn_cl {a : Nat} (h : a < 2 ^ 31) : (nI a).toNatClampNeg = a := nI_clamp h
theorem zl_toInt {n : Nat} (h : n < 2 ^ 63) : (lN n).toInt = (n : Int) := by
  have e : (lN n).toBitVec = BitVec.ofNat 64 n := rfl
  show (lN n).toBitVec.toInt = n
  rw [e, BitVec.toInt_eq_toNat_cond, BitVec.toNat_ofNat, Nat.mod_eq_of_lt (by omega)]
  split <;> omega
/-- within, as the reference has it -/
theorem z_within (v l m : Int64) : f_M_within v l m = some (if l.toInt ≤ v.toInt ∧ v.toInt ≤ m.toInt then 1 else 0) := by
  unfold f_M_within lg_cmp
  simp only [fa_lt64, fa_eq64, gt_iff_lt]
  by_cases h1 : l.toInt < v.toInt
  · simp only [h1, if_true]
    by_cases h2 : m.toInt < v.toInt
    · have : ¬ v.toInt ≤ m.toInt := by omega
      simp [h2, this]
    · by_cases h3 : v.toInt = m.toInt
      · simp [h3]; omega
      · have h4 : v.toInt ≤ m.toInt := by omega
        have h5 : l.toInt ≤ v.toInt := by omega
        simp [h2, h3, h4, h5]
  · by_cases h1' : v.toInt = l.toInt
    · simp only [h1', Int.lt_irrefl, if_false, if_true]
      by_cases h2 : m.toInt < l.toInt
      · have : ¬ l.toInt ≤ m.toInt := by omega
        simp [h2, this]
      · by_cases h3 : l.toInt = m.toInt
        · simp [h3]
        · have h4 : l.toInt ≤ m.toInt := by omega
          simp [h2, h3, h4]
    · have : ¬ l.toInt ≤ v.toInt := by omega
      simp [h1, h1', this]
theorem z_int (a : Int32) : a.toInt < 0 ∨ ∃ j : Nat, j < 2 ^ 31 ∧ a = nI j := by
  by_cases h : a < 0
  · left
    have := (fa_lt a 0).mp h
    simpa using this
  · right
    exact nI_of h
/-- a negative number against a count -/
theorem zm_lt {a : Int32} (ha : a.toInt < 0) {n : Nat} (hn : n < 2 ^ 31) : a < nI n := by rw [fa_lt, nI_toInt hn]; omega
theorem zm_nlt {a : Int32} (ha : a.toInt < 0) {n : Nat} (hn : n < 2 ^ 31) : ¬ nI n < a := by rw [fa_lt, nI_toInt hn]; omega
theorem zm_nle {a : Int32} (ha : a.toInt < 0) {n : Nat} (hn : n < 2 ^ 31) : ¬ nI n ≤ a := by rw [fa_le, nI_toInt hn]; omega
theorem zm_le {a : Int32} (ha : a.toInt < 0) {n : Nat} (hn : n < 2 ^ 31) : a ≤ nI n := by rw [fa_le, nI_toInt hn]; omega
theorem zm_ne {a : Int32} (ha : a.toInt < 0) {n : Nat} (hn : n < 2 ^ 31) : ¬ a = nI n := by rw [fa_eq, nI_toInt hn]; omega
theorem zm_nz {a : Int32} (ha : a.toInt < 0) (n : Nat) : ¬ zin a n := fun h => h (Or.inl (by have := zm_lt ha (n := 0) (by decide); exact this))
