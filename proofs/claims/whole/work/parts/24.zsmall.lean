/-! rule, the tape, votes in deed, voters -/
def zR6 (u : ZSt) : Prop := ∃ K Q : Nat, K ≤ 4 ∧ Q ≤ 10 ∧ u.1 106 = nI K ∧ u.1 3911 = nI K ∧ u.1 107 = nI Q ∧ u.1 3912 = nI Q
theorem o_rule {u : ZSt} (h : zR6 u) (a b : Int32) : ∃ r u1 u2, f_X_rule a b u = some (r, u1) ∧ f_M_rule a b u1 = some (r, u2) ∧ zR6 u2 ∧ zfr [106, 107, 3911, 3912] [] [] u u2 := by
  obtain ⟨K, Q, hK, hQ, e1, e2, e3, e4⟩ := id h
  have c10 : ¬ (1 : Int32) = 0 := by decide
  have k0 : (0 : Int64).toInt = 0 := rfl
  have k1 : (1 : Int64).toInt = 1 := rfl
  have k4 : (4 : Int64).toInt = 4 := rfl
  have k10 : (10 : Int64).toInt = 10 := rfl
  have bad : f_X_rule a b u = some (-1, u) → f_M_rule a b u = some (-1, u) → ∃ r u1 u2, f_X_rule a b u = some (r, u1) ∧ f_M_rule a b u1 = some (r, u2) ∧ zR6 u2 ∧ zfr [106, 107, 3911, 3912] [] [] u u2 :=
    fun x y => ⟨_, u, u, x, y, h, zfr_rf u⟩
  have hneg : ∀ n : Nat, ¬ 0 ≤ b → ¬ (0 ≤ b.toInt ∧ b.toInt ≤ n) := by
    intro n hb
    rw [fa_le] at hb
    have : (0 : Int32).toInt = 0 := rfl
    omega
  by_cases ha0 : a = 0
  · subst ha0
    have w1 : f_M_within (0 : Int32).toInt64 0 1 = some 1 := by rw [z_within]; rfl
    by_cases hb : 0 ≤ b.toInt ∧ b.toInt ≤ 4
    · obtain ⟨k, hk, rfl⟩ := z_le99 (n := 4) hb
      refine ⟨nI K, zs u 106 (nI k), zs (zs (zs u 106 (nI k)) 3911 (nI k)) 3912 (nI Q), ?_, ?_, ⟨k, Q, hk, hQ, rfl, rfl, e3, rfl⟩, ?_⟩
      · have : ¬ 4 < k := by omega
        simp only [f_X_rule]
        simp (disch := omega) [fa_lit, nI_ltI, nI_leI, nI_eq, nI_add, pk_sub, zn_cl, zn_zin, e1, this]
      · simp only [f_M_rule, w1, Option.bind_some, z_within, Int32.toInt_toInt64, k0, k4, hb, if_true, c10, if_false, and_self]
        simp (disch := omega) [fa_lit, nI_ltI, nI_leI, nI_eq, nI_add, pk_sub, zn_cl, zn_zin, zs1, e2, e4]
      · exact (((zfr_rf u).s _ (by decide)).s _ (by decide)).s _ (by decide)
    · refine bad ?_ ?_
      · simp only [f_X_rule, if_true, show ¬ (0 : Int32) = 1 by decide, if_false]
        by_cases h0 : 0 ≤ b
        · have : 4 < b := by rw [fa_lt, show (4 : Int32).toInt = 4 from rfl]; rw [fa_le, show (0 : Int32).toInt = 0 from rfl] at h0; omega
          simp [h0, this]
        · simp [h0]
      · simp only [f_M_rule, w1, Option.bind_some, z_within, Int32.toInt_toInt64, k0, k4, hb, if_true, c10, if_false]
  · by_cases ha1 : a = 1
    · subst ha1
      have w1 : f_M_within (1 : Int32).toInt64 0 1 = some 1 := by rw [z_within]; rfl
      by_cases hb : 0 ≤ b.toInt ∧ b.toInt ≤ 10
      · obtain ⟨k, hk, rfl⟩ := z_le99 (n := 10) hb
        refine ⟨nI Q, zs u 107 (nI k), zs (zs (zs u 107 (nI k)) 3911 (nI K)) 3912 (nI k), ?_, ?_, ⟨K, k, hK, hk, e1, rfl, rfl, rfl⟩, ?_⟩
        · have : ¬ 10 < k := by omega
          simp only [f_X_rule]
          simp (disch := omega) [fa_lit, nI_ltI, nI_leI, nI_eq, nI_add, pk_sub, zn_cl, zn_zin, e3, this]
        · simp only [f_M_rule, w1, Option.bind_some, z_within, Int32.toInt_toInt64, k0, k10, hb, if_true, c10, if_false, and_self]
          simp (disch := omega) [fa_lit, nI_ltI, nI_leI, nI_eq, nI_add, pk_sub, zn_cl, zn_zin, zs1, e2, e4]
        · exact (((zfr_rf u).s _ (by decide)).s _ (by decide)).s _ (by decide)
      · refine bad ?_ ?_
        · simp only [f_X_rule, if_true, c10, if_false]
          by_cases h0 : 0 ≤ b
          · have : 10 < b := by rw [fa_lt, show (10 : Int32).toInt = 10 from rfl]; rw [fa_le, show (0 : Int32).toInt = 0 from rfl] at h0; omega
            simp [h0, this]
          · simp [h0]
        · simp only [f_M_rule, w1, Option.bind_some, z_within, Int32.toInt_toInt64, k0, k10, hb, if_true, c10, if_false]
    · have hw : ¬ (0 ≤ a.toInt ∧ a.toInt ≤ 1) := by
        intro hq
        obtain ⟨k, hk, rfl⟩ := z_le99 (n := 1) hq
        rcases (show k = 0 ∨ k = 1 by omega) with rfl | rfl
        · exact ha0 rfl
        · exact ha1 rfl
      refine bad ?_ ?_
      · simp only [f_X_rule, ha0, ha1, if_false, ite_self]
      · simp only [f_M_rule, z_within, Int32.toInt_toInt64, k0, k1, hw, if_false, Option.bind_some, if_true]
def zR7 (u : ZSt) : Prop := ∃ n : Nat, n ≤ 120 ∧ u.1 902 = nI n ∧ u.1 3914 = nI n ∧ ∀ k, k < n → ∃ b : Nat, b ≤ 255 ∧ u.2.1 10 k = nI b ∧ u.2.1 46 k = nI b
theorem o_feed {u : ZSt} (h : zR7 u) (a : Int32) : ∃ r u1 u2, f_X_feed a u = some (r, u1) ∧ f_M_feed a u1 = some (r, u2) ∧ zR7 u2 ∧ zfr [902, 3914] [10, 46] [] u u2 := by
  obtain ⟨n, hn, e1, e2, hs⟩ := id h
  simp only [f_X_feed, f_Reader_take, f_M_feed, z_within, Int32.toInt_toInt64, show (0 : Int64).toInt = 0 from rfl, show (255 : Int64).toInt = 255 from rfl, Option.bind_some, z_it]
  by_cases hC : 0 ≤ a.toInt ∧ a.toInt ≤ 255
  · obtain ⟨b, hb, rfl⟩ := z_le99 (n := 255) hC
    by_cases hn2 : n < 120
    · have hn3 : ¬ n = 120 := by omega
      refine ⟨nI (n + 1), zs (za u 10 n (nI b)) 902 (nI (n + 1)), zs (za (zs (za u 10 n (nI b)) 902 (nI (n + 1))) 46 n (nI b)) 3914 (nI (n + 1)), ?_, ?_, ?_, ?_⟩
      · simp (disch := omega) [fa_lit, nI_ltI, nI_leI, nI_eq, nI_add, pk_sub, zn_cl, zn_zin, e1, hn2, hb]
      · simp (disch := omega) [fa_lit, nI_ltI, nI_leI, nI_eq, nI_add, pk_sub, zn_cl, zn_zin, zs1, za1, e2, hn2, hn3, hC]
      · refine ⟨n + 1, by omega, rfl, rfl, fun k hk => ?_⟩
        by_cases e : k = n
        · exact ⟨b, hb, by simp [zs1, zs2, za1, za2, za3, zl1, zl2, zl3, zc1, zc2, zc3, zd1, zd2, zd3, upd1, e], by simp [zs1, zs2, za1, za2, za3, zl1, zl2, zl3, zc1, zc2, zc3, zd1, zd2, zd3, upd1, e]⟩
        · obtain ⟨g, g1, g2, g3⟩ := hs k (by omega)
          exact ⟨g, g1, by simp [zs1, zs2, za1, za2, za3, zl1, zl2, zl3, zc1, zc2, zc3, zd1, zd2, zd3, upd1, e, g2], by simp [zs1, zs2, za1, za2, za3, zl1, zl2, zl3, zc1, zc2, zc3, zd1, zd2, zd3, upd1, e, g3]⟩
      · exact ((((zfr_rf u).a _ (by decide)).s _ (by decide)).a _ (by decide)).s _ (by decide)
    · have hn3 : n = 120 := by omega
      subst hn3
      refine ⟨-3, u, u, ?_, ?_, h, zfr_rf u⟩
      · simp (disch := omega) [fa_lit, nI_ltI, nI_leI, nI_eq, nI_add, pk_sub, zn_cl, zn_zin, e1, hb]
      · simp (disch := omega) [fa_lit, nI_ltI, nI_leI, nI_eq, nI_add, pk_sub, zn_cl, zn_zin, e2, hC]
  · refine ⟨-1, u, u, ?_, ?_, h, zfr_rf u⟩
    · rcases z_int a with ha | ⟨j, hj, rfl⟩
      · have := zm_lt ha (n := 0) (by decide)
        simp (disch := omega) [fa_lit, nI_ltI, nI_leI, nI_eq, nI_add, pk_sub, zn_cl, zn_zin, this]
      · rw [nI_toInt hj] at hC
        have : ¬ j ≤ 255 := by omega
        simp (disch := omega) [fa_lit, nI_ltI, nI_leI, nI_eq, nI_add, pk_sub, zn_cl, zn_zin, this]
    · simp [hC]
/-- what led() tells -/
def zR9 (u : ZSt) : Prop := (∀ k, k < 5 → u.2.1 34 k = u.2.1 54 k) ∧ (∀ k, k < 5 → u.2.1 35 k = u.2.1 55 k) ∧ (u.2.1 34 5 = 0 ↔ u.2.1 54 0 = 0) ∧ (u.2.1 35 5 = 0 ↔ u.2.1 55 0 = 0) ∧ u.1 3302 = u.1 3931 ∧ (u.1 3302 = 0 ∨ u.1 3302 = 1)
theorem o_led {u : ZSt} (h : zR9 u) (a : Int32) : ∃ r, f_X_led a u = some r ∧ f_M_led a u = some r := by
  obtain ⟨h1, h2, h3, h4, h5, h6⟩ := h
  simp only [f_X_led, f_Deeds_isAny, f_Deeds_told, f_M_led, z_within, Int32.toInt_toInt64, show (0 : Int64).toInt = 0 from rfl, show (4 : Int64).toInt = 4 from rfl, Option.bind_some, z_it]
  by_cases hC : 0 ≤ a.toInt ∧ a.toInt ≤ 4
  · obtain ⟨k, hk, rfl⟩ := z_le99 (n := 4) hC
    have g5 : ¬ 6 ≤ k := by omega
    have g6 : k < 6 := by omega
    have g7 : k < 5 := by omega
    by_cases hk2 : 2 < k
    · have g8 : 3 ≤ k := by omega
      refine ⟨u.2.1 54 k, ?_, ?_⟩
      · simp (disch := omega) [fa_lit, nI_ltI, nI_leI, nI_eq, nI_add, pk_sub, zn_cl, zn_zin, hk, hk2, g5, g6, h1 k g7]
      · simp (disch := omega) [fa_lit, nI_ltI, nI_leI, nI_eq, nI_add, pk_sub, zn_cl, zn_zin, hC, g7, g8]
    · have g8 : ¬ 3 ≤ k := by omega
      by_cases hz : u.2.1 54 0 = 0
      · have hz2 := h3.mpr hz
        rw [fa_lit] at hz hz2
        refine ⟨-5, ?_, ?_⟩
        · simp (disch := omega) [fa_lit, nI_ltI, nI_leI, nI_eq, nI_add, pk_sub, zn_cl, zn_zin, hk, hk2, hz2]
        · simp (disch := omega) [fa_lit, nI_ltI, nI_leI, nI_eq, nI_add, pk_sub, zn_cl, zn_zin, hC, g8, hz]
      · have hz2 : ¬ u.2.1 34 5 = 0 := fun q => hz (h3.mp q)
        rw [fa_lit] at hz hz2
        refine ⟨u.2.1 54 k, ?_, ?_⟩
        · simp (disch := omega) [fa_lit, nI_ltI, nI_leI, nI_eq, nI_add, pk_sub, zn_cl, zn_zin, hk, hk2, hz2, g5, g6, h1 k g7]
        · simp (disch := omega) [fa_lit, nI_ltI, nI_leI, nI_eq, nI_add, pk_sub, zn_cl, zn_zin, hC, g7, g8, hz]
  · refine ⟨-1, ?_, ?_⟩
    · rcases z_int a with ha | ⟨j, hj, rfl⟩
      · have := zm_lt ha (n := 0) (by decide)
        simp (disch := omega) [fa_lit, nI_ltI, nI_leI, nI_eq, nI_add, pk_sub, zn_cl, zn_zin, this]
      · rw [nI_toInt hj] at hC
        have : ¬ j ≤ 4 := by omega
        simp (disch := omega) [fa_lit, nI_ltI, nI_leI, nI_eq, nI_add, pk_sub, zn_cl, zn_zin, this]
    · simp [hC]
theorem m_cp5 {B : Int32 → ZSt → Option ((Int32 × ZSt) ⊕ (Int32 × ZSt))} {q r : Nat} (hqr : q ≠ r) (hB : ∀ (l1 : Int32) (u : ZSt), B l1 u = if (5 : Int32) ≤ l1 then (some (.inr (l1, u))) else if zin l1 5 then (if zin l1 5 then (some (.inl ((l1 + (1 : Int32)), (za u r l1.toNatClampNeg (u.2.1 q l1.toNatClampNeg))))) else none) else none) (u : ZSt) :
    ∃ v, ziter (fun s => B s.1 s.2) zfu (0, u) = some (nI 5, v) ∧ (∀ k, k < 5 → v.2.1 r k = u.2.1 q k) ∧ zfr [] [r] [] u v := by
  obtain ⟨s, h1, h2⟩ := zit (B := fun s : Int32 × ZSt => B s.1 s.2) 5 (fun k s => s.1 = nI k ∧ (∀ i, i < k → s.2.2.1 r i = u.2.1 q i) ∧ zfr [] [r] [] u s.2)
    (fun s => s.1 = nI 5 ∧ (∀ i, i < 5 → s.2.2.1 r i = u.2.1 q i) ∧ zfr [] [r] [] u s.2) (by decide) (by
      rintro k ⟨i, v⟩ hk ⟨g1, g2, g3⟩
      dsimp only at g1 g2 g3 ⊢
      subst g1
      rw [hB]
      by_cases hk2 : k < 5
      · left
        have e1 : ¬ 5 ≤ k := by omega
        refine ⟨(nI (k + 1), za v r k (v.2.1 q k)), by simp (disch := omega) [fa_lit, nI_ltI, nI_leI, nI_eq, nI_add, pk_sub, zn_cl, zn_zin, e1, hk2], hk2, rfl, fun i hi => ?_, g3.a _ (by simp)⟩
        simp only [za2, if_true, upd1]
        by_cases e : i = k
        · subst e
          simp only [if_true]
          rw [g3.2.1 q (by simpa using hqr)]
        · simp only [e, if_false]
          exact g2 i (by omega)
      · right
        have e1 : k = 5 := by omega
        subst e1
        exact ⟨(nI 5, v), by simp (disch := omega) [fa_lit, nI_ltI, nI_leI, nI_eq, nI_add, pk_sub, zn_cl, zn_zin], rfl, g2, g3⟩) (s := (0, u)) ⟨rfl, fun i hi => by omega, zfr_rf u⟩
  obtain ⟨i, v⟩ := s
  obtain ⟨g1, g2, g3⟩ := h2
  dsimp only at g1 g2 g3
  subst g1
  exact ⟨v, h1, g2, g3⟩
theorem o_image {u : ZSt} (h : zR9 u) : ∃ r u1 u2, f_X_image u = some (r, u1) ∧ f_M_image u1 = some (r, u2) ∧ zR9 u2 ∧ zfr [3302, 3931] [35, 55] [] u u2 := by
  obtain ⟨h1, h2, h3, h4, h5, h6⟩ := h
  obtain ⟨v, e1, e2, e3⟩ := m_cp5 (B := b_M_image_5) (q := 54) (r := 55) (by decide) (fun _ _ => rfl) (zs (zs (zcp u 34 35 0 0 6) 3302 1) 3931 1)
  have c : ∀ k, k < 6 → (zs (zcp u 34 35 0 0 6) 3302 1).2.1 35 k = u.2.1 34 k := by
    intro k hk
    show va_cpy (u.2.1 34) (u.2.1 35) 0 0 6 k = _
    simp [va_cpy, hk]
  have e4 : zfr [3302, 3931] [35, 55] [] u v := (((zfr_rf u).c (by decide)).s _ (by decide)).s _ (by decide) |>.tr (e3.mono (by decide) (by decide) (by decide))
  refine ⟨u.2.1 34 3, zs (zcp u 34 35 0 0 6) 3302 1, v, ?_, ?_, ⟨?_, ?_, ?_, ?_, ?_, ?_⟩, e4⟩
  · simp only [f_X_image, f_Deeds_keepImage, f_Deeds_decided]
    simp (disch := omega) [fa_lit, nI_ltI, nI_leI, nI_eq, nI_add, pk_sub, zn_cl, zn_zin, zs1, zs2, za1, za2, za3, zl1, zl2, zl3, zc1, zc2, zc3, zd1, zd2, zd3]
  · have e1' : ziter (fun s => b_M_image_5 s.1 s.2) zfu (nI 0, zs (zs (zcp u 34 35 0 0 6) 3302 1) 3931 1) = some (nI 5, v) := e1
    have e5 : v.2.1 54 3 = u.2.1 34 3 := by rw [e4.ga 54]; exact (h1 3 (by decide)).symm
    simp only [f_M_image]
    have e6 : ziter (fun s => b_M_image_5 s.1 s.2) zfu (0, zs (zs (zcp u 34 35 0 0 6) 3302 1) 3931 1) = some (nI 5, v) := e1
    rw [e6]
    simp only [Option.bind_some, a_M_image_5, fa_lit, zn_cl (show (3 : Nat) < 2 ^ 31 by decide), e5]
  · intro k hk; rw [e4.ga 34, e4.ga 54]; exact h1 k hk
  · intro k hk
    rw [e2 k hk, e3.ga 35]
    exact (c k (by omega)).trans (h1 k hk)
  · rw [e4.ga 34, e4.ga 54]; exact h3
  · rw [e2 0 (by decide), e3.ga 35]
    rw [show (zs (zs (zcp u 34 35 0 0 6) 3302 1) 3931 1).2.1 35 5 = u.2.1 34 5 from c 5 (by decide)]
    exact h3
  · rw [e3.g 3302, e3.g 3931]; rfl
  · rw [e3.g 3302]; exact Or.inr rfl
theorem o_back {u : ZSt} (h : zR9 u) : ∃ r u1 u2, f_X_back u = some (r, u1) ∧ f_M_back u1 = some (r, u2) ∧ zR9 u2 ∧ zfr [3302, 3931] [34, 54] [] u u2 := by
  obtain ⟨h1, h2, h3, h4, h5, h6⟩ := id h
  rcases h6 with h6 | h6
  · have h7 : u.1 3931 = 0 := h5 ▸ h6
    refine ⟨-5, u, u, ?_, ?_, h, zfr_rf u⟩
    · simp [f_X_back, f_Deeds_goBack, h6]
    · simp [f_M_back, h7]
  · have h7 : u.1 3931 = 1 := h5 ▸ h6
    have c10 : ¬ (1 : Int32) = 0 := by decide
    obtain ⟨v, e1, e2, e3⟩ := m_cp5 (B := b_M_back_7) (q := 55) (r := 54) (by decide) (fun _ _ => rfl) (zcp u 35 34 0 0 6)
    have c : ∀ k, k < 6 → (zcp u 35 34 0 0 6).2.1 34 k = u.2.1 35 k := by
      intro k hk
      show va_cpy (u.2.1 35) (u.2.1 34) 0 0 6 k = _
      simp [va_cpy, hk]
    have e4 : zfr [3302, 3931] [34, 54] [] u v := ((zfr_rf u).c (by decide)) |>.tr (e3.mono (by decide) (by decide) (by decide))
    refine ⟨u.2.1 35 3, zcp u 35 34 0 0 6, v, ?_, ?_, ⟨?_, ?_, ?_, ?_, ?_, ?_⟩, e4⟩
    · simp only [f_X_back, f_Deeds_goBack, f_Deeds_decided, h6, c10, if_false, or_true, if_true, Option.bind_some]
      have e5 := c 3 (by decide)
      simp (disch := omega) [fa_lit, nI_ltI, nI_leI, nI_eq, nI_add, pk_sub, zn_cl, zn_zin, e5]
    · have e5 : v.2.1 54 3 = u.2.1 35 3 := by rw [e2 3 (by decide)]; exact (h2 3 (by decide)).symm
      simp only [f_M_back]
      rw [show (zcp u 35 34 0 0 6).1 3931 = 1 from h7, if_neg c10, e1]
      simp only [Option.bind_some, a_M_back_7, fa_lit, zn_cl (show (3 : Nat) < 2 ^ 31 by decide), e5]
    · intro k hk
      rw [e2 k hk, e3.ga 34]
      exact (c k (by omega)).trans (h2 k hk)
    · intro k hk; rw [e4.ga 35, e4.ga 55]; exact h2 k hk
    · rw [e2 0 (by decide), e3.ga 34, c 5 (by decide)]
      exact h4
    · rw [e4.ga 35, e4.ga 55]; exact h4
    · rw [e3.g 3302, e3.g 3931]; exact h5
    · rw [e3.g 3302]; exact Or.inr h6
