/-! decide -/
def zEn (r : Nat) (v : ZSt) (a b c x e : Int32) : ZSt := za (za (za (za (za v r 0 a) r 1 b) r 2 c) r 3 (v.2.1 r 3 ||| x)) r 4 (v.2.1 r 4 + e)
theorem zEn_v (r : Nat) (v : ZSt) (a b c x e : Int32) : (zEn r v a b c x e).2.1 r 0 = a ∧ (zEn r v a b c x e).2.1 r 1 = b ∧ (zEn r v a b c x e).2.1 r 2 = c ∧ (zEn r v a b c x e).2.1 r 3 = v.2.1 r 3 ||| x ∧ (zEn r v a b c x e).2.1 r 4 = v.2.1 r 4 + e := by
  refine ⟨?_, ?_, ?_, ?_, ?_⟩ <;> simp [zEn, za2, upd1]
theorem zEn_fr {r : Nat} {A : List Nat} {u v : ZSt} {S : List Nat} (h : zfr S A [] u v) (hr : r ∈ A) (a b c x e : Int32) : zfr S A [] u (zEn r v a b c x e) := ((((h.a _ hr).a _ hr).a _ hr).a _ hr).a _ hr
theorem o_decide {u : ZSt} {P M : Nat} {adj : Nat → Nat} (h : zRB u P M adj) (h9 : zR9 u) (a b : Int32) : ∃ r u1 u2, f_X_decide a b u = some (r, u1) ∧ f_M_decide a b u1 = some (r, u2) ∧ zR9 u2 ∧ zsd u u2 := by
  have hP := h.1.1
  have hM : M ≤ 10 := by have := h.2.1.1; omega
  have c10 : ¬ (1 : Int32) = 0 := by decide
  have x2 := x_isBundle hM h.2.1.2.1 a
  have x3 := x_isGifts hP h.1.2.1 b
  have m2 := m_isBundle hM h.2.1.2.2 a
  have m3 := m_areGifts hP h.1.2.2.1 b
  have e3 : u.2.1 34 3 = u.2.1 54 3 := h9.1 3 (by decide)
  by_cases ha : 1 ≤ a.toInt ∧ a.toInt < ((2 ^ M : Nat) : Int)
  · rw [if_pos ha] at x2 m2
    by_cases hb : 0 ≤ b.toInt ∧ b.toInt < ((2 ^ P : Nat) : Int)
    · rw [if_pos hb] at x3 m3
      by_cases hd : u.2.1 34 3 &&& a = 0
      · obtain ⟨B, hB1, hB2, rfl⟩ := z_bund ha
        obtain ⟨g, hg, rfl⟩ := z_pos hb
        have hB3 := z_1024 hM hB2
        have hg3 := z_1024 hP hg
        obtain ⟨v, v1, v2⟩ := x_car h (zfr_rf u) hB3 hg3
        have hf := x_fees h v2 hg
        have v34 : v.2.1 34 = u.2.1 34 := v2.ga 34
        have v54 : v.2.1 54 = u.2.1 54 := v2.ga 54
        generalize hc : zC u P M B g = C at *
        have hX : f_X_decide (nI B) (nI g) u = some (if C = true then 1 else 0, za (zEn 34 v (nI B) (nI g) (if C = true then 1 else 0) (if C = true then nI B else 0) (nI (zfs u P g))) 34 5 1) := by
          simp only [f_X_decide, f_X_isPut, x2, x3, Option.bind_some, c10, if_false, f_Deeds_decided, show (3 : Int32).toNatClampNeg = 3 from rfl, hd, if_true, v1]
          cases C with
          | true => simp only [if_true, c10, if_false, hf, Option.bind_some, f_Deeds_enter]; rfl
          | false => simp only [Bool.false_eq_true, if_true, if_false, hf, Option.bind_some, f_Deeds_enter]; rfl
        generalize hu1 : za (zEn 34 v (nI B) (nI g) (if C = true then 1 else 0) (if C = true then nI B else 0) (nI (zfs u P g))) 34 5 1 = u1 at hX
        have fr1 : zsd u u1 := by
          rw [← hu1]
          exact (zEn_fr v2.d (by decide) _ _ _ _ _).a _ (by decide)
        have k1 : u1.2.1 54 = u.2.1 54 := by
          rw [← hu1, za_k _ _ _ (by decide)]
          have := zEn_fr (A := [34]) (r := 34) (zfr_rf v : zfr [] [34] [] v v) (by decide) (nI B) (nI g) (if C = true then 1 else 0) (if C = true then nI B else 0) (nI (zfs u P g))
          rw [this.ga 54]; exact v54
        obtain ⟨w, w1, w2⟩ := m_card h fr1 hB3 hg3
        rw [hc] at w1
        have hB1' := h.sd fr1
        have fr2 : zsd u w := fr1.tr (w2.mono (by decide) (by decide) (by decide))
        have hw := h.sd fr2
        have m2' := m_isBundle hM hB1'.2.1.2.2 (nI B)
        have m3' := m_areGifts hP hB1'.1.2.2.1 (nI g)
        rw [if_pos ha] at m2'
        rw [if_pos hb] at m3'
        have hmf : ∀ c x : Int32, f_M_feesOf (nI g) (za (za (za (za w 54 ((0 : Int32).toNatClampNeg) (nI B)) 54 ((1 : Int32).toNatClampNeg) (nI g)) 54 ((2 : Int32).toNatClampNeg) c) 54 ((3 : Int32).toNatClampNeg) x) = some (nI (zfs u P g)) := by
          intro c x
          exact m_fees h hw.1.2.2.1 (fr2.ga 44) hg
        have hd2 : nI B &&& u1.2.1 54 (3 : Int32).toNatClampNeg = 0 := by
          show nI B &&& u1.2.1 54 3 = 0
          rw [k1, ← e3, Int32.and_comm]; exact hd
        have hMd : f_M_decide (nI B) (nI g) u1 = some ((zEn 54 w (nI B) (nI g) (if C = true then 1 else 0) (if C = true then nI B else 0) (nI (zfs u P g))).2.1 54 2, zEn 54 w (nI B) (nI g) (if C = true then 1 else 0) (if C = true then nI B else 0) (nI (zfs u P g))) := by
          simp only [f_M_decide, m2', m3', Option.bind_some, c10, if_false, hd2, if_true, w1]
          cases C with
          | true => simp only [if_true, c10, if_false, hmf, Option.bind_some]; rfl
          | false => simp only [Bool.false_eq_true, if_true, if_false, hmf, Option.bind_some]; rfl
        obtain ⟨g0, g1, g2, g3, g4⟩ := zEn_v 54 w (nI B) (nI g) (if C = true then 1 else 0) (if C = true then nI B else 0) (nI (zfs u P g))
        obtain ⟨p0, p1, p2, p3, p4⟩ := zEn_v 34 v (nI B) (nI g) (if C = true then 1 else 0) (if C = true then nI B else 0) (nI (zfs u P g))
        rw [g2] at hMd
        have w54 : w.2.1 54 = u.2.1 54 := (w2.ga 54).trans k1
        generalize hu2 : zEn 54 w (nI B) (nI g) (if C = true then 1 else 0) (if C = true then nI B else 0) (nI (zfs u P g)) = u2 at *
        have fr3 : zfr [] [54] [] w u2 := by rw [← hu2]; exact zEn_fr (zfr_rf w) (by decide) _ _ _ _ _
        have q34 : u2.2.1 34 = u1.2.1 34 := (fr3.ga 34).trans (w2.ga 34)
        have frd : zfr [1904, 3917, 3918, 3919, 3920, 3921, 3925] [18, 20, 21, 23, 24, 25, 26, 34, 48, 49, 50, 51, 52, 53, 54] [] u u2 := fr2.tr (fr3.mono (by decide) (by decide) (by decide))
        refine ⟨_, u1, u2, hX, hMd, ⟨?_, ?_, ?_, ?_, ?_, ?_⟩, frd⟩
        · intro k hk
          rw [q34, ← hu1]
          rcases (show k = 0 ∨ k = 1 ∨ k = 2 ∨ k = 3 ∨ k = 4 by omega) with rfl | rfl | rfl | rfl | rfl
          · rw [za_i _ _ _ (by decide), p0, g0]
          · rw [za_i _ _ _ (by decide), p1, g1]
          · rw [za_i _ _ _ (by decide), p2, g2]
          · rw [za_i _ _ _ (by decide), p3, g3, w54, v34, e3]
          · rw [za_i _ _ _ (by decide), p4, g4, w54, v34, h9.1 4 (by decide)]
        · rw [frd.ga 35, frd.ga 55]; exact h9.2.1
        · rw [q34, ← hu1, za_s, g0]
          have n1 : ¬ nI B = 0 := nI_ne0 (by omega) (by omega)
          exact ⟨fun q => absurd q c10, fun q => absurd q n1⟩
        · rw [frd.ga 35, frd.ga 55]; exact h9.2.2.2.1
        · rw [frd.g 3302, frd.g 3931]; exact h9.2.2.2.2.1
        · rw [frd.g 3302]; exact h9.2.2.2.2.2
      · refine ⟨-5, u, u, ?_, ?_, h9, zfr_rf u⟩
        · simp only [f_X_decide, f_X_isPut, x2, x3, Option.bind_some, c10, if_false, f_Deeds_decided, show (3 : Int32).toNatClampNeg = 3 from rfl, hd]
        · have hd2 : ¬ a &&& u.2.1 54 3 = 0 := by rw [← e3, Int32.and_comm]; exact hd
          simp only [f_M_decide, m2, m3, Option.bind_some, c10, if_false, show (3 : Int32).toNatClampNeg = 3 from rfl, hd2]
    · rw [if_neg hb] at x3 m3
      refine ⟨-1, u, u, ?_, ?_, h9, zfr_rf u⟩
      · simp only [f_X_decide, f_X_isPut, x2, x3, Option.bind_some, c10, if_false, if_true]
      · simp only [f_M_decide, m2, m3, Option.bind_some, c10, if_false, if_true]
  · rw [if_neg ha] at x2 m2
    refine ⟨-1, u, u, ?_, ?_, h9, zfr_rf u⟩
    · simp only [f_X_decide, f_X_isPut, x2, Option.bind_some, if_true]
    · simp only [f_M_decide, m2, Option.bind_some, if_true]
