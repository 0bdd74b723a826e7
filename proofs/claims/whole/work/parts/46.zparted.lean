/-! parted: both sides -/
theorem x_car2 {u v : ZSt} {P M : Nat} {adj : Nat → Nat} (h : zRB u P M adj) (hv : zsc u v) {b g : Nat} (hb : b < 1024) (hg : g < 1024) : ∃ v', f_Ballot_isCarried (nI b) (nI g) v = some (if zC u P M b g = true then 1 else 0, v') ∧ zsc u v' ∧ zfr [1904] [18, 20, 21] [] v v' := by
  obtain ⟨v', e1, e2⟩ := (zW_ok h hb hb hg).2.1 v hv
  obtain ⟨e3, e4⟩ := x_lean h e2 hb
  refine ⟨v', ?_, e2, x_who_fr h hb hb hg hv e1⟩
  simp only [f_Ballot_isCarried, e1, e3, e4, Option.bind_some, x_carBy h e2 (zW_lt h hb hb hg)]
  rfl
theorem m_car2 {u v : ZSt} {P M : Nat} {adj : Nat → Nat} (h : zRB u P M adj) (hv : zsc u v) {b g : Nat} (hb : b < 1024) (hg : g < 1024) : ∃ v', f_M_isCarried (nI b) (nI g) v = some (if zC u P M b g = true then 1 else 0, v') ∧ zsc u v' ∧ zfr [3917, 3918, 3919, 3920, 3921, 3925] [48, 49, 50] [] v v' := by
  obtain ⟨v', e1, e2, e3⟩ := (zW_ok h hb hb hg).2.2 v hv
  refine ⟨v', ?_, e3.1, m_asks_fr h hb hb hg hv e1⟩
  simp only [f_M_isCarried, e1, Option.bind_some, e2, m_carBy h e3.d (zW_lt h hb hb hg)]
  rfl
noncomputable def zgai (u : ZSt) (P M b : Nat) : Nat := if zC u P M b 0 = true then zpop b else 0
theorem zgai_le (u : ZSt) (P M b : Nat) : zgai u P M b ≤ 10 := by
  unfold zgai
  split
  · exact zpop_le b
  · exact Nat.zero_le _
theorem zRp.fr {G : Nat → Nat} {a b k : Nat} {u v : ZSt} (h : zRp G a b k u) (h1 : v.2.1 a = u.2.1 a) (h2 : v.2.1 b = u.2.1 b) : zRp G a b k v := by
  unfold zRp; rw [h1, h2]; exact h
theorem zRp.nx {G : Nat → Nat} {a b k : Nat} {v : ZSt} (h : zRp G a b k v) (h2 : zRx a b k (some (zmst G k, zfst G k)) v) : zRp G a b (k + 1) v := by
  obtain ⟨g1, g2, g3⟩ := h2
  refine ⟨fun i hi => ?_, fun i hi hi2 => ?_⟩
  · by_cases e : i = k
    · subst e; exact g1
    · exact h.1 i (by omega)
  · by_cases e : i = k
    · subst e; exact g2
    · exact h.2 i hi (by omega)
theorem x_part {u v0 : ZSt} {P M : Nat} {adj : Nat → Nat} (h : zRB u P M adj) (hv0 : zsc u v0) : ∃ v, f_Finder_part v0 = some v ∧ zsc u v ∧ zRp (zgai u P M) 24 25 (2 ^ M) v := by
  have hM := h.2.1.1
  have hM10 : M ≤ 10 := by omega
  have c10 : ¬ (1 : Int32) = 0 := by decide
  have hp := z_pow hM10 (Nat.le_refl _)
  have hp64 : 2 ^ M ≤ 64 := (Nat.pow_le_pow_right (by decide) hM : 2 ^ M ≤ 2 ^ 6)
  obtain ⟨v, v1, v2, v3, -⟩ := zit_f (B := fun s : Int32 × ZSt => b_Finder_part_11 (nI (2 ^ M - 1)) s.1 s.2) (α := Unit) (fun k _ v => (nI k, v)) (fun _ v => (nI (2 ^ M), v))
    (fun k _ v => zsc u v ∧ zRp (zgai u P M) 24 25 k v ∧ ∀ i, 1 ≤ i → i < k → v.2.1 26 i = nI (zgai u P M i)) (fun _ x => x) (a := 1) (n := 2 ^ M) (x := ()) (v := za v0 24 0 0) hp.1 (by omega)
    (by
      rintro k - v hk1 hk ⟨hv, hR, h26⟩
      have hk3 : k < 1024 := by omega
      have n1 : ¬ nI (2 ^ M - 1) < nI k := by rw [nI_ltI (by omega) (by omega)]; omega
      have n2 : ¬ (64 : Int32) ≤ nI k := by rw [show (64 : Int32) = nI 64 from rfl, nI_leI (by decide) (by omega)]; omega
      obtain ⟨y, y1, y2, y3⟩ := x_car2 h hv hk3 (g := 0) (by decide)
      have y1' : f_Ballot_isCarried (nI k) 0 v = some (if zC u P M k 0 = true then 1 else 0, y) := y1
      have hl := zlb_le hk3 (by omega)
      have z64 : zin (nI k) 64 := zn_zin (by omega) (by decide)
      have ck : (nI k).toNatClampNeg = k := zn_cl (by omega)
      obtain ⟨f, f1, -⟩ := zmst_eq (zgai u P M) hk3 (show 0 < k by omega)
      rw [zfo_low _ _ hk3 (show 0 < k by omega)] at f1
      have hz := zit_f (B := fun s : Int32 × ZSt => b_Finder_part_43 (nI (2 ^ M - 1)) (nI k) (nI k &&& (-nI k)) s.1 s.2) (fun c _ v => (nI c, v)) (fun _ v => (nI (k + 1), v))
        (fun c x v => zsc u v ∧ zRp (zgai u P M) 24 25 k v ∧ zRx 24 25 k x v ∧ ∀ i, 1 ≤ i → i < k + 1 → v.2.1 26 i = nI (zgai u P M i)) (zps (zgai u P M) (zmst (zgai u P M)) k) (a := 2 ^ zlb k) (n := k + 1) (x := none) (v := za (za y 26 k (nI (zgai u P M k))) 24 k (-1)) (Nat.le_succ_of_le hl) (Nat.lt_of_le_of_lt (Nat.sub_le _ _) (show k + 1 < 1048576 by omega))
        (by
          rintro c x w hc1 hc ⟨hw, hR2, hX, h26'⟩
          have hc3 : c < 1024 := by omega
          have hc0 : 1 ≤ c := Nat.le_trans (Nat.two_pow_pos _) hc1
          have n3 : ¬ nI k < nI c := by rw [nI_ltI (by omega) (by omega)]; omega
          obtain ⟨q1, q2⟩ := z_pscond hk3 (show 0 < k by omega) hc3
          have qi := zPs_iff k c
          obtain ⟨w', e1, e2, e3, e4⟩ := z_pstep (zgai_le u P M) (a := 24) (b := 25) (by decide) (show k < 64 by omega) (show 0 < k by omega) hc0 (by omega) hR2 hX (fun w => (Sum.inl (nI (c + 1), w) : (Int32 × ZSt) ⊕ (Int32 × ZSt)))
          refine ⟨w', ?_, hw.tr (e2.mono (by decide) (by decide) (by decide)), e3, e4, by rw [e2.ga 26]; exact h26'⟩
          rw [← e1, if_pos rfl]
          simp only [b_Finder_part_43, n3, if_false, q1, q2, zif (zn_zin (show c < 64 by omega) (show 64 < 2 ^ 31 by decide)), zn_cl (show c < 2 ^ 31 by omega), zif z64, ck, h26' c hc0 hc, nI_1, z_andn hk3]
          by_cases g1 : c &&& (k ^^^ 1023) = 0
          · by_cases g2 : c &&& 2 ^ zlb k = 0
            · have : ¬ zPs k c = true := fun q => (qi.mp q).2 g2
              rw [if_pos g1, if_pos g2, if_neg this]
            · have hq : zPs k c = true := qi.mpr ⟨g1, g2⟩
              have hlt := zPs_lt hk3 (show 0 < k by omega) hq
              rw [if_pos g1, if_neg g2, if_pos hq, zif (zn_zin (show k &&& (c ^^^ 1023) < 64 by omega) (show 64 < 2 ^ 31 by decide)), zn_cl (show k &&& (c ^^^ 1023) < 2 ^ 31 by omega)]
          · have : ¬ zPs k c = true := fun q => g1 (qi.mp q).1
            rw [if_neg g1, if_neg this])
        (by
          rintro x w -
          have n3 : nI k < nI (k + 1) := by rw [nI_ltI (by omega) (by omega)]; omega
          simp only [b_Finder_part_43, n3, if_true])
        ⟨(y2.a _ (by decide)).a _ (by decide), by
          refine ⟨fun i hi => ?_, fun i hi hi2 => ?_⟩
          · rw [za_i _ _ _ (by omega), za_k _ _ _ (by decide), y3.ga 24]; exact hR.1 i hi
          · rw [za_k _ _ _ (by decide), za_k _ _ _ (by decide), y3.ga 25]; exact hR.2 i hi hi2, by
          show (za (za y 26 k (nI (zgai u P M k))) 24 k (-1)).2.1 24 k = -1
          rw [za_s], fun i hi hi2 => by
          rw [za_k _ _ _ (by decide)]
          by_cases e : i = k
          · rw [e, za_s]
          · rw [za_i _ _ _ e, y3.ga 26]; exact h26 i hi (by omega)⟩
      rw [f1] at hz
      obtain ⟨z, z1, z2, z3, z4, z5⟩ := hz
      refine ⟨z, ?_, z2, z3.nx z4, z5⟩
      have z1' : ∀ q : Int32, q = nI (zgai u P M k) → ziter (fun s : Int32 × ZSt => b_Finder_part_43 (nI (2 ^ M - 1)) (nI k) (nI k &&& (-nI k)) s.1 s.2) zfu (nI k &&& (-nI k), za (za y 26 k q) 24 k (-1)) = some (nI (k + 1), z) := by
        intro q hq
        rw [hq, (z_low k hk3 (by omega)).2.1, ← (z_low k hk3 (by omega)).2.1]
        rw [← (z_low k hk3 (by omega)).2.1] at z1
        exact z1
      simp only [b_Finder_part_11, n1, n2, if_false, y1', Option.bind_some, zif z64, ck, z_pcx k hk3]
      by_cases e : zC u P M k 0 = true
      · have e1 := z1' (nI (zpop k)) (by unfold zgai; rw [if_pos e])
        simp only [e, if_true, c10, if_false, e1, Option.bind_some, a_Finder_part_43, nI_1]
      · have e1 := z1' 0 (by unfold zgai; rw [if_neg e]; rfl)
        simp only [e, if_true, if_false, e1, Option.bind_some, a_Finder_part_43, nI_1, Bool.false_eq_true])
    (by
      rintro - v -
      have n1 : nI (2 ^ M - 1) < nI (2 ^ M) := by rw [nI_ltI (by omega) (by omega)]; omega
      simp only [b_Finder_part_11, n1, if_true])
    ⟨hv0.a _ (by decide), ⟨fun i hi => by
      have : i = 0 := by omega
      subst this
      rw [za_s, zmst_0]; rfl, fun i hi hi2 => by omega⟩, fun i hi hi2 => by omega⟩
  refine ⟨v, ?_, v2, v3⟩
  have v1' : ziter (fun s : Int32 × ZSt => b_Finder_part_11 (nI (2 ^ M - 1)) s.1 s.2) zfu (1, za v0 24 ((0 : Int32).toNatClampNeg) 0) = some (nI (2 ^ M), v) := v1
  simp only [f_Finder_part, f_Council_everything, (h.sc hv0).2.1.2.1, x_all' (u := u) hM10, Option.bind_some, v1', a_Finder_part_11]
theorem m_part {u v0 : ZSt} {P M : Nat} {adj : Nat → Nat} (h : zRB u P M adj) (hv0 : zsc u v0) : ∃ v, f_M_parts v0 = some v ∧ zsc u v ∧ zRp (zgai u P M) 52 53 (2 ^ M) v := by
  have hM := h.2.1.1
  have hM10 : M ≤ 10 := by omega
  have c10 : ¬ (1 : Int32) = 0 := by decide
  have hp := z_pow hM10 (Nat.le_refl _)
  have hp64 : 2 ^ M ≤ 64 := (Nat.pow_le_pow_right (by decide) hM : 2 ^ M ≤ 2 ^ 6)
  obtain ⟨w, w1, w2, w3, w4⟩ := zit_f (B := fun s : Int32 × ZSt => b_M_parts_7 s.1 s.2) (α := Unit) (fun k _ v => (nI k, v)) (fun _ v => (nI (2 ^ M), v))
    (fun k _ v => zsc u v ∧ v.2.1 52 0 = 0 ∧ ∀ i, 1 ≤ i → i < k → v.2.1 51 i = if zC u P M i 0 = true then 1 else 0) (fun _ x => x) (a := 1) (n := 2 ^ M) (x := ()) (v := za v0 52 0 0) hp.1 (by omega)
    (by
      rintro k - v hk1 hk ⟨hv, h52, h51⟩
      have hk3 : k < 1024 := by omega
      have n1 : ¬ nI (2 ^ M) ≤ nI k := by rw [nI_leI (by omega) (by omega)]; omega
      obtain ⟨y, y1, y2, y3⟩ := m_car2 h hv hk3 (g := 0) (by decide)
      have y1' : f_M_isCarried (nI k) 0 v = some (if zC u P M k 0 = true then 1 else 0, y) := y1
      refine ⟨za y 51 k (if zC u P M k 0 = true then 1 else 0), ?_, y2.a _ (by decide), ?_, fun i hi hi2 => ?_⟩
      · simp only [b_M_parts_7, (h.sc hv).2.1.2.2, zn_p (show M < 32 by omega), n1, if_false, y1', Option.bind_some, zif (zn_zin (show k < 64 by omega) (show 64 < 2 ^ 31 by decide)), zn_cl (show k < 2 ^ 31 by omega), nI_1]
      · rw [za_k _ _ _ (by decide), y3.ga 52]; exact h52
      · by_cases e : i = k
        · rw [e, za_s]
        · rw [za_i _ _ _ e, y3.ga 51]; exact h51 i hi (by omega))
    (by
      rintro - v ⟨hv, -⟩
      have n1 : nI (2 ^ M) ≤ nI (2 ^ M) := by rw [nI_leI (by omega) (by omega)]; exact Nat.le_refl _
      simp only [b_M_parts_7, (h.sc hv).2.1.2.2, zn_p (show M < 32 by omega), n1, if_true])
    ⟨hv0.a _ (by decide), za_s _ _ _ _, fun i hi hi2 => by omega⟩
  obtain ⟨v, v1, v2, v3, -⟩ := zit_f (B := fun s : Int32 × ZSt => b_M_parts_25 s.1 s.2) (α := Unit) (fun k _ v => (nI k, v)) (fun _ v => (nI (2 ^ M), v))
    (fun k _ v => zsc u v ∧ zRp (zgai u P M) 52 53 k v ∧ ∀ i, 1 ≤ i → i < 2 ^ M → v.2.1 51 i = if zC u P M i 0 = true then 1 else 0) (fun _ x => x) (a := 1) (n := 2 ^ M) (x := ()) (v := w) hp.1 (by omega)
    (by
      rintro k - v hk1 hk ⟨hv, hR, h51⟩
      have hk3 : k < 1024 := by omega
      have n1 : ¬ nI (2 ^ M) ≤ nI k := by rw [nI_leI (by omega) (by omega)]; omega
      have z64 : zin (nI k) 64 := zn_zin (by omega) (by decide)
      have ck : (nI k).toNatClampNeg = k := zn_cl (by omega)
      obtain ⟨z, z1, z2, z3, z4, z5⟩ := zit_f (B := fun s : Int32 × ZSt => b_M_parts_43 (nI k) (nI k &&& (-nI k)) s.1 s.2) (fun c _ v => (nI c, v)) (fun _ v => (nI (k + 1), v))
        (fun c x v => zsc u v ∧ zRp (zgai u P M) 52 53 k v ∧ zRx 52 53 k x v ∧ ∀ i, 1 ≤ i → i < 2 ^ M → v.2.1 51 i = if zC u P M i 0 = true then 1 else 0) (zps (zgai u P M) (zmst (zgai u P M)) k) (a := 1) (n := k + 1) (x := none) (v := za v 52 k (-1)) (by omega) (by omega)
        (by
          rintro c x w hc1 hc ⟨hw, hR2, hX, h51'⟩
          have hc3 : c < 1024 := by omega
          have n3 : ¬ nI k < nI c := by rw [nI_ltI (by omega) (by omega)]; omega
          obtain ⟨q1, q2⟩ := z_pscond hk3 (show 0 < k by omega) hc3
          have qi := zPs_iff k c
          obtain ⟨w', e1, e2, e3, e4⟩ := z_pstep (zgai_le u P M) (a := 52) (b := 53) (by decide) (show k < 64 by omega) (show 0 < k by omega) hc1 (by omega) hR2 hX (fun w => (Sum.inl (nI (c + 1), w) : (Int32 × ZSt) ⊕ (Int32 × ZSt)))
          refine ⟨w', ?_, hw.tr (e2.mono (by decide) (by decide) (by decide)), e3, e4, by rw [e2.ga 51]; exact h51'⟩
          rw [← e1, if_pos rfl]
          simp only [b_M_parts_43, n3, if_false, q1, q2, zif (zn_zin (show c < 64 by omega) (show 64 < 2 ^ 31 by decide)), zn_cl (show c < 2 ^ 31 by omega), zif z64, ck, h51' c hc1 (by omega), nI_1, z_andn hk3, m_bits hc3, Option.bind_some]
          by_cases g1 : c &&& (k ^^^ 1023) = 0
          · by_cases g2 : c &&& 2 ^ zlb k = 0
            · have : ¬ zPs k c = true := fun q => (qi.mp q).2 g2
              rw [if_pos g1, if_pos g2, if_neg this]
            · have hq : zPs k c = true := qi.mpr ⟨g1, g2⟩
              have hlt := zPs_lt hk3 (show 0 < k by omega) hq
              have zi := zn_zin (show k &&& (c ^^^ 1023) < 64 by omega) (show 64 < 2 ^ 31 by decide)
              have ci := zn_cl (show k &&& (c ^^^ 1023) < 2 ^ 31 by omega)
              rw [if_pos g1, if_neg g2, if_pos hq]
              by_cases e : zC u P M c 0 = true
              · have eg : zgai u P M c = zpop c := by unfold zgai; rw [if_pos e]
                simp only [e, if_true, c10, if_false, zif zi, ci, eg]
              · have eg : nI (zgai u P M c) = 0 := by unfold zgai; rw [if_neg e]; rfl
                simp only [e, if_true, if_false, zif zi, ci, eg, Bool.false_eq_true]
          · have : ¬ zPs k c = true := fun q => g1 (qi.mp q).1
            rw [if_neg g1, if_neg this])
        (by
          rintro x w -
          have n3 : nI k < nI (k + 1) := by rw [nI_ltI (by omega) (by omega)]; omega
          simp only [b_M_parts_43, n3, if_true])
        ⟨hv.a _ (by decide), by
          refine ⟨fun i hi => ?_, fun i hi hi2 => ?_⟩
          · rw [za_i _ _ _ (by omega)]; exact hR.1 i hi
          · rw [za_k _ _ _ (by decide)]; exact hR.2 i hi hi2, by
          show (za v 52 k (-1)).2.1 52 k = -1
          rw [za_s], fun i hi hi2 => by
          rw [za_k _ _ _ (by decide)]; exact h51 i hi hi2⟩
      obtain ⟨f, f1, -⟩ := zmst_eq (zgai u P M) hk3 (show 0 < k by omega)
      rw [show k + 1 - 1 = k by omega, f1] at z4
      refine ⟨z, ?_, z2, z3.nx z4, z5⟩
      have z1' : ziter (fun s : Int32 × ZSt => b_M_parts_43 (nI k) (nI k &&& (-nI k)) s.1 s.2) zfu (1, za v 52 k (-1)) = some (nI (k + 1), z) := z1
      simp only [b_M_parts_25, (h.sc hv).2.1.2.2, zn_p (show M < 32 by omega), n1, if_false, zif z64, ck, z1', Option.bind_some, a_M_parts_43, nI_1])
    (by
      rintro - v ⟨hv, -⟩
      have n1 : nI (2 ^ M) ≤ nI (2 ^ M) := by rw [nI_leI (by omega) (by omega)]; exact Nat.le_refl _
      simp only [b_M_parts_25, (h.sc hv).2.1.2.2, zn_p (show M < 32 by omega), n1, if_true])
    ⟨w2, ⟨fun i hi => by
      have : i = 0 := by omega
      subst this
      rw [w3, zmst_0]; rfl, fun i hi hi2 => by omega⟩, w4⟩
  refine ⟨v, ?_, v2, v3⟩
  have w1' : ziter (fun s : Int32 × ZSt => b_M_parts_7 s.1 s.2) zfu (1, za v0 52 ((0 : Int32).toNatClampNeg) 0) = some (nI (2 ^ M), w) := w1
  have v1' : ziter (fun s : Int32 × ZSt => b_M_parts_25 s.1 s.2) zfu (1, w) = some (nI (2 ^ M), v) := v1
  simp only [f_M_parts, w1', Option.bind_some, a_M_parts_7, v1', a_M_parts_25]
theorem zcn_lt {A B : Nat → Bool} (hAB : ∀ i, A i = true → B i = true) {j : Nat} (hj : B j = true) (hj2 : ¬ A j = true) : ∀ {n : Nat}, zcn A n ≤ zcn B n ∧ (j < n → zcn A n < zcn B n) := by
  intro n
  induction n with
  | zero => exact ⟨Nat.le_refl _, fun h => absurd h (Nat.not_lt_zero _)⟩
  | succ n ih =>
    rw [zcn, zcn]
    by_cases e : A n = true
    · rw [if_pos e, if_pos (hAB n e)]
      refine ⟨by omega, fun h => ?_⟩
      have : j ≠ n := fun q => hj2 (q ▸ e)
      have := ih.2 (by omega)
      omega
    · rw [if_neg e]
      by_cases q : j = n
      · rw [if_pos (q ▸ hj)]; exact ⟨by omega, fun _ => by omega⟩
      · refine ⟨?_, fun h => ?_⟩
        · split <;> omega
        · have := ih.2 (by omega)
          split <;> omega
theorem z_follow {G : Nat → Nat} {M m : Nat} (hM : M ≤ 6) (hm : m < M) : ∀ d s, s < 2 ^ M → s.testBit m = true → zpop s ≤ d →
    ∃ q, 1 ≤ q ∧ q < 2 ^ M ∧ (∀ v i F, zRp G 24 25 (2 ^ M) v → i + d ≤ 6 → d < F → ziter (fun x : Int32 × Int32 => b_Finder_partOf_6 (nI m) x.1 x.2 v) F (nI s, nI i) = some (.inr (nI (zfst G q)))) ∧ (∀ v F, zRp G 52 53 (2 ^ M) v → d < F → ziter (fun x : Int32 => b_M_parted_26 (nI m) x v) F (nI s) = some (nI q)) := by
  have hp64 : 2 ^ M ≤ 64 := (Nat.pow_le_pow_right (by decide) hM : 2 ^ M ≤ 2 ^ 6)
  have c10 : ¬ (1 : Int32) = 0 := by decide
  intro d
  induction d with
  | zero =>
    intro s hs hb hd
    exfalso
    rw [zpop_cn] at hd
    have := zcn_mono (A := fun i => s.testBit i) (show m + 1 ≤ 10 by omega)
    rw [zcn_y (A := fun i => s.testBit i) hb] at this
    omega
  | succ d ih =>
    intro s hs hb hd
    have hs3 : s < 1024 := by omega
    have h0 : 0 < s := by
      rcases Nat.eq_zero_or_pos s with e | e
      · rw [e] at hb; simp at hb
      · exact e
    obtain ⟨f, -, f2, f3, f4⟩ := zmst_eq G hs3 h0
    subst f2
    have n2 : ¬ nI s ≤ 0 := by rw [show (0 : Int32) = nI 0 from rfl, nI_leI (by omega) (by decide)]; omega
    have n3 : ¬ (64 : Int32) ≤ nI s := by rw [show (64 : Int32) = nI 64 from rfl, nI_leI (by decide) (by omega)]; omega
    have z64 : zin (nI s) 64 := zn_zin (by omega) (by decide)
    have cs : (nI s).toNatClampNeg = s := zn_cl (by omega)
    have stX : ∀ v i, zRp G 24 25 (2 ^ M) v → i + (d + 1) ≤ 6 → b_Finder_partOf_6 (nI m) (nI s) (nI i) v = if (zfst G s).testBit m = true then some (.inr (.inr (nI (zfst G s)))) else some (.inl (nI (s &&& (zfst G s ^^^ 1023)), nI (i + 1))) := by
      intro v i hv hi
      have n1 : ¬ (6 : Int32) ≤ nI i := by rw [show (6 : Int32) = nI 6 from rfl, nI_leI (by decide) (by omega)]; omega
      simp only [b_Finder_partOf_6, n1, n2, n3, if_false, zif z64, cs, hv.2 s h0 hs, zb_u (show zfst G s < 2 ^ 31 by omega) (show m < 32 by omega), z_andn hs3, nI_1]
      by_cases e : (zfst G s).testBit m = true
      · rw [if_pos e, if_neg c10, if_pos e]
      · rw [if_neg e, if_pos rfl, if_neg e]
    have stM : ∀ v, zRp G 52 53 (2 ^ M) v → b_M_parted_26 (nI m) (nI s) v = if (zfst G s).testBit m = true then some (.inr (nI s)) else some (.inl (nI (s &&& (zfst G s ^^^ 1023)))) := by
      intro v hv
      simp only [b_M_parted_26, zif z64, cs, hv.2 s h0 hs, m_isIn (show zfst G s < 2 ^ 31 by omega) (show m < 32 by omega), Option.bind_some, z_andn hs3]
      by_cases e : (zfst G s).testBit m = true
      · rw [if_pos e, if_neg c10, if_pos e]
      · rw [if_neg e, if_pos rfl, if_neg e]
    by_cases e : (zfst G s).testBit m = true
    · refine ⟨s, h0, hs, fun v i F hv hi hF => ?_, fun v F hv hF => ?_⟩
      · obtain ⟨F, rfl⟩ := Nat.exists_eq_succ_of_ne_zero (show F ≠ 0 by omega)
        exact ziter_r ((stX v i hv hi).trans (if_pos e))
      · obtain ⟨F, rfl⟩ := Nat.exists_eq_succ_of_ne_zero (show F ≠ 0 by omega)
        exact ziter_r ((stM v hv).trans (if_pos e))
    · have hfb := (zPs_b f3).1
      have hb2 : (s &&& (zfst G s ^^^ 1023)).testBit m = true := by
        rw [Nat.testBit_and, Nat.testBit_xor, show (1023 : Nat) = 2 ^ 10 - 1 from rfl, Nat.testBit_two_pow_sub_one, hb]
        simp [e, show m < 10 by omega]
      have hlt : zpop (s &&& (zfst G s ^^^ 1023)) < zpop s := by
        rw [zpop_cn, zpop_cn]
        refine (zcn_lt (A := fun i => (s &&& (zfst G s ^^^ 1023)).testBit i) (B := fun i => s.testBit i) (fun i hi => ?_) (j := zlb s) (zlb_tb hs3 h0) ?_).2 (z_low s hs3 h0).2.2
        · rw [Nat.testBit_and, Bool.and_eq_true] at hi
          exact hi.1
        · rw [Nat.testBit_and, Nat.testBit_xor, show (1023 : Nat) = 2 ^ 10 - 1 from rfl, Nat.testBit_two_pow_sub_one, hfb]
          simp [(z_low s hs3 h0).2.2]
      obtain ⟨q, q1, q2, q3, q4⟩ := ih (s &&& (zfst G s ^^^ 1023)) (Nat.lt_of_le_of_lt Nat.and_le_left hs) hb2 (by omega)
      refine ⟨q, q1, q2, fun v i F hv hi hF => ?_, fun v F hv hF => ?_⟩
      · obtain ⟨F, rfl⟩ := Nat.exists_eq_succ_of_ne_zero (show F ≠ 0 by omega)
        exact (ziter_l (B := fun x : Int32 × Int32 => b_Finder_partOf_6 (nI m) x.1 x.2 v) (s := (nI s, nI i)) ((stX v i hv hi).trans (if_neg e))).trans (q3 v (i + 1) F hv (by omega) (by omega))
      · obtain ⟨F, rfl⟩ := Nat.exists_eq_succ_of_ne_zero (show F ≠ 0 by omega)
        exact (ziter_l (B := fun x : Int32 => b_M_parted_26 (nI m) x v) (s := nI s) ((stM v hv).trans (if_neg e))).trans (q4 v F hv (by omega))
theorem o_parted {u : ZSt} {P M : Nat} {adj : Nat → Nat} (h : zRB u P M adj) (a : Int32) : ∃ r u1 u2, f_X_parted a u = some (r, u1) ∧ f_M_parted a u1 = some (r, u2) ∧ zsc u u2 := by
  have hM := h.2.1.1
  have hM10 : M ≤ 10 := by omega
  have c10 : ¬ (1 : Int32) = 0 := by decide
  have hp := z_pow hM10 (Nat.le_refl _)
  have hp64 : 2 ^ M ≤ 64 := (Nat.pow_le_pow_right (by decide) hM : 2 ^ M ≤ 2 ^ 6)
  have x1 := x_isMatter hM10 h.2.1.2.1 a
  have m1 := m_isMatter hM10 h.2.1.2.2 a
  obtain ⟨v, v1, v2, v3⟩ := x_part h (zfr_rf u)
  obtain ⟨w, w1, w2, w3⟩ := m_part h v2
  have hv := h.sc v2
  have hw := h.sc w2
  have z64 : zin (nI (2 ^ M - 1)) 64 := zn_zin (by omega) (by decide)
  have cs : (nI (2 ^ M - 1)).toNatClampNeg = 2 ^ M - 1 := zn_cl (by omega)
  by_cases ha1 : a = -1
  · subst ha1
    have n64 : ¬ (64 : Int32) ≤ nI (2 ^ M - 1) := by rw [show (64 : Int32) = nI 64 from rfl, nI_leI (by decide) (by omega)]; omega
    refine ⟨nI (zmst (zgai u P M) (2 ^ M - 1)), v, w, ?_, ?_, w2⟩
    · simp only [f_X_parted, if_true, v1, Option.bind_some, f_Finder_mostCarried, f_Council_everything, hv.2.1.2.1, x_all' (u := u) hM10, n64, if_false, zif z64, cs, v3.1 (2 ^ M - 1) (by omega)]
    · simp only [f_M_parted, if_true, w1, Option.bind_some, hw.2.1.2.2, x_all' (u := u) hM10, zif z64, cs, w3.1 (2 ^ M - 1) (by omega)]
  · by_cases ha : 0 ≤ a.toInt ∧ a.toInt < M
    · rw [if_pos ha] at x1 m1
      obtain ⟨m, hm, rfl⟩ := z_pos ha
      have m1' := m_isMatter hM10 hv.2.1.2.2 (nI m)
      rw [if_pos ha] at m1'
      obtain ⟨q, q1, q2, q3, q4⟩ := z_follow (G := zgai u P M) hM hm 6 (2 ^ M - 1) (by omega) (by rw [Nat.testBit_two_pow_sub_one]; simpa using hm) (by
        rw [zpop_cn]
        have e : zcn (fun i => (2 ^ M - 1).testBit i) 10 = zpop (zbits (fun _ => true) M) := by
          rw [zpop_cn]
          congr 1
          funext i
          rw [zbits_tb, Nat.testBit_two_pow_sub_one, Bool.and_true]
        rw [e, zpop_bits _ hM10]
        exact Nat.le_trans (zcn_le _ M) hM)
      have q3' : ziter (fun x : Int32 × Int32 => b_Finder_partOf_6 (nI m) x.1 x.2 v) zfu (nI (2 ^ M - 1), 0) = some (.inr (nI (zfst (zgai u P M) q))) := q3 v 0 zfu v3 (by decide) (by rw [zfu_eq]; decide)
      have q4' := q4 w zfu w3 (by rw [zfu_eq]; decide)
      refine ⟨nI (zfst (zgai u P M) q), v, w, ?_, ?_, w2⟩
      · simp only [f_X_parted, ha1, if_false, x1, Option.bind_some, c10, v1, f_Finder_partOf, f_Council_everything, hv.2.1.2.1, x_all' (u := u) hM10, q3', Sum.elim_inr]
      · simp only [f_M_parted, ha1, if_false, m1', Option.bind_some, c10, w1, hw.2.1.2.2, x_all' (u := u) hM10, q4', a_M_parted_26, zif (zn_zin (show q < 64 by omega) (show 64 < 2 ^ 31 by decide)), zn_cl (show q < 2 ^ 31 by omega), w3.2 q q1 q2]
    · rw [if_neg ha] at x1 m1
      refine ⟨-1, u, u, ?_, ?_, zfr_rf u⟩
      · simp only [f_X_parted, ha1, if_false, x1, Option.bind_some, if_true]
      · simp only [f_M_parted, ha1, if_false, m1, Option.bind_some, if_true]
