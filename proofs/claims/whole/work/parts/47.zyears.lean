/-! judge, must, decide -/
theorem bt_1 {i : Nat} (hi : i < 32) : bt 1 i = decide (i = 0) := by
  rw [show (1 : Int32) = nI 1 from rfl, bt_n 1 hi]
  cases i with
  | zero => rfl
  | succ i => simp [Nat.testBit_succ]
theorem z_low1 (x : Int32) : x &&& 1 = if bt x 0 = true then 1 else 0 := by
  refine b_ext (fun i hi => ?_)
  rw [b_and, bt_1 hi]
  by_cases e : i = 0
  · subst e
    cases h : bt x 0
    · rfl
    · rfl
  · have : bt (if bt x 0 = true then (1 : Int32) else 0) i = false := by
      split
      · rw [bt_1 hi]; simp [e]
      · exact b_0 i
    rw [this]; simp [e]
theorem z_and1z (x : Int32) : (x &&& 1 = 0) = (bt x 0 = false) := by
  rw [z_low1]
  cases h : bt x 0 <;> simp
theorem bt_u (x : Int32) {p : Nat} (hp : p < 32) : bt (zushr x (nI p)) 0 = bt x p := b_ushr p hp x 0
theorem bt_s (x : Int32) {p : Nat} (hp : p < 32) : bt (x >>> (nI p &&& 31)) 0 = bt x p := by
  rw [b_sshr p hp x (by decide), if_pos (by omega), Nat.add_zero]
theorem m_isInI (x : Int32) {p : Nat} (hp : p < 32) : f_M_isIn x (nI p) = some (if bt x p = true then 1 else 0) := by
  simp only [f_M_isIn]
  rw [z_low1, bt_s x hp]
  cases h : bt x p <;> rfl
def zval (u : ZSt) (d i : Nat) : Int32 := (u.2.2 31 (60 * d + i)).toInt32
/-- a shelf with a row of shorts -/
def zYr (u : ZSt) (d n : Nat) : Prop := d < 6 ∧ n ≤ 60 ∧ u.2.1 29 d = nI n ∧ u.2.1 59 d = nI n ∧ ∀ i, i < n → u.2.2 31 (60 * d + i) = u.2.2 60 (60 * d + i)
theorem zYr.fr {u v : ZSt} {d n : Nat} (h : zYr u d n) (f : zsc u v) : zYr v d n := by
  obtain ⟨h1, h2, h3, h4, h5⟩ := h
  exact ⟨h1, h2, by rw [f.ga 29]; exact h3, by rw [f.ga 59]; exact h4, by rw [f.gl 31, f.gl 60]; exact h5⟩
theorem zval_sc {u v : ZSt} (f : zsc u v) (d i : Nat) : zval v d i = zval u d i := by unfold zval; rw [f.gl 31]
theorem z_year {u : ZSt} {B : Nat} (h : zR11 u B) (a : Int32) : (∃ d n, a = nI d ∧ zYr u d n ∧ f_Shelves_refusedAsRow a 1 u = some 0 ∧ ∀ v : ZSt, v.2.1 58 = u.2.1 58 → f_M_yearIs a v = some 1) ∨
    ∃ q, q.toInt < 0 ∧ (q = -1 ∨ q = -11 ∨ q = -12) ∧ f_Shelves_refusedAsRow a 1 u = some q ∧ ∀ v : ZSt, v.2.1 58 = u.2.1 58 → f_M_yearIs a v = some q := by
  have c10 : ¬ (1 : Int32) = 0 := by decide
  by_cases ha : 0 ≤ a.toInt ∧ a.toInt < 6
  · obtain ⟨d, hd, rfl⟩ := z_sh6 ha
    have hz : zin (nI d) 6 := zn_zin hd (by decide)
    have hcl : (nI d).toNatClampNeg = d := zn_cl (by omega)
    rcases h d hd with ⟨h1, h2⟩ | ⟨w, h1, h2, h3, h4, h5⟩ | ⟨s, n, h1, h2, h3, h4, h5, h6, h7⟩
    · right
      refine ⟨-11, by decide, Or.inr (Or.inl rfl), ?_, fun v v1 => ?_⟩
      · simp only [f_Shelves_refusedAsRow, x_isShelf, ha, and_self, if_true, Option.bind_some, c10, if_false, zif hz, hcl, h1]
      · simp only [f_M_yearIs, m_isShelf, ha, and_self, if_true, Option.bind_some, c10, if_false, zif hz, hcl, v1, h2, show ¬ (0 : Int32) ≤ -1 by decide]
    · right
      refine ⟨-12, by decide, Or.inr (Or.inr rfl), ?_, fun v v1 => ?_⟩
      · simp only [f_Shelves_refusedAsRow, x_isShelf, ha, and_self, if_true, Option.bind_some, c10, if_false, zif hz, hcl, h3, show ¬ nI 5 = -1 by decide, show ¬ nI 5 = 1 by decide]
      · have e1 : (0 : Int32) ≤ nI w := nI_pos' (by omega)
        have e2 : ¬ nI w = 51 := by rw [show (51 : Int32) = nI 51 from rfl, nI_eq (by omega) (by decide)]; omega
        simp only [f_M_yearIs, m_isShelf, ha, and_self, if_true, Option.bind_some, c10, if_false, zif hz, hcl, v1, h5, e1, e2]
    · have e1 : (0 : Int32) ≤ nI (50 + s) := nI_pos' (by omega)
      have e4 : ¬ nI s = -1 := z_m1i (by omega)
      by_cases hs : s = 1
      · left
        subst hs
        refine ⟨d, n, rfl, ⟨hd, h2, h5, h6, fun i hi => (h7 i hi).1⟩, ?_, fun v v1 => ?_⟩
        · simp only [f_Shelves_refusedAsRow, x_isShelf, ha, and_self, if_true, Option.bind_some, c10, if_false, zif hz, hcl, h3, show ¬ nI 1 = -1 by decide, show nI 1 = (1 : Int32) from rfl, show ¬ (1 : Int32) = -1 by decide]
        · simp only [f_M_yearIs, m_isShelf, ha, and_self, if_true, Option.bind_some, c10, if_false, zif hz, hcl, v1, h4, show (0 : Int32) ≤ nI (50 + 1) by decide, show nI (50 + 1) = (51 : Int32) from rfl, show (0 : Int32) ≤ 51 by decide]
      · right
        have e2 : ¬ nI s = 1 := by rw [show (1 : Int32) = nI 1 from rfl, nI_eq (by omega) (by decide)]; exact hs
        have e3 : ¬ nI (50 + s) = 51 := by rw [show (51 : Int32) = nI 51 from rfl, nI_eq (by omega) (by decide)]; omega
        refine ⟨-12, by decide, Or.inr (Or.inr rfl), ?_, fun v v1 => ?_⟩
        · simp only [f_Shelves_refusedAsRow, x_isShelf, ha, and_self, if_true, Option.bind_some, c10, if_false, zif hz, hcl, h3, e4, e2]
        · simp only [f_M_yearIs, m_isShelf, ha, and_self, if_true, Option.bind_some, c10, if_false, zif hz, hcl, v1, h4, e1, e3]
  · right
    refine ⟨-1, by decide, Or.inl rfl, ?_, fun v v1 => ?_⟩
    · simp only [f_Shelves_refusedAsRow, x_isShelf, ha, if_false, if_true, Option.bind_some]
    · simp only [f_M_yearIs, m_isShelf, ha, if_false, if_true, Option.bind_some]
theorem x_val {v : ZSt} {d n i : Nat} (h : zYr v d n) (hi : i < n) : f_Shelves_valueAt (nI d) (nI i) v = some (v.2.2 31 (60 * d + i)) := by
  have hn := h.2.1
  have hd := h.1
  have hp := x_hasPlace h.1 h.2.1 h.2.2.1 (nI i)
  rw [if_pos (by rw [nI_toInt (by omega)]; omega)] at hp
  have e : (60 : Int32) * nI d + nI i = nI (60 * d + i) := by rw [show (60 : Int32) = nI 60 from rfl, pk_mul, nI_add]
  simp only [f_Shelves_valueAt, hp, Option.bind_some, show ¬ (1 : Int32) = 0 by decide, if_false, e, zif (zn_zin (show 60 * d + i < 360 by omega) (show 360 < 2 ^ 31 by decide)), zn_cl (show 60 * d + i < 2 ^ 31 by omega)]
theorem x_bAt {v : ZSt} {d n i : Nat} (h : zYr v d n) (hi : i < n) : f_Years_bundleAt (nI d) (nI i) v = some (zval v d i) := by
  simp only [f_Years_bundleAt, x_val h hi, Option.bind_some, zval]
theorem x_sAt {v : ZSt} {d n i : Nat} (h : zYr v d n) (hi : i + 1 < n) : f_Years_silentAt (nI d) (nI i) v = some (zval v d (i + 1)) := by
  simp only [f_Years_silentAt, nI_1, x_val h hi, Option.bind_some, zval]
theorem m_bAt {v : ZSt} {d n k : Nat} (h : zYr v d n) (hi : 2 * k < n) : f_M_bundleAt (nI d) (nI k) v = some (zval v d (2 * k)) := by
  have hn := h.2.1
  have hd := h.1
  have e : (60 : Int32) * nI d + (2 : Int32) * nI k = nI (60 * d + 2 * k) := by rw [show (60 : Int32) = nI 60 from rfl, show (2 : Int32) = nI 2 from rfl, pk_mul, pk_mul, nI_add]
  simp only [f_M_bundleAt, e, zif (zn_zin (show 60 * d + 2 * k < 360 by omega) (show 360 < 2 ^ 31 by decide)), zn_cl (show 60 * d + 2 * k < 2 ^ 31 by omega), ← h.2.2.2.2 _ hi, zval]
theorem m_sAt {v : ZSt} {d n k : Nat} (h : zYr v d n) (hi : 2 * k + 1 < n) : f_M_silentAt (nI d) (nI k) v = some (zval v d (2 * k + 1)) := by
  have hn := h.2.1
  have hd := h.1
  have e : (60 : Int32) * nI d + (2 : Int32) * nI k + 1 = nI (60 * d + (2 * k + 1)) := by rw [show (60 : Int32) = nI 60 from rfl, show (2 : Int32) = nI 2 from rfl, pk_mul, pk_mul, nI_add, nI_1]; rfl
  simp only [f_M_silentAt, e, zif (zn_zin (show 60 * d + (2 * k + 1) < 360 by omega) (show 360 < 2 ^ 31 by decide)), zn_cl (show 60 * d + (2 * k + 1) < 2 ^ 31 by omega), ← h.2.2.2.2 _ hi, zval]
theorem x_whole {v : ZSt} {d n i M : Nat} (h : zYr v d n) (hM : M ≤ 10) (h5 : v.1 105 = nI M) (hi : i < n) : f_Years_isWhole (nI d) (nI i) v = some (if i + 1 < n ∧ 1 ≤ (zval v d i).toInt ∧ (zval v d i).toInt < ((2 ^ M : Nat) : Int) then 1 else 0) := by
  have hn := h.2.1
  have hp := x_hasPlace h.1 h.2.1 h.2.2.1 (nI (i + 1))
  rw [nI_toInt (by omega)] at hp
  simp only [f_Years_isWhole, nI_1, hp, Option.bind_some, x_bAt h hi, x_isBundle hM h5, z_it]
  by_cases e1 : i + 1 < n
  · rw [if_neg (by omega)]
    by_cases e2 : 1 ≤ (zval v d i).toInt ∧ (zval v d i).toInt < ((2 ^ M : Nat) : Int)
    · rw [if_neg (fun q => q e2), if_pos ⟨e1, e2⟩]
    · rw [if_pos e2, if_neg (fun q => e2 q.2)]
  · rw [if_pos (by omega), if_neg (fun q => e1 q.1)]
def zJ (u : ZSt) (M d n k : Nat) (W : Nat → Nat) (P : Nat) : Prop := 2 * k + 1 < n ∧ ∃ b, 1 ≤ b ∧ b < 2 ^ M ∧ zval u d (2 * k) = nI b ∧ zval u d (2 * k + 1) = nI (zlef P (W b))
theorem o_judge {u : ZSt} {P M B : Nat} {adj : Nat → Nat} (h : zRB u P M adj) (h11 : zR11 u B) (a : Int32) : ∃ r u1 u2, f_X_judge a u = some (r, u1) ∧ f_M_judge a u1 = some (r, u2) ∧ zsc u u2 := by
  have hP := h.1.1
  have hM := h.2.1.1
  have hM10 : M ≤ 10 := by omega
  have c10 : ¬ (1 : Int32) = 0 := by decide
  have hpw := z_pow hP (Nat.le_refl _)
  rcases z_year h11 a with ⟨d, n, rfl, hY, hr, hy⟩ | ⟨q, q1, q3, hr, hy⟩
  · have hn := hY.2.1
    have hd := hY.1
    obtain ⟨stop, hst⟩ : ∃ stop : Nat → Bool, ∀ k, stop k = true ↔ ¬ zJ u M d n k (fun b => zW u P M b b 0) P := by
      classical exact ⟨fun k => decide (¬ zJ u M d n k (fun b => zW u P M b b 0) P), fun k => by simp⟩
    obtain ⟨r, r1, v, v2, r2⟩ := zit_e (B := fun s : Int32 × ZSt => b_Years_firstWrong_7 (nI d) (nI n) s.1 s.2) (fun k v => (nI (2 * k), v)) (fun k v => zsc u v) stop
      (fun x r => ∃ v, zsc u v ∧ match x with | some k => k < 64 ∧ r = .inr (nI k, v) | none => ∃ q, r = .inl (q, v)) (n := (n + 1) / 2) (by omega)
      (by
        intro k v hk hv
        have hYv := hY.fr hv
        have hB := h.sc hv
        have n1 : ¬ nI n ≤ nI (2 * k) := by rw [nI_leI (by omega) (by omega)]; omega
        have ed : nI (2 * k) / 2 = nI k := by
          have := pk_div (a := 2 * k) (d := 2) (by omega) (by decide) (by decide)
          rw [show 2 * k / 2 = k by omega] at this
          exact this
        have hw := x_whole hYv hM10 hB.2.1.2.1 (show 2 * k < n by omega)
        have eb := x_bAt hYv (show 2 * k < n by omega)
        rw [zval_sc hv] at hw eb
        have e22 : nI (2 * k) + 2 = nI (2 * (k + 1)) := nI_add (2 * k) 2
        by_cases g : 2 * k + 1 < n ∧ 1 ≤ (zval u d (2 * k)).toInt ∧ (zval u d (2 * k)).toInt < ((2 ^ M : Nat) : Int)
        · rw [if_pos g] at hw
          obtain ⟨b, b1, b2, b3⟩ := z_bund g.2
          have hb3 := z_1024 hM10 b2
          have es := x_sAt hYv g.1
          rw [zval_sc hv] at es
          obtain ⟨y, y1, y2⟩ := (zW_ok h hb3 hb3 (g := 0) (by decide)).2.1 v hv
          have y1' : f_Ballot_whoMay (nI b) (nI b) 0 v = some (nI (zW u P M b b 0), y) := y1
          have em : f_Years_mustBeSilent (nI b) v = some (nI (zlef P (zW u P M b b 0)), y) := by
            simp only [f_Years_mustBeSilent, f_Council_everybody, hB.1.2.1, x_all' (u := u) hP, Option.bind_some, y1', z_andn (show 2 ^ P - 1 < 1024 by omega)]
            rfl
          have key : (fun s : Int32 × ZSt => b_Years_firstWrong_7 (nI d) (nI n) s.1 s.2) (nI (2 * k), v) = if zval u d (2 * k + 1) = nI (zlef P (zW u P M b b 0)) then some (.inl (nI (2 * (k + 1)), y)) else some (.inr (.inr (nI k, y))) := by
            simp only [b_Years_firstWrong_7, n1, if_false, hw, Option.bind_some, c10, es, eb, b3, em, ed, e22]
          have hj : zJ u M d n k (fun b => zW u P M b b 0) P ↔ zval u d (2 * k + 1) = nI (zlef P (zW u P M b b 0)) := by
            constructor
            · rintro ⟨-, c, c1, c2, c3, c4⟩
              have : b = c := by
                rw [b3] at c3
                have hc3 := z_1024 hM10 c2
                exact (nI_eq (by omega) (by omega)).mp c3
              rw [this]; exact c4
            · intro q; exact ⟨g.1, b, b1, b2, b3, q⟩
          refine ⟨fun e => ?_, fun e => ?_⟩
          · have := (hst k).mp e
            exact ⟨_, key.trans (if_neg (fun q => this (hj.mpr q))), y, y2, by omega, rfl⟩
          · have : zJ u M d n k (fun b => zW u P M b b 0) P := by
              by_cases q : zJ u M d n k (fun b => zW u P M b b 0) P
              · exact q
              · rw [(hst k).mpr q] at e; cases e
            exact ⟨y, key.trans (if_pos (hj.mp this)), y2⟩
        · rw [if_neg g] at hw
          have hj : ¬ zJ u M d n k (fun b => zW u P M b b 0) P := by
            rintro ⟨c0, c, c1, c2, c3, c4⟩
            have hc3 := z_1024 hM10 c2
            exact g ⟨c0, by rw [c3, nI_toInt (by omega)]; omega, by rw [c3, nI_toInt (by omega)]; omega⟩
          refine ⟨fun e => ⟨_, ?_, v, hv, by omega, rfl⟩, fun e => by rw [(hst k).mpr hj] at e; cases e⟩
          simp only [b_Years_firstWrong_7, n1, if_false, hw, Option.bind_some, if_true, ed])
      (by
        intro v hv
        have n1 : nI n ≤ nI (2 * ((n + 1) / 2)) := by rw [nI_leI (by omega) (by omega)]; omega
        exact ⟨.inl (nI (2 * ((n + 1) / 2)), v), by simp only [b_Years_firstWrong_7, n1, if_true], v, hv, nI (2 * ((n + 1) / 2)), rfl⟩)
      (v := u) (zfr_rf u)
    have hv := h.sc v2
    have hYv := hY.fr v2
    obtain ⟨t, t1, w, w2, t2⟩ := zit_e (B := fun s : Int32 × ZSt => b_M_judge_10 (nI d) s.1 s.2) (fun k v => (nI k, v)) (fun k v => zsc u v) stop
      (fun x r => ∃ v, zsc u v ∧ match x with | some k => k < 64 ∧ r = .inr (nI k, v) | none => ∃ q, r = .inl (q, v)) (n := (n + 1) / 2) (by omega)
      (by
        intro k v hk hv
        have hYv := hY.fr hv
        have hB := h.sc hv
        have z6 : zin (nI d) 6 := zn_zin hd (by decide)
        have cd : (nI d).toNatClampNeg = d := zn_cl (by omega)
        have e2k : (2 : Int32) * nI k = nI (2 * k) := pk_mul 2 k
        have n1 : ¬ nI n ≤ nI (2 * k) := by rw [nI_leI (by omega) (by omega)]; omega
        have q1 : (nI (2 * k + 1) = nI n) = (2 * k + 1 = n) := propext (nI_eq (by omega) (by omega))
        have eb := m_bAt hYv (show 2 * k < n by omega)
        rw [zval_sc hv] at eb
        have hbn := m_isBundle hM10 hB.2.1.2.2 (zval u d (2 * k))
        by_cases g0 : 2 * k + 1 < n
        · by_cases g : 1 ≤ (zval u d (2 * k)).toInt ∧ (zval u d (2 * k)).toInt < ((2 ^ M : Nat) : Int)
          · rw [if_pos g] at hbn
            obtain ⟨b, b1, b2, b3⟩ := z_bund g
            have hb3 := z_1024 hM10 b2
            obtain ⟨y, y1, y3, y2⟩ := (zW_ok h hb3 hb3 (g := 0) (by decide)).2.2 v hv
            have y1' : f_M_asks (nI b) (nI b) 0 v = some y := y1
            have es := m_sAt (hY.fr y2.1) g0
            rw [zval_sc y2.1] at es
            have el : nI (2 ^ P - 1) &&& (nI (zW u P M b b 0) ^^^ (-1 : Int32)) = nI (zlef P (zW u P M b b 0)) := z_andn (by omega) _
            have key : (fun s : Int32 × ZSt => b_M_judge_10 (nI d) s.1 s.2) (nI k, v) = if zval u d (2 * k + 1) = nI (zlef P (zW u P M b b 0)) then some (.inl (nI (k + 1), y)) else some (.inr (.inr (nI k, y))) := by
              rw [b3] at hbn
              simp only [b_M_judge_10, zif z6, cd, hYv.2.2.2.1, e2k, n1, if_false, nI_1, q1, show ¬ 2 * k + 1 = n by omega, eb, Option.bind_some, b3, hbn, c10, y1', es, (h.sc y2.1).1.2.2.1, x_all' (u := u) hP, y3, el]
            have hj : zJ u M d n k (fun b => zW u P M b b 0) P ↔ zval u d (2 * k + 1) = nI (zlef P (zW u P M b b 0)) := by
              constructor
              · rintro ⟨-, c, c1, c2, c3, c4⟩
                have : b = c := by
                  rw [b3] at c3
                  have hc3 := z_1024 hM10 c2
                  exact (nI_eq (by omega) (by omega)).mp c3
                rw [this]; exact c4
              · intro q; exact ⟨g0, b, b1, b2, b3, q⟩
            refine ⟨fun e => ?_, fun e => ?_⟩
            · have := (hst k).mp e
              exact ⟨_, key.trans (if_neg (fun q => this (hj.mpr q))), y, y2.1, by omega, rfl⟩
            · have : zJ u M d n k (fun b => zW u P M b b 0) P := by
                by_cases q : zJ u M d n k (fun b => zW u P M b b 0) P
                · exact q
                · rw [(hst k).mpr q] at e; cases e
              exact ⟨y, key.trans (if_pos (hj.mp this)), y2.1⟩
          · rw [if_neg g] at hbn
            have hj : ¬ zJ u M d n k (fun b => zW u P M b b 0) P := by
              rintro ⟨c0, c, c1, c2, c3, c4⟩
              have hc3 := z_1024 hM10 c2
              exact g ⟨by rw [c3, nI_toInt (by omega)]; omega, by rw [c3, nI_toInt (by omega)]; omega⟩
            refine ⟨fun e => ⟨_, ?_, v, hv, by omega, rfl⟩, fun e => by rw [(hst k).mpr hj] at e; cases e⟩
            simp only [b_M_judge_10, zif z6, cd, hYv.2.2.2.1, e2k, n1, if_false, nI_1, q1, show ¬ 2 * k + 1 = n by omega, eb, Option.bind_some, hbn, if_true]
        · have hj : ¬ zJ u M d n k (fun b => zW u P M b b 0) P := fun q => g0 q.1
          refine ⟨fun e => ⟨_, ?_, v, hv, by omega, rfl⟩, fun e => by rw [(hst k).mpr hj] at e; cases e⟩
          simp only [b_M_judge_10, zif z6, cd, hYv.2.2.2.1, e2k, n1, if_false, nI_1, q1, show 2 * k + 1 = n by omega, if_true])
      (by
        intro v hv
        have hYv := hY.fr hv
        have z6 : zin (nI d) 6 := zn_zin hd (by decide)
        have cd : (nI d).toNatClampNeg = d := zn_cl (by omega)
        have e2k : (2 : Int32) * nI ((n + 1) / 2) = nI (2 * ((n + 1) / 2)) := pk_mul 2 _
        have n1 : nI n ≤ nI (2 * ((n + 1) / 2)) := by rw [nI_leI (by omega) (by omega)]; omega
        exact ⟨.inl (nI ((n + 1) / 2), v), by simp only [b_M_judge_10, zif z6, cd, hYv.2.2.2.1, e2k, n1, if_true], v, hv, nI ((n + 1) / 2), rfl⟩)
      (v := v) v2
    have hsz : f_Shelves_sizeOf (nI d) u = some (nI n) := by
      simp only [f_Shelves_sizeOf, x_isShelf, show 0 ≤ (nI d).toInt ∧ (nI d).toInt < 6 by rw [nI_toInt (by omega)]; omega, and_self, if_true, Option.bind_some, c10, if_false, zif (zn_zin hd (show 6 < 2 ^ 31 by decide)), zn_cl (show d < 2 ^ 31 by omega), hY.2.2.1]
    have hy' := hy v (v2.ga 58)
    generalize hx : (if h : fa_first stop ((n + 1) / 2) < (n + 1) / 2 then some (fa_first stop ((n + 1) / 2)) else none) = x at r1 r2 t1 t2
    have r1' : ziter (fun s : Int32 × ZSt => b_Years_firstWrong_7 (nI d) (nI n) s.1 s.2) zfu (0, u) = some r := r1
    have t1' : ziter (fun s : Int32 × ZSt => b_M_judge_10 (nI d) s.1 s.2) zfu (0, v) = some t := t1
    cases x with
    | none =>
      obtain ⟨q, rfl⟩ := r2
      obtain ⟨q2, rfl⟩ := t2
      refine ⟨-2, v, w, ?_, ?_, w2⟩
      · simp only [f_X_judge, hr, Option.bind_some, if_true, f_Years_firstWrong, hsz, r1', Sum.elim_inl, a_Years_firstWrong_7]
      · simp only [f_M_judge, hy', Option.bind_some, show (0 : Int32) ≤ 1 by decide, if_true, t1', Sum.elim_inl, a_M_judge_10]
    | some k =>
      obtain ⟨k1, rfl⟩ := r2
      obtain ⟨k2, rfl⟩ := t2
      refine ⟨nI k, v, w, ?_, ?_, w2⟩
      · simp only [f_X_judge, hr, Option.bind_some, if_true, f_Years_firstWrong, hsz, r1', Sum.elim_inr]
      · simp only [f_M_judge, hy', Option.bind_some, show (0 : Int32) ≤ 1 by decide, if_true, t1', Sum.elim_inr]
  · have hy' := hy u rfl
    have n0 : ¬ q = 0 := by rcases q3 with rfl | rfl | rfl <;> decide
    have n1 : ¬ (0 : Int32) ≤ q := by rcases q3 with rfl | rfl | rfl <;> decide
    refine ⟨q, u, u, ?_, ?_, zfr_rf u⟩
    · simp only [f_X_judge, hr, Option.bind_some, n0, if_false]
    · simp only [f_M_judge, hy', Option.bind_some, n1, if_false]
