/-! must, decide -/
theorem z_ff {p : Nat → Bool} {n : Nat} : fa_first p n < n ↔ ∃ k, k < n ∧ p k = true := by
  constructor
  · intro h; exact ⟨_, h, fa_first_yes p n h⟩
  · rintro ⟨k, k1, k2⟩
    rcases Nat.lt_or_ge (fa_first p n) n with q | q
    · exact q
    · have := fa_first_no p n k (by omega)
      rw [this] at k2; cases k2
theorem z_subs {b r : Nat} (hr : r < 1024) : (b &&& r = r) ↔ (r &&& (b ^^^ 1023) = 0) := by
  have hi : ∀ i, ¬ i < 10 → r.testBit i = false := fun i hi => Nat.testBit_lt_two_pow (Nat.lt_of_lt_of_le hr (Nat.pow_le_pow_right (by decide) (by omega) : 2 ^ 10 ≤ 2 ^ i))
  constructor
  · intro h
    refine Nat.eq_of_testBit_eq (fun i => ?_)
    have := congrArg (fun n => n.testBit i) h
    simp only [Nat.testBit_and] at this
    rw [Nat.testBit_and, Nat.testBit_xor, show (1023 : Nat) = 2 ^ 10 - 1 from rfl, Nat.testBit_two_pow_sub_one, Nat.zero_testBit]
    by_cases e : i < 10
    · cases h1 : r.testBit i
      · simp
      · rw [h1] at this; simp only [Bool.and_true] at this; simp [e, this]
    · rw [hi i e]; rfl
  · intro h
    refine Nat.eq_of_testBit_eq (fun i => ?_)
    have := congrArg (fun n => n.testBit i) h
    simp only [Nat.testBit_and, Nat.testBit_xor, show (1023 : Nat) = 2 ^ 10 - 1 from rfl, Nat.testBit_two_pow_sub_one, Nat.zero_testBit] at this
    rw [Nat.testBit_and]
    by_cases e : i < 10
    · cases h1 : r.testBit i
      · simp
      · rw [h1] at this; simp only [e, decide_true, Bool.true_and, Bool.xor_true, Bool.not_eq_false'] at this; simp [this]
    · rw [hi i e]; simp
def zVd (u : ZSt) (M d n p m rest k : Nat) : Prop := 2 * k + 1 < n ∧ ∃ b, 1 ≤ b ∧ b < 2 ^ M ∧ zval u d (2 * k) = nI b ∧ b.testBit m = false ∧ rest &&& (b ^^^ 1023) = 0 ∧ bt (zval u d (2 * k + 1)) p = false
theorem o_voted {u : ZSt} {P M d n p m rest : Nat} {adj : Nat → Nat} (h : zRB u P M adj) (hY : zYr u d n) (hr : rest < 1024) (hp : p < 10) (hm : m < 10) :
    ∃ V : Bool, f_Years_hasVotedOn (nI rest) (nI d) (nI p) (nI m) u = some (if V = true then 1 else 0) ∧ f_M_isVotedBeside (nI d) (nI p) (nI m) (nI rest) u = some (if V = true then 1 else 0) := by
  have hM := h.2.1.1
  have hM10 : M ≤ 10 := by omega
  have c10 : ¬ (1 : Int32) = 0 := by decide
  have hn := hY.2.1
  have hd := hY.1
  have z6 : zin (nI d) 6 := zn_zin hd (by decide)
  have cd : (nI d).toNatClampNeg = d := zn_cl (by omega)
  obtain ⟨stop, hst⟩ : ∃ stop : Nat → Bool, ∀ k, stop k = true ↔ zVd u M d n p m rest k := by
    classical exact ⟨fun k => decide (zVd u M d n p m rest k), fun k => by simp⟩
  have hfl : ∀ k, stop k = false ↔ ¬ zVd u M d n p m rest k := fun k => by rw [← hst k]; simp
  have hsub : ∀ b, b < 1024 → ((nI b &&& nI rest = nI rest) = (rest &&& (b ^^^ 1023) = 0)) := by
    intro b hb
    have := z_and_lt hb rest
    rw [fa_and, ← propext (z_subs (b := b) hr)]
    exact propext (nI_eq (by omega) (by omega))
  have hbm : ∀ b : Nat, bt (nI b) m = b.testBit m := fun b => bt_n b (by omega)
  obtain ⟨r, r1, r2⟩ := zit_e (B := fun s : Int32 => b_Years_hasVotedOn_7 (nI rest) (nI d) (nI p) (nI m) (nI n) s u) (fun k _ => nI (2 * k)) (fun _ _ => True) stop
    (fun x r => match x with | some _ => r = .inr 1 | none => ∃ q, r = .inl q) (n := (n + 1) / 2) (by omega)
    (by
      intro k v hk _
      have n1 : ¬ nI n ≤ nI (2 * k) := by rw [nI_leI (by omega) (by omega)]; omega
      have hw := x_whole hY hM10 h.2.1.2.1 (show 2 * k < n by omega)
      have eb := x_bAt hY (show 2 * k < n by omega)
      have e22 : nI (2 * k) + 2 = nI (2 * (k + 1)) := nI_add (2 * k) 2
      by_cases g : 2 * k + 1 < n ∧ 1 ≤ (zval u d (2 * k)).toInt ∧ (zval u d (2 * k)).toInt < ((2 ^ M : Nat) : Int)
      · rw [if_pos g] at hw
        obtain ⟨b, b1, b2, b3⟩ := z_bund g.2
        have hb3 := z_1024 hM10 b2
        have es := x_sAt hY g.1
        have key : b_Years_hasVotedOn_7 (nI rest) (nI d) (nI p) (nI m) (nI n) (nI (2 * k)) u = if rest &&& (b ^^^ 1023) = 0 ∧ b.testBit m = false ∧ bt (zval u d (2 * k + 1)) p = false then some (.inr (.inr 1)) else some (.inl (nI (2 * (k + 1)))) := by
          simp only [b_Years_hasVotedOn_7, n1, if_false, eb, Option.bind_some, b3, hsub b hb3, z_and1z, bt_u _ (show m < 32 by omega), bt_u _ (show p < 32 by omega), hbm, hw, es, c10, e22, if_true]
          by_cases q1 : rest &&& (b ^^^ 1023) = 0
          · by_cases q2 : b.testBit m = false
            · by_cases q3 : bt (zval u d (2 * k + 1)) p = false
              · rw [if_pos q1, if_pos q2, if_pos q3, if_pos ⟨q1, q2, q3⟩]
              · rw [if_pos q1, if_pos q2, if_neg q3, if_neg (fun w => q3 w.2.2)]
            · rw [if_pos q1, if_neg q2, if_neg (fun w => q2 w.2.1)]
          · rw [if_neg q1, if_neg (fun w => q1 w.1)]
        have hj : zVd u M d n p m rest k ↔ (rest &&& (b ^^^ 1023) = 0 ∧ b.testBit m = false ∧ bt (zval u d (2 * k + 1)) p = false) := by
          constructor
          · rintro ⟨-, c, c1, c2, c3, c4, c5, c6⟩
            have : b = c := by
              rw [b3] at c3
              have hc3 := z_1024 hM10 c2
              exact (nI_eq (by omega) (by omega)).mp c3
            rw [this]; exact ⟨c5, c4, c6⟩
          · rintro ⟨q1, q2, q3⟩; exact ⟨g.1, b, b1, b2, b3, q2, q1, q3⟩
        exact ⟨fun e => ⟨_, key.trans (if_pos (hj.mp ((hst k).mp e))), rfl⟩, fun e => ⟨u, key.trans (if_neg (fun q => (hfl k).mp e (hj.mpr q))), trivial⟩⟩
      · rw [if_neg g] at hw
        have hj : ¬ zVd u M d n p m rest k := by
          rintro ⟨c0, c, c1, c2, c3, c4⟩
          have hc3 := z_1024 hM10 c2
          exact g ⟨c0, by rw [c3, nI_toInt (by omega)]; omega, by rw [c3, nI_toInt (by omega)]; omega⟩
        refine ⟨fun e => absurd ((hst k).mp e) hj, fun e => ⟨u, ?_, trivial⟩⟩
        simp only [b_Years_hasVotedOn_7, n1, if_false, eb, Option.bind_some, hw, c10, e22, if_true]
        split
        · split <;> rfl
        · rfl)
    (by
      intro v _
      have n1 : nI n ≤ nI (2 * ((n + 1) / 2)) := by rw [nI_leI (by omega) (by omega)]; omega
      exact ⟨.inl (nI (2 * ((n + 1) / 2))), by simp only [b_Years_hasVotedOn_7, n1, if_true], nI (2 * ((n + 1) / 2)), rfl⟩)
    (v := u) trivial
  obtain ⟨t, t1, t2⟩ := zit_e (B := fun s : Int32 => b_M_isVotedBeside_2 (nI d) (nI p) (nI m) (nI rest) s u) (fun k _ => nI k) (fun _ _ => True) stop
    (fun x r => match x with | some _ => r = .inr 1 | none => ∃ q, r = .inl q) (n := n / 2) (by omega)
    (by
      intro k v hk _
      have e2k : (2 : Int32) * nI k = nI (2 * k) := pk_mul 2 k
      have n1 : ¬ nI n ≤ nI (2 * k + 1) := by rw [nI_leI (by omega) (by omega)]; omega
      have eb := m_bAt hY (show 2 * k < n by omega)
      have es := m_sAt hY (show 2 * k + 1 < n by omega)
      have hbn := m_isBundle hM10 h.2.1.2.2 (zval u d (2 * k))
      by_cases g : 1 ≤ (zval u d (2 * k)).toInt ∧ (zval u d (2 * k)).toInt < ((2 ^ M : Nat) : Int)
      · rw [if_pos g] at hbn
        obtain ⟨b, b1, b2, b3⟩ := z_bund g
        have hb3 := z_1024 hM10 b2
        have hq : (nI rest &&& (nI b ^^^ (-1 : Int32)) = 0) = (rest &&& (b ^^^ 1023) = 0) := by
          have := z_and_lt hr (b ^^^ 1023)
          rw [z_andn hr, show (0 : Int32) = nI 0 from rfl]
          exact propext (nI_eq (by omega) (by decide))
        rw [b3] at hbn
        have key : b_M_isVotedBeside_2 (nI d) (nI p) (nI m) (nI rest) (nI k) u = if rest &&& (b ^^^ 1023) = 0 ∧ b.testBit m = false ∧ bt (zval u d (2 * k + 1)) p = false then some (.inr (.inr 1)) else some (.inl (nI (k + 1))) := by
          simp only [b_M_isVotedBeside_2, zif z6, cd, hY.2.2.2.1, e2k, nI_1, n1, if_false, eb, Option.bind_some, b3, hbn, c10, m_isInI _ (show m < 32 by omega), m_isInI _ (show p < 32 by omega), hbm, hq, es]
          by_cases q2 : b.testBit m = false
          · rw [q2, if_pos (by decide)]
            by_cases q1 : rest &&& (b ^^^ 1023) = 0
            · rw [if_pos q1]
              by_cases q3 : bt (zval u d (2 * k + 1)) p = false
              · rw [q3, if_pos (by decide), if_pos ⟨q1, rfl, rfl⟩]
              · have q3' : bt (zval u d (2 * k + 1)) p = true := by simpa using q3
                rw [q3', if_pos rfl, if_neg c10, if_neg (by simp)]
            · rw [if_neg q1, if_neg (fun w => q1 w.1)]
          · have q2' : b.testBit m = true := by simpa using q2
            rw [q2', if_pos rfl, if_neg c10, if_neg (by simp)]
        have hj : zVd u M d n p m rest k ↔ (rest &&& (b ^^^ 1023) = 0 ∧ b.testBit m = false ∧ bt (zval u d (2 * k + 1)) p = false) := by
          constructor
          · rintro ⟨-, c, c1, c2, c3, c4, c5, c6⟩
            have : b = c := by
              rw [b3] at c3
              have hc3 := z_1024 hM10 c2
              exact (nI_eq (by omega) (by omega)).mp c3
            rw [this]; exact ⟨c5, c4, c6⟩
          · rintro ⟨q1, q2, q3⟩; exact ⟨by omega, b, b1, b2, b3, q2, q1, q3⟩
        exact ⟨fun e => ⟨_, key.trans (if_pos (hj.mp ((hst k).mp e))), rfl⟩, fun e => ⟨u, key.trans (if_neg (fun q => (hfl k).mp e (hj.mpr q))), trivial⟩⟩
      · rw [if_neg g] at hbn
        have hj : ¬ zVd u M d n p m rest k := by
          rintro ⟨c0, c, c1, c2, c3, c4⟩
          have hc3 := z_1024 hM10 c2
          exact g ⟨by rw [c3, nI_toInt (by omega)]; omega, by rw [c3, nI_toInt (by omega)]; omega⟩
        refine ⟨fun e => absurd ((hst k).mp e) hj, fun e => ⟨u, ?_, trivial⟩⟩
        simp only [b_M_isVotedBeside_2, zif z6, cd, hY.2.2.2.1, e2k, nI_1, n1, if_false, eb, Option.bind_some, hbn, if_true])
    (by
      intro v _
      have e2k : (2 : Int32) * nI (n / 2) = nI (2 * (n / 2)) := pk_mul 2 _
      have n1 : nI n ≤ nI (2 * (n / 2) + 1) := by rw [nI_leI (by omega) (by omega)]; omega
      exact ⟨.inl (nI (n / 2)), by simp only [b_M_isVotedBeside_2, zif z6, cd, hY.2.2.2.1, e2k, nI_1, n1, if_true], nI (n / 2), rfl⟩)
    (v := u) trivial
  have hsz : f_Shelves_sizeOf (nI d) u = some (nI n) := by
    simp only [f_Shelves_sizeOf, x_isShelf, show 0 ≤ (nI d).toInt ∧ (nI d).toInt < 6 by rw [nI_toInt (by omega)]; omega, and_self, if_true, Option.bind_some, c10, if_false, zif z6, cd, hY.2.2.1]
  have r1' : ziter (fun s : Int32 => b_Years_hasVotedOn_7 (nI rest) (nI d) (nI p) (nI m) (nI n) s u) zfu 0 = some r := r1
  have t1' : ziter (fun s : Int32 => b_M_isVotedBeside_2 (nI d) (nI p) (nI m) (nI rest) s u) zfu 0 = some t := t1
  have iff2 : fa_first stop ((n + 1) / 2) < (n + 1) / 2 ↔ fa_first stop (n / 2) < n / 2 := by
    rw [z_ff, z_ff]
    constructor
    · rintro ⟨k, k1, k2⟩
      have := ((hst k).mp k2).1
      exact ⟨k, by omega, k2⟩
    · rintro ⟨k, k1, k2⟩
      exact ⟨k, by omega, k2⟩
  by_cases hx : fa_first stop (n / 2) < n / 2
  · rw [dif_pos (iff2.mpr hx)] at r2
    rw [dif_pos hx] at t2
    have r2' : r = .inr 1 := r2
    have t2' : t = .inr 1 := t2
    subst r2'
    subst t2'
    refine ⟨true, ?_, ?_⟩
    · simp only [f_Years_hasVotedOn, hsz, Option.bind_some, r1', Sum.elim_inr, if_true]
    · simp only [f_M_isVotedBeside, t1', Option.bind_some, Sum.elim_inr, if_true]
  · rw [dif_neg (fun q => hx (iff2.mp q))] at r2
    rw [dif_neg hx] at t2
    obtain ⟨q1, rfl⟩ := r2
    obtain ⟨q2, rfl⟩ := t2
    refine ⟨false, ?_, ?_⟩
    · simp only [f_Years_hasVotedOn, hsz, Option.bind_some, r1', Sum.elim_inl, a_Years_hasVotedOn_7, Bool.false_eq_true, if_false]
    · simp only [f_M_isVotedBeside, t1', Option.bind_some, Sum.elim_inl, a_M_isVotedBeside_2, Bool.false_eq_true, if_false]
theorem o_shown {u : ZSt} {P M d n p m : Nat} {adj : Nat → Nat} (h : zRB u P M adj) (hY : zYr u d n) (hp : p < 10) (hm : m < 10) :
    ∃ V : Bool, f_Years_isShown (nI d) (nI p) (nI m) u = some (if V = true then 1 else 0) ∧ (ziter (fun s => b_M_must_29 (nI d) (nI p) (nI m) s u) zfu (0 : Int32)).bind (Sum.elim (fun s => a_M_must_29 u) (fun r => some r)) = some (if V = true then 1 else 0) := by
  have hM := h.2.1.1
  have hM10 : M ≤ 10 := by omega
  have c10 : ¬ (1 : Int32) = 0 := by decide
  have hn := hY.2.1
  have hd := hY.1
  have z6 : zin (nI d) 6 := zn_zin hd (by decide)
  have cd : (nI d).toNatClampNeg = d := zn_cl (by omega)
  have hbm : ∀ b : Nat, bt (nI b) m = b.testBit m := fun b => bt_n b (by omega)
  have exV : ∀ b, ∃ V : Bool, b < 1024 → f_Years_hasVotedOn (nI (b &&& (2 ^ m ^^^ 1023))) (nI d) (nI p) (nI m) u = some (if V = true then 1 else 0) ∧ f_M_isVotedBeside (nI d) (nI p) (nI m) (nI (b &&& (2 ^ m ^^^ 1023))) u = some (if V = true then 1 else 0) := by
    intro b
    by_cases hb : b < 1024
    · obtain ⟨V, hV⟩ := o_voted h hY (z_and_lt hb (2 ^ m ^^^ 1023)) hp hm
      exact ⟨V, fun _ => hV⟩
    · exact ⟨true, fun q => absurd q hb⟩
  obtain ⟨Vt, hVt⟩ := Classical.axiomOfChoice exV
  obtain ⟨stop, hst⟩ : ∃ stop : Nat → Bool, ∀ k, stop k = true ↔ (2 * k + 1 < n ∧ ∃ b, 1 ≤ b ∧ b < 2 ^ M ∧ zval u d (2 * k) = nI b ∧ b.testBit m = true ∧ bt (zval u d (2 * k + 1)) p = true ∧ (b &&& (2 ^ m ^^^ 1023) = 0 ∨ Vt b = true)) := by
    classical exact ⟨fun k => decide (2 * k + 1 < n ∧ ∃ b, 1 ≤ b ∧ b < 2 ^ M ∧ zval u d (2 * k) = nI b ∧ b.testBit m = true ∧ bt (zval u d (2 * k + 1)) p = true ∧ (b &&& (2 ^ m ^^^ 1023) = 0 ∨ Vt b = true)), fun k => by simp⟩
  have hfl : ∀ k, stop k = false ↔ ¬ stop k = true := fun k => by simp
  have uq : ∀ k b, 2 * k + 1 < n → 1 ≤ b → b < 2 ^ M → zval u d (2 * k) = nI b → (stop k = true ↔ (b.testBit m = true ∧ bt (zval u d (2 * k + 1)) p = true ∧ (b &&& (2 ^ m ^^^ 1023) = 0 ∨ Vt b = true))) := by
    intro k b g b1 b2 b3
    have hb3 := z_1024 hM10 b2
    rw [hst]
    constructor
    · rintro ⟨-, c, c1, c2, c3, c4⟩
      have : b = c := by
        rw [b3] at c3
        have hc3 := z_1024 hM10 c2
        exact (nI_eq (by omega) (by omega)).mp c3
      rw [this]; exact c4
    · intro q; exact ⟨g, b, b1, b2, b3, q⟩
  have nw : ∀ k, ¬ (2 * k + 1 < n ∧ 1 ≤ (zval u d (2 * k)).toInt ∧ (zval u d (2 * k)).toInt < ((2 ^ M : Nat) : Int)) → ¬ stop k = true := by
    intro k g q
    obtain ⟨c0, c, c1, c2, c3, c4⟩ := (hst k).mp q
    have hc3 := z_1024 hM10 c2
    exact g ⟨c0, by rw [c3, nI_toInt (by omega)]; omega, by rw [c3, nI_toInt (by omega)]; omega⟩
  have hq0 : ∀ b, b < 1024 → ((nI (b &&& (2 ^ m ^^^ 1023)) = 0) = (b &&& (2 ^ m ^^^ 1023) = 0)) := by
    intro b hb
    have := z_and_lt hb (2 ^ m ^^^ 1023)
    rw [show (0 : Int32) = nI 0 from rfl]
    exact propext (nI_eq (by omega) (by decide))
  obtain ⟨r, r1, r2⟩ := zit_e (B := fun s : Int32 => b_Years_isShown_7 (nI d) (nI p) (nI m) (nI n) s u) (fun k _ => nI (2 * k)) (fun _ _ => True) stop
    (fun x r => match x with | some _ => r = .inr 1 | none => ∃ q, r = .inl q) (n := (n + 1) / 2) (by omega)
    (by
      intro k v hk _
      have n1 : ¬ nI n ≤ nI (2 * k) := by rw [nI_leI (by omega) (by omega)]; omega
      have hw := x_whole hY hM10 h.2.1.2.1 (show 2 * k < n by omega)
      have eb := x_bAt hY (show 2 * k < n by omega)
      have e22 : nI (2 * k) + 2 = nI (2 * (k + 1)) := nI_add (2 * k) 2
      by_cases g : 2 * k + 1 < n ∧ 1 ≤ (zval u d (2 * k)).toInt ∧ (zval u d (2 * k)).toInt < ((2 ^ M : Nat) : Int)
      · rw [if_pos g] at hw
        obtain ⟨b, b1, b2, b3⟩ := z_bund g.2
        have hb3 := z_1024 hM10 b2
        have es := x_sAt hY g.1
        obtain ⟨v1, v2⟩ := hVt b hb3
        have key : b_Years_isShown_7 (nI d) (nI p) (nI m) (nI n) (nI (2 * k)) u = if b.testBit m = true ∧ bt (zval u d (2 * k + 1)) p = true ∧ (b &&& (2 ^ m ^^^ 1023) = 0 ∨ Vt b = true) then some (.inr (.inr 1)) else some (.inl (nI (2 * (k + 1)))) := by
          simp only [b_Years_isShown_7, n1, if_false, hw, Option.bind_some, c10, f_Years_isSilentFor, eb, es, b3, z_and1z, b_and, bt_u _ (show m < 32 by omega), bt_u _ (show p < 32 by omega), hbm, z_clrI hb3 hm, hq0 b hb3, v1, e22]
          by_cases q2 : b.testBit m = true
          · by_cases q3 : bt (zval u d (2 * k + 1)) p = true
            · rw [q2, q3]
              by_cases q4 : b &&& (2 ^ m ^^^ 1023) = 0
              · simp only [Bool.and_self, Bool.true_eq_false, if_false, Option.bind_some, c10, q4, if_true, true_or, and_self]
              · by_cases q5 : Vt b = true
                · simp only [Bool.and_self, Bool.true_eq_false, if_false, Option.bind_some, c10, q4, q5, if_true, or_true, and_self]
                · simp only [Bool.and_self, Bool.true_eq_false, if_false, Option.bind_some, c10, q4, q5, if_true, or_self, and_false, Bool.false_eq_true]
            · have q3' : bt (zval u d (2 * k + 1)) p = false := by simpa using q3
              simp only [q3', Bool.and_false, if_true, Option.bind_some, Bool.false_eq_true, false_and, and_false, if_false]
          · have q2' : b.testBit m = false := by simpa using q2
            simp only [q2', Bool.false_and, if_true, Option.bind_some, Bool.false_eq_true, false_and, if_false]
        have hj := uq k b g.1 b1 b2 b3
        exact ⟨fun e => ⟨_, key.trans (if_pos (hj.mp e)), rfl⟩, fun e => ⟨u, key.trans (if_neg (fun q => (hfl k).mp e (hj.mpr q))), trivial⟩⟩
      · rw [if_neg g] at hw
        refine ⟨fun e => absurd e (nw k g), fun e => ⟨u, ?_, trivial⟩⟩
        simp only [b_Years_isShown_7, n1, if_false, hw, Option.bind_some, if_true, e22])
    (by
      intro v _
      have n1 : nI n ≤ nI (2 * ((n + 1) / 2)) := by rw [nI_leI (by omega) (by omega)]; omega
      exact ⟨.inl (nI (2 * ((n + 1) / 2))), by simp only [b_Years_isShown_7, n1, if_true], nI (2 * ((n + 1) / 2)), rfl⟩)
    (v := u) trivial
  obtain ⟨t, t1, t2⟩ := zit_e (B := fun s : Int32 => b_M_must_29 (nI d) (nI p) (nI m) s u) (fun k _ => nI k) (fun _ _ => True) stop
    (fun x r => match x with | some _ => r = .inr 1 | none => ∃ q, r = .inl q) (n := n / 2) (by omega)
    (by
      intro k v hk _
      have e2k : (2 : Int32) * nI k = nI (2 * k) := pk_mul 2 k
      have n1 : ¬ nI n ≤ nI (2 * k + 1) := by rw [nI_leI (by omega) (by omega)]; omega
      have eb := m_bAt hY (show 2 * k < n by omega)
      have es := m_sAt hY (show 2 * k + 1 < n by omega)
      have hbn := m_isBundle hM10 h.2.1.2.2 (zval u d (2 * k))
      by_cases g : 1 ≤ (zval u d (2 * k)).toInt ∧ (zval u d (2 * k)).toInt < ((2 ^ M : Nat) : Int)
      · rw [if_pos g] at hbn
        obtain ⟨b, b1, b2, b3⟩ := z_bund g
        have hb3 := z_1024 hM10 b2
        obtain ⟨v1, v2⟩ := hVt b hb3
        rw [b3] at hbn
        have key : b_M_must_29 (nI d) (nI p) (nI m) (nI k) u = if b.testBit m = true ∧ bt (zval u d (2 * k + 1)) p = true ∧ (b &&& (2 ^ m ^^^ 1023) = 0 ∨ Vt b = true) then some (.inr (.inr 1)) else some (.inl (nI (k + 1))) := by
          simp only [b_M_must_29, zif z6, cd, hY.2.2.2.1, e2k, nI_1, n1, if_false, eb, Option.bind_some, b3, hbn, c10, m_isInI _ (show m < 32 by omega), m_isInI _ (show p < 32 by omega), hbm, es, z_clrI hb3 hm, hq0 b hb3, v2]
          by_cases q2 : b.testBit m = true
          · by_cases q3 : bt (zval u d (2 * k + 1)) p = true
            · by_cases q4 : b &&& (2 ^ m ^^^ 1023) = 0
              · simp only [q2, q3, q4, if_true, c10, if_false, true_or, and_self]
              · by_cases q5 : Vt b = true
                · simp only [q2, q3, q4, q5, if_true, c10, if_false, or_true, and_self]
                · simp only [q2, q3, q4, q5, if_true, c10, if_false, or_self, and_false, Bool.false_eq_true]
            · simp only [q2, q3, if_true, c10, if_false, false_and, and_false, Bool.false_eq_true]
          · simp only [q2, if_true, if_false, false_and, Bool.false_eq_true]
        have hj := uq k b (by omega) b1 b2 b3
        exact ⟨fun e => ⟨_, key.trans (if_pos (hj.mp e)), rfl⟩, fun e => ⟨u, key.trans (if_neg (fun q => (hfl k).mp e (hj.mpr q))), trivial⟩⟩
      · rw [if_neg g] at hbn
        refine ⟨fun e => absurd e (nw k (fun q => g q.2)), fun e => ⟨u, ?_, trivial⟩⟩
        simp only [b_M_must_29, zif z6, cd, hY.2.2.2.1, e2k, nI_1, n1, if_false, eb, Option.bind_some, hbn, if_true])
    (by
      intro v _
      have e2k : (2 : Int32) * nI (n / 2) = nI (2 * (n / 2)) := pk_mul 2 _
      have n1 : nI n ≤ nI (2 * (n / 2) + 1) := by rw [nI_leI (by omega) (by omega)]; omega
      exact ⟨.inl (nI (n / 2)), by simp only [b_M_must_29, zif z6, cd, hY.2.2.2.1, e2k, nI_1, n1, if_true], nI (n / 2), rfl⟩)
    (v := u) trivial
  have hsz : f_Shelves_sizeOf (nI d) u = some (nI n) := by
    simp only [f_Shelves_sizeOf, x_isShelf, show 0 ≤ (nI d).toInt ∧ (nI d).toInt < 6 by rw [nI_toInt (by omega)]; omega, and_self, if_true, Option.bind_some, c10, if_false, zif z6, cd, hY.2.2.1]
  have r1' : ziter (fun s : Int32 => b_Years_isShown_7 (nI d) (nI p) (nI m) (nI n) s u) zfu 0 = some r := r1
  have t1' : ziter (fun s : Int32 => b_M_must_29 (nI d) (nI p) (nI m) s u) zfu 0 = some t := t1
  have iff2 : fa_first stop ((n + 1) / 2) < (n + 1) / 2 ↔ fa_first stop (n / 2) < n / 2 := by
    rw [z_ff, z_ff]
    constructor
    · rintro ⟨k, k1, k2⟩
      have := ((hst k).mp k2).1
      exact ⟨k, by omega, k2⟩
    · rintro ⟨k, k1, k2⟩
      exact ⟨k, by omega, k2⟩
  by_cases hx : fa_first stop (n / 2) < n / 2
  · rw [dif_pos (iff2.mpr hx)] at r2
    rw [dif_pos hx] at t2
    have r2' : r = .inr 1 := r2
    have t2' : t = .inr 1 := t2
    subst r2'
    subst t2'
    refine ⟨true, ?_, ?_⟩
    · simp only [f_Years_isShown, hsz, Option.bind_some, r1', Sum.elim_inr, if_true]
    · simp only [t1', Option.bind_some, Sum.elim_inr, if_true]
  · rw [dif_neg (fun q => hx (iff2.mp q))] at r2
    rw [dif_neg hx] at t2
    obtain ⟨q1, rfl⟩ := r2
    obtain ⟨q2, rfl⟩ := t2
    refine ⟨false, ?_, ?_⟩
    · simp only [f_Years_isShown, hsz, Option.bind_some, r1', Sum.elim_inl, a_Years_isShown_7, Bool.false_eq_true, if_false]
    · simp only [t1', Option.bind_some, Sum.elim_inl, a_M_must_29, Bool.false_eq_true, if_false]
theorem o_must {u : ZSt} {P M B : Nat} {adj : Nat → Nat} (h : zRB u P M adj) (h11 : zR11 u B) (a b : Int32) : ∃ r, f_X_must a b u = some r ∧ f_M_must a b u = some r := by
  have hP := h.1.1
  have hM := h.2.1.1
  have hM10 : M ≤ 10 := by omega
  have c10 : ¬ (1 : Int32) = 0 := by decide
  classical
  have xs := x_slotOf hP hM10 h.1.2.1 h.2.1.2.1 b 0 (Or.inl rfl)
  have mp := m_isPm hP hM10 h.1.2.2.1 h.2.1.2.2 b
  by_cases hb : zpm P M b
  · rw [if_pos hb] at xs mp
    obtain ⟨p, m, hp, hm, rfl⟩ := id hb
    have e0 : (0 : Int32) * 100 + nI (10 * p + m) = nI (10 * p + m) := by rw [show (0 : Int32) * 100 = nI 0 by decide, nI_add, Nat.zero_add]
    rw [e0] at xs
    have n0 : (0 : Int32) ≤ nI (10 * p + m) := nI_pos' (by omega)
    have hd := z_dr (show 10 * p + m < 2 ^ 31 by omega)
    rw [show (10 * p + m) / 10 = p by omega, show (10 * p + m) % 10 = m by omega] at hd
    rcases z_year h11 a with ⟨d, n, rfl, hY, hr, hy⟩ | ⟨q, q1, q3, hr, hy⟩
    · obtain ⟨V, V1, V2⟩ := o_shown h hY (show p < 10 by omega) (show m < 10 by omega)
      refine ⟨if V = true then 1 else 0, ?_, ?_⟩
      · simp only [f_X_must, xs, Option.bind_some, n0, if_true, hr, hd.1, hd.2, V1]
        cases V <;> simp
      · simp only [f_M_must, hy u rfl, Option.bind_some, show ¬ (1 : Int32) = -1 by decide, if_false, mp, c10, show (0 : Int32) ≤ 1 by decide, if_true, hd.1, hd.2]
        exact V2
    · have n1 : ¬ q = 0 := by rcases q3 with rfl | rfl | rfl <;> decide
      have n2 : ¬ (0 : Int32) ≤ q := by rcases q3 with rfl | rfl | rfl <;> decide
      refine ⟨q, ?_, ?_⟩
      · simp only [f_X_must, xs, Option.bind_some, n0, if_true, hr, n1, if_false]
      · simp only [f_M_must, hy u rfl, Option.bind_some, mp, c10, if_false, n2]
        by_cases e : q = -1
        · rw [if_pos e, e]
        · rw [if_neg e]
  · rw [if_neg hb] at xs mp
    refine ⟨-1, ?_, ?_⟩
    · simp only [f_X_must, xs, Option.bind_some, show ¬ (0 : Int32) ≤ -1 by decide, if_false]
    · rcases z_year h11 a with ⟨d, n, rfl, hY, hr, hy⟩ | ⟨q, q1, q3, hr, hy⟩
      · simp only [f_M_must, hy u rfl, Option.bind_some, show ¬ (1 : Int32) = -1 by decide, if_false, mp, if_true]
      · simp only [f_M_must, hy u rfl, Option.bind_some, mp, if_true]
        split <;> rfl
