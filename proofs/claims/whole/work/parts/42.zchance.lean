/-! lies, step, chance -/
theorem zit_e {σ ρ : Type} {B : σ → Option (σ ⊕ ρ)} (mk : Nat → ZSt → σ) (R : Nat → ZSt → Prop) (stop : Nat → Bool) (Q : Option Nat → ρ → Prop) {n : Nat} (hn : n < 1048576)
    (hs : ∀ k v, k < n → R k v → (stop k = true → ∃ r, B (mk k v) = some (.inr r) ∧ Q (some k) r) ∧ (stop k = false → ∃ v', B (mk k v) = some (.inl (mk (k + 1) v')) ∧ R (k + 1) v'))
    (he : ∀ v, R n v → ∃ r, B (mk n v) = some (.inr r) ∧ Q none r) {v : ZSt} (h0 : R 0 v) :
    ∃ r, ziter B zfu (mk 0 v) = some r ∧ Q (if h : fa_first stop n < n then some (fa_first stop n) else none) r := by
  have hno := fa_first_no stop n
  have hle := fa_first_le stop n
  have key : ∀ d b v F, b + d = fa_first stop n → d < F → R b v → ∃ r, ziter B F (mk b v) = some r ∧ Q (if h : fa_first stop n < n then some (fa_first stop n) else none) r := by
    intro d
    induction d with
    | zero =>
      intro b v F hb hF hR
      obtain ⟨F, rfl⟩ := Nat.exists_eq_succ_of_ne_zero (show F ≠ 0 by omega)
      have eb : b = fa_first stop n := by omega
      by_cases hlt : fa_first stop n < n
      · have hy := fa_first_yes stop n hlt
        rw [dif_pos hlt]
        rw [← eb] at hy hlt ⊢
        obtain ⟨r, h1, h2⟩ := (hs b v hlt hR).1 hy
        exact ⟨r, ziter_r h1, h2⟩
      · rw [dif_neg hlt]
        have : b = n := by omega
        subst this
        obtain ⟨r, h1, h2⟩ := he v hR
        exact ⟨r, ziter_r h1, h2⟩
    | succ d ih =>
      intro b v F hb hF hR
      obtain ⟨F, rfl⟩ := Nat.exists_eq_succ_of_ne_zero (show F ≠ 0 by omega)
      obtain ⟨v', h1, h2⟩ := (hs b v (by omega) hR).2 (hno b (by omega))
      obtain ⟨r, h3, h4⟩ := ih (b + 1) v' F (by omega) (by omega) h2
      exact ⟨r, (ziter_l h1).trans h3, h4⟩
  exact key (fa_first stop n) 0 v zfu (by omega) (by rw [zfu_eq]; omega) h0
theorem z_xor_lt {a b : Nat} (ha : a < 1024) (hb : b < 1024) : a ^^^ b < 1024 := Nat.xor_lt_two_pow (n := 10) ha hb
theorem o_lies {u : ZSt} {P M : Nat} {adj : Nat → Nat} (h : zRB u P M adj) (a : Int32) : ∃ r u1 u2, f_X_lies a u = some (r, u1) ∧ f_M_lies a u1 = some (r, u2) ∧ zsc u u2 := by
  have hP := h.1.1
  have hM := h.2.1.1
  have hM10 : M ≤ 10 := by omega
  have c10 : ¬ (1 : Int32) = 0 := by decide
  have hp := z_pow hP (Nat.le_refl _)
  have x1 := x_isBundle hM10 h.2.1.2.1 a
  have m1 := m_isBundle hM10 h.2.1.2.2 a
  by_cases ha : 1 ≤ a.toInt ∧ a.toInt < ((2 ^ M : Nat) : Int)
  · rw [if_pos ha] at x1 m1
    obtain ⟨B, hB1, hB2, rfl⟩ := z_bund ha
    have hB3 := z_1024 hM10 hB2
    have wl := zW_lt h hB3 hB3 (g := 0) (by decide)
    obtain ⟨v, v1, v2⟩ := (zW_ok h hB3 hB3 (g := 0) (by decide)).2.1 u (zfr_rf u)
    have v1' : f_Ballot_whoMay (nI B) (nI B) 0 u = some (nI (zW u P M B B 0), v) := v1
    obtain ⟨l1, l2⟩ := x_lean h v2 hB3
    have hc1 : f_Ballot_isCarriedBy (nI (zW u P M B B 0)) (nI (zF u P M B)) (nI (zO u P M B)) v = some (if zC u P M B 0 = true then 1 else 0) := x_carBy h v2 wl (zF u P M B) (zO u P M B)
    obtain ⟨y, y1, y2, y3⟩ := m_car h v2 hB3 (g := 0) (by decide)
    have y1' : f_M_isCarried (nI B) 0 v = some (if zC u P M B 0 = true then 1 else 0, y) := y1
    generalize hA : (fun k => zcar (zquo u) (zW u P M B B 0 ^^^ k) (zF u P M B) (zO u P M B) != zC u P M B 0) = A
    have hA' : ∀ k, (zcar (zquo u) (zW u P M B B 0 ^^^ k) (zF u P M B) (zO u P M B) = zC u P M B 0) = (A k = false) := fun k => by rw [← hA]; exact propext (by simp)
    obtain ⟨-, q1, q2⟩ := zit_f (B := fun s : Int32 × Int32 => b_Finder_fewestLies_32 (nI (zW u P M B B 0)) (nI (zF u P M B)) (nI (zO u P M B)) (if zC u P M B 0 = true then 1 else 0) (nI (2 ^ P - 1)) s.1 s.2 v) (fun k x (_ : ZSt) => (zbst x, nI k)) (fun x _ => (zbst x, nI (2 ^ P)))
      (fun k x _ => zIo x) (zg3 (fun _ => true) A) (a := 1) (n := 2 ^ P) (x := none) (v := u) hp.1 (by omega)
      (by
        rintro k x z hk1 hk hx
        have hk3 : k < 1024 := by omega
        have n1 : ¬ nI (2 ^ P - 1) < nI k := by rw [nI_ltI (by omega) (by omega)]; omega
        have hc := x_carBy h v2 (z_xor_lt wl hk3) (zF u P M B) (zO u P M B)
        simp only [b_Finder_fewestLies_32, n1, if_false, x_fewer hk3 hx, Option.bind_some, nx_xor, hc, z_iteq, hA', nI_1]
        by_cases e2 : zfew k x = true
        · by_cases e3 : A k = true
          · have eg : zg3 (fun _ => true) A k x = some k := by simp [zg3, e2, e3]
            rw [eg]
            exact ⟨z, by simp only [e2, e3, if_true, c10, if_false, zbst, Bool.true_eq_false], zIo_s hk3⟩
          · have eg : zg3 (fun _ => true) A k x = x := by simp [zg3, e3]
            rw [eg]
            exact ⟨z, by simp only [e2, show A k = false by simpa using e3, if_true, c10, if_false], hx⟩
        · have eg : zg3 (fun _ => true) A k x = x := by simp [zg3, e2]
          rw [eg]
          exact ⟨z, by simp only [e2, if_true, if_false, Bool.false_eq_true], hx⟩)
      (by
        rintro x z -
        have n1 : nI (2 ^ P - 1) < nI (2 ^ P) := by rw [nI_ltI (by omega) (by omega)]; omega
        simp only [b_Finder_fewestLies_32, n1, if_true])
      zIo_n
    obtain ⟨-, w1, w2⟩ := zit_f (B := fun s : Int32 × Int32 => b_M_lies_15 (if zC u P M B 0 = true then 1 else 0) s.1 s.2 y) (fun k x (_ : ZSt) => (zbst x, nI k)) (fun x _ => (zbst x, nI (2 ^ P)))
      (fun k x _ => zIo x) (zg3 (fun _ => true) A) (a := 1) (n := 2 ^ P) (x := none) (v := u) hp.1 (by omega)
      (by
        rintro k x z hk1 hk hx
        have hk3 : k < 1024 := by omega
        have n1 : ¬ nI (2 ^ P) ≤ nI k := by rw [nI_leI (by omega) (by omega)]; omega
        have hc := m_carBy h y3.d (z_xor_lt wl hk3)
        simp only [b_M_lies_15, (h.sc y3.1).1.2.2.1, zn_p (show P < 32 by omega), n1, if_false, y2, nx_xor, hc, Option.bind_some, z_iteq, hA', nI_1]
        cases x with
        | none =>
          by_cases e3 : A k = true
          · have eg : zg3 (fun _ => true) A k none = some k := by simp [zg3, zfew, e3]
            rw [eg]
            exact ⟨z, by simp only [e3, if_true, if_false, zbst, Bool.true_eq_false, show (-2 : Int32) < 0 by decide], zIo_s hk3⟩
          · have eg : zg3 (fun _ => true) A k none = none := by simp [zg3, e3]
            rw [eg]
            exact ⟨z, by simp only [show A k = false by simpa using e3, if_true, zbst, show (-2 : Int32) < 0 by decide], hx⟩
        | some c =>
          have hc := hx c rfl
          have n0 : ¬ nI c < 0 := nI_pos (by omega)
          simp only [zbst, n0, if_false, m_bits hk3, m_bits hc, Option.bind_some, nI_leI (zpop_31 c) (zpop_31 k)]
          by_cases e2 : zpop k < zpop c
          · have e2' : ¬ zpop c ≤ zpop k := by omega
            by_cases e3 : A k = true
            · have eg : zg3 (fun _ => true) A k (some c) = some k := by simp [zg3, zfew, e2, e3]
              rw [eg]
              exact ⟨z, by simp only [e2', e3, if_false, zbst, Bool.true_eq_false], zIo_s hk3⟩
            · have eg : zg3 (fun _ => true) A k (some c) = some c := by simp [zg3, e3]
              rw [eg]
              exact ⟨z, by simp only [e2', show A k = false by simpa using e3, if_true, if_false, zbst], hx⟩
          · have e2' : zpop c ≤ zpop k := by omega
            have eg : zg3 (fun _ => true) A k (some c) = some c := by simp [zg3, zfew, e2]
            rw [eg]
            exact ⟨z, by simp only [e2', if_true, zbst], hx⟩)
      (by
        rintro x z -
        have n1 : nI (2 ^ P) ≤ nI (2 ^ P) := by rw [nI_leI (by omega) (by omega)]; exact Nat.le_refl _
        simp only [b_M_lies_15, (h.sc y3.1).1.2.2.1, zn_p (show P < 32 by omega), n1, if_true])
      zIo_n
    have m1' := m_isBundle hM10 (h.sc v2).2.1.2.2 (nI B)
    rw [if_pos ha] at m1'
    refine ⟨zbst (zfo (zg3 (fun _ => true) A) 1 (2 ^ P - 1) none), v, y, ?_, ?_, y3.1⟩
    · have q1' : ziter (fun s : Int32 × Int32 => b_Finder_fewestLies_32 (nI (zW u P M B B 0)) (nI (zF u P M B)) (nI (zO u P M B)) (if zC u P M B 0 = true then 1 else 0) (nI (2 ^ P - 1)) s.1 s.2 v) zfu (-2, 1) = _ := q1
      simp only [f_X_lies, x1, Option.bind_some, c10, if_false, f_Finder_fewestLies, v1', l1, l2, hc1, f_Council_everybody, (h.sc v2).1.2.1, x_all' (u := u) hP, q1', a_Finder_fewestLies_32]
    · have w1' : ziter (fun s : Int32 × Int32 => b_M_lies_15 (if zC u P M B 0 = true then 1 else 0) s.1 s.2 y) zfu (-2, 1) = _ := w1
      simp only [f_M_lies, m1', Option.bind_some, c10, if_false, y1', w1', a_M_lies_15]
  · rw [if_neg ha] at x1 m1
    refine ⟨-1, u, u, ?_, ?_, zfr_rf u⟩
    · simp only [f_X_lies, x1, Option.bind_some, if_true]
    · simp only [f_M_lies, m1, Option.bind_some, if_true]
/-! step -/
def zcn (A : Nat → Bool) : Nat → Nat
  | 0 => 0
  | k + 1 => zcn A k + if A k = true then 1 else 0
theorem zcn_le (A : Nat → Bool) : ∀ n, zcn A n ≤ n := by
  intro n
  induction n with
  | zero => exact Nat.le_refl _
  | succ n ih => rw [zcn]; split <;> omega
theorem zcn_f (A : Nat → Bool) : ∀ n, ((List.range n).filter A).length = zcn A n := by
  intro n
  induction n with
  | zero => rfl
  | succ n ih =>
    rw [List.range_succ, List.filter_append, List.length_append, ih, zcn]
    by_cases e : A n = true
    · simp [e]
    · simp [e]
theorem zpop_bits (A : Nat → Bool) {P : Nat} (hP : P ≤ 10) : zpop (zbits A P) = zcn A P := by
  unfold zpop
  rw [zcn_f]
  have key : ∀ n, P ≤ n → zcn (fun p => (zbits A P).testBit p) n = zcn A P := by
    intro n
    induction n with
    | zero => intro h; have : P = 0 := by omega
              subst this; rfl
    | succ n ih =>
      intro h
      rcases Nat.lt_or_ge P (n + 1) with q | q
      · rw [zcn, ih (by omega), zbits_tb, if_neg (by simp; omega)]; rfl
      · have : P = n + 1 := by omega
        subst this
        have c : ∀ m, m ≤ n + 1 → zcn (fun p => (zbits A (n + 1)).testBit p) m = zcn A m := by
          intro m
          induction m with
          | zero => intro _; rfl
          | succ m ih2 =>
            intro hm
            rw [zcn, zcn, ih2 (by omega), zbits_tb]
            simp [show m < n + 1 by omega]
        exact c (n + 1) (Nat.le_refl _)
  exact key 10 hP
noncomputable def zNr (u : ZSt) (P M : Nat) (adj : Nat → Nat) (f g p : Nat) : Nat := Classical.epsilon (fun k => znr adj P (ztc u P M f g) p k)
theorem zNr_ok {u : ZSt} {P M : Nat} {adj : Nat → Nat} (h : zRB u P M adj) (f g : Nat) {p : Nat} (hp : p < P) : znr adj P (ztc u P M f g) p (zNr u P M adj f g p) := by
  obtain ⟨k, -, hk⟩ := x_near h (v := zs u 1904 (nI (ztc u P M f g))) ((zfr_rf u).s _ (by decide)) (z_1024 h.1.1 (ztc_lt u P M f g)) hp rfl
  exact Classical.epsilon_spec (p := fun k => znr adj P (ztc u P M f g) p k) ⟨k, hk⟩
noncomputable def zopn (u : ZSt) (P M : Nat) (adj : Nat → Nat) (b K p : Nat) : Bool := decide (zown u M b 0 p = 0 ∧ K < zNr u P M adj b 0 p)
theorem x_whoFree {u v : ZSt} {P M : Nat} {adj : Nat → Nat} (h : zRB u P M adj) (hv : zsc u v) {b K : Nat} (hb : b < 1024) (hK : K ≤ 10) : ∃ w, f_Ballot_whoIsFree (nI b) (nI K) v = some (nI (zbits (zopn u P M adj b K) P), w) ∧ zsc u w := by
  have hP := h.1.1
  have c10 : ¬ (1 : Int32) = 0 := by decide
  obtain ⟨w, a1, a2, a3, a4, a5⟩ := x_weigh h hv.d hb (g := 0) (by decide)
  have a1' : f_Ballot_weigh (nI b) 0 v = some w := a1
  have key : ziter (fun s : Int32 × Int32 => b_Ballot_whoIsFree_8 (nI K) s.1 s.2 w) zfu (0, 0) = some (nI (zbits (zopn u P M adj b K) P), nI P) := by
    refine zit_eq (B := fun s : Int32 × Int32 => b_Ballot_whoIsFree_8 (nI K) s.1 s.2 w) P (fun k => (nI (zbits (zopn u P M adj b K) k), nI k)) _ (by omega) ?_ ?_
    · intro k hk
      have n1 : ¬ nI P ≤ nI k := by rw [nI_leI (by omega) (by omega)]; omega
      have hf := x_free h (v := w) ⟨a2, a3, a4⟩ hk (zNr_ok h b 0 hk) hK
      have st := zbits_step (zopn u P M adj b K) (k := k) (by omega)
      simp only [b_Ballot_whoIsFree_8, (h.sd a2).1.2.1, n1, if_false, hf, Option.bind_some, nI_1]
      by_cases e : zown u M b 0 k = 0 ∧ K < zNr u P M adj b 0 k
      · rw [if_pos (by unfold zopn; simpa using e)] at st
        rw [if_pos e, if_neg c10, st]
      · rw [if_neg (by unfold zopn; simpa using e)] at st
        rw [if_neg e, if_pos rfl, st]
    · have n1 : nI P ≤ nI P := by rw [nI_leI (by omega) (by omega)]; exact Nat.le_refl _
      simp only [b_Ballot_whoIsFree_8, (h.sd a2).1.2.1, n1, if_true]
  exact ⟨w, by simp only [f_Ballot_whoIsFree, a1', Option.bind_some, key, a_Ballot_whoIsFree_8], hv.tr (a5.mono (by decide) (by decide) (by decide))⟩
theorem o_step {u : ZSt} {P M : Nat} {adj : Nat → Nat} (h : zRB u P M adj) (a b : Int32) : ∃ r u1 u2, f_X_step a b u = some (r, u1) ∧ f_M_step a b u1 = some (r, u2) ∧ zsc u u2 := by
  have hP := h.1.1
  have hM := h.2.1.1
  have hM10 : M ≤ 10 := by omega
  have c10 : ¬ (1 : Int32) = 0 := by decide
  have x1 := x_isBundle hM10 h.2.1.2.1 a
  have m1 := m_isBundle hM10 h.2.1.2.2 a
  have m2 : f_M_within b.toInt64 1 10 = some (if 1 ≤ b.toInt ∧ b.toInt ≤ 10 then 1 else 0) := by
    rw [z_within, Int32.toInt_toInt64]; rfl
  by_cases ha : 1 ≤ a.toInt ∧ a.toInt < ((2 ^ M : Nat) : Int)
  · rw [if_pos ha] at x1 m1
    by_cases hb : 1 ≤ b.toInt ∧ b.toInt ≤ 10
    · rw [if_pos hb] at m2
      obtain ⟨B, hB1, hB2, rfl⟩ := z_bund ha
      have hB3 := z_1024 hM10 hB2
      obtain ⟨n, hn, rfl⟩ := z_le99 (n := 10) (a := b) ⟨by omega, hb.2⟩
      have b1 : ¬ nI n < 1 := by rw [fa_lt, show (1 : Int32).toInt = 1 from rfl]; omega
      have b2 : nI n ≤ 10 := by rw [fa_le, show (10 : Int32).toInt = 10 from rfl]; omega
      generalize hst : (fun K => decide (zcn (zopn u P M adj B K) P < n)) = stop
      have hst' : ∀ K, (zcn (zopn u P M adj B K) P < n) ↔ stop K = true := fun K => by rw [← hst]; simp
      have hcl : ∀ K, zcn (zopn u P M adj B K) P ≤ 10 := fun K => Nat.le_trans (zcn_le _ P) hP
      obtain ⟨r, r1, r2⟩ := zit_e (B := fun s : Int32 × ZSt => b_Finder_stepWithFewer_2 (nI B) (nI n) s.1 s.2) (fun k v => (nI k, v)) (fun k v => zsc u v) stop
        (fun x r => ∃ v, zsc u v ∧ r = match x with | some k => .inr (nI k, v) | none => .inl (nI 5, v)) (n := 5) (by decide)
        (by
          intro k v hk hv
          have n1 : ¬ (4 : Int32) < nI k := by rw [show (4 : Int32) = nI 4 from rfl, nI_ltI (by decide) (by omega)]; omega
          obtain ⟨w, w1, w2⟩ := x_whoFree h hv hB3 (K := k) (by omega)
          have hl := z_1024 hP (zbits_lt (zopn u P M adj B k) P)
          have := hcl k
          have e0 : (fun s : Int32 × ZSt => b_Finder_stepWithFewer_2 (nI B) (nI n) s.1 s.2) (nI k, v) = if n ≤ zcn (zopn u P M adj B k) P then some (.inl (nI (k + 1), w)) else some (.inr (.inr (nI k, w))) := by
            simp only [b_Finder_stepWithFewer_2, n1, if_false, w1, Option.bind_some, z_pcx _ hl, zpop_bits _ hP, nI_leI (show n < 2 ^ 31 by omega) (show zcn (zopn u P M adj B k) P < 2 ^ 31 by omega), nI_1]
          refine ⟨fun e => ?_, fun e => ?_⟩
          · have := (hst' k).mpr e
            exact ⟨_, e0.trans (if_neg (by omega)), w, w2, rfl⟩
          · have : ¬ zcn (zopn u P M adj B k) P < n := fun q => by rw [(hst' k).mp q] at e; cases e
            exact ⟨w, e0.trans (if_pos (by omega)), w2⟩)
        (by
          intro v hv
          exact ⟨_, by simp only [b_Finder_stepWithFewer_2, show (4 : Int32) < nI 5 by decide, if_true], v, hv, rfl⟩)
        (v := u) (zfr_rf u)
      obtain ⟨v, v2, rfl⟩ := r2
      have hv := h.sc v2
      obtain ⟨y, y1, y2, y3⟩ := m_touches h v2.d hB3 hB3 (g := 0) (by decide)
      have y1' : f_M_touches (nI B) (nI B) 0 v = some y := y1
      have hy := h.sd y2.1
      have hsy : zsc u y := v2.tr (y3.mono (by decide) (by decide) (by decide))
      obtain ⟨q, q1, q2⟩ := zit_e (B := fun s : Int32 => b_M_step_19 (nI n) s y) (fun k _ => nI k) (fun _ _ => True) stop
        (fun x r => r = match x with | some k => .inr (nI k, y) | none => .inl (nI 5)) (n := 5) (by decide)
        (by
          intro k _ hk _
          have n1 : ¬ (5 : Int32) ≤ nI k := by rw [show (5 : Int32) = nI 5 from rfl, nI_leI (by decide) (by omega)]; omega
          have := hcl k
          have key : ziter (fun s : Int32 × Int32 => b_M_step_26 (nI n) (nI k) s.1 s.2 y) zfu (0, 0) = some (nI (zcn (zopn u P M adj B k) P), nI P) := by
            refine zit_eq (B := fun s : Int32 × Int32 => b_M_step_26 (nI n) (nI k) s.1 s.2 y) P (fun p => (nI (zcn (zopn u P M adj B k) p), nI p)) _ (by omega) ?_ ?_
            · intro p hp
              have n2 : ¬ nI P ≤ nI p := by rw [nI_leI (by omega) (by omega)]; omega
              obtain ⟨k2, k3, k4⟩ := m_near h y2.1 (f := B) (g := 0) hp (fun q hq => (y2.2 q hq).1)
              have e := znr_u k4 (zNr_ok h B 0 hp)
              subst e
              have := k4.1
              have hown := zown_le h.2.2.1 hM B 0 (p := p) (by omega)
              have o0 : (nI (zown u M B 0 p) = 0) = (zown u M B 0 p = 0) := by rw [show (0 : Int32) = nI 0 from rfl]; exact propext (nI_eq (by omega) (by decide))
              simp only [b_M_step_26, hy.1.2.2.1, n2, if_false, zif (zn_zin (show p < 10 by omega) (show 10 < 2 ^ 31 by decide)), zn_cl (show p < 2 ^ 31 by omega), (y2.2 p hp).1, o0, k3, Option.bind_some, nI_leI (show zNr u P M adj B 0 p < 2 ^ 31 by omega) (show k < 2 ^ 31 by omega), nI_1, Int32.add_zero, zcn]
              by_cases e1 : zown u M B 0 p = 0
              · rw [if_pos e1]
                by_cases e2 : zNr u P M adj B 0 p ≤ k
                · rw [if_pos e2, if_neg (by unfold zopn; simp; omega)]; rfl
                · rw [if_neg e2, if_pos (by unfold zopn; simp; omega)]
              · rw [if_neg e1, if_neg (by unfold zopn; simp; omega)]; rfl
            · have n2 : nI P ≤ nI P := by rw [nI_leI (by omega) (by omega)]; exact Nat.le_refl _
              simp only [b_M_step_26, hy.1.2.2.1, n2, if_true]
          have e0 : (fun s : Int32 => b_M_step_19 (nI n) s y) (nI k) = if n ≤ zcn (zopn u P M adj B k) P then some (.inl (nI (k + 1))) else some (.inr (.inr (nI k, y))) := by
            simp only [b_M_step_19, n1, if_false, key, Option.bind_some, a_M_step_26, nI_leI (show n < 2 ^ 31 by omega) (show zcn (zopn u P M adj B k) P < 2 ^ 31 by omega), nI_1]
          refine ⟨fun e => ?_, fun e => ?_⟩
          · have := (hst' k).mpr e
            exact ⟨_, e0.trans (if_neg (by omega)), rfl⟩
          · have : ¬ zcn (zopn u P M adj B k) P < n := fun q => by rw [(hst' k).mp q] at e; cases e
            exact ⟨u, e0.trans (if_pos (by omega)), trivial⟩)
        (by
          intro v _
          exact ⟨_, by simp only [b_M_step_19, show (5 : Int32) ≤ nI 5 by decide, if_true], rfl⟩)
        (v := u) trivial
      have m1' := m_isBundle hM10 hv.2.1.2.2 (nI B)
      rw [if_pos ha] at m1'
      subst q2
      generalize hx : (if h : fa_first stop 5 < 5 then some (fa_first stop 5) else none) = x at r1 q1
      have r1' : ziter (fun s : Int32 × ZSt => b_Finder_stepWithFewer_2 (nI B) (nI n) s.1 s.2) zfu (0, u) = _ := r1
      have q1' : ziter (fun s : Int32 => b_M_step_19 (nI n) s y) zfu 0 = _ := q1
      cases x with
      | none =>
        refine ⟨-2, v, y, ?_, ?_, hsy⟩
        · simp only [f_X_step, x1, Option.bind_some, c10, if_false, b1, b2, if_true, f_Finder_stepWithFewer, r1', Sum.elim_inl, a_Finder_stepWithFewer_2]
        · simp only [f_M_step, m1', m2, Option.bind_some, c10, if_false, y1', q1', Sum.elim_inl, a_M_step_19]
      | some k =>
        refine ⟨nI k, v, y, ?_, ?_, hsy⟩
        · simp only [f_X_step, x1, Option.bind_some, c10, if_false, b1, b2, if_true, f_Finder_stepWithFewer, r1', Sum.elim_inr]
        · simp only [f_M_step, m1', m2, Option.bind_some, c10, if_false, y1', q1', Sum.elim_inr]
    · rw [if_neg hb] at m2
      refine ⟨-1, u, u, ?_, ?_, zfr_rf u⟩
      · simp only [f_X_step, x1, Option.bind_some, c10, if_false]
        by_cases b1 : b < 1
        · rw [if_pos b1]
        · rw [if_neg b1, if_neg]
          rw [fa_lt, show (1 : Int32).toInt = 1 from rfl] at b1
          rw [fa_le, show (10 : Int32).toInt = 10 from rfl]; omega
      · simp only [f_M_step, m1, m2, Option.bind_some, c10, if_false, if_true]
  · rw [if_neg ha] at x1 m1
    refine ⟨-1, u, u, ?_, ?_, zfr_rf u⟩
    · simp only [f_X_step, x1, Option.bind_some, if_true]
    · simp only [f_M_step, m1, Option.bind_some, if_true]
