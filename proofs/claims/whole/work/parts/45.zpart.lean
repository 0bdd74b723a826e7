/-! parted -/
theorem zfo_add {α : Type} (g : Nat → α → α) : ∀ d e a x, zfo g a (d + e) x = zfo g (a + d) e (zfo g a d x) := by
  intro d
  induction d with
  | zero => intro e a x; rw [Nat.zero_add, Nat.add_zero]; rfl
  | succ d ih =>
    intro e a x
    rw [show d + 1 + e = (d + e) + 1 by omega]
    show zfo g (a + 1) (d + e) (g a x) = zfo g (a + (d + 1)) e (zfo g (a + 1) d (g a x))
    rw [ih, show a + 1 + d = a + (d + 1) by omega]
def zPs (s b : Nat) : Bool := decide (b &&& (s ^^^ 1023) = 0) && decide (b &&& 2 ^ zlb s ≠ 0)
def zps (G t : Nat → Nat) (s b : Nat) (x : Option (Nat × Nat)) : Option (Nat × Nat) :=
  if zPs s b = true then (match x with | none => some (G b + t (s &&& (b ^^^ 1023)), b) | some (m, f) => if G b + t (s &&& (b ^^^ 1023)) ≤ m then some (m, f) else some (G b + t (s &&& (b ^^^ 1023)), b)) else x
def zpt (G : Nat → Nat) : Nat → Nat → Nat × Nat
  | 0 => fun _ => (0, 0)
  | k + 1 => fun i => if i = k + 1 then (zfo (zps G (fun j => (zpt G k j).1) (k + 1)) 1 (k + 1) none).getD (0, 0) else zpt G k i
theorem zpt_st (G : Nat → Nat) {i : Nat} : ∀ {k : Nat}, i ≤ k → zpt G k i = zpt G i i := by
  intro k
  induction k with
  | zero => intro h; have : i = 0 := by omega
            subst this; rfl
  | succ k ih =>
    intro h
    rcases Nat.lt_or_ge i (k + 1) with q | q
    · rw [← ih (by omega)]
      show (if i = k + 1 then _ else zpt G k i) = _
      rw [if_neg (by omega)]
    · have : i = k + 1 := by omega
      subst this; rfl
def zmst (G : Nat → Nat) (i : Nat) : Nat := (zpt G i i).1
def zfst (G : Nat → Nat) (i : Nat) : Nat := (zpt G i i).2
theorem zlb_tb {s : Nat} (hs : s < 1024) (h0 : 0 < s) : s.testBit (zlb s) = true := fa_first_yes (fun i => s.testBit i) 10 (z_low s hs h0).2.2
theorem zPs_b {s b : Nat} (h : zPs s b = true) : b.testBit (zlb s) = true ∧ b &&& (s ^^^ 1023) = 0 := by
  unfold zPs at h
  simp only [Bool.and_eq_true, decide_eq_true_eq] at h
  refine ⟨?_, h.1⟩
  cases e : b.testBit (zlb s) with
  | true => rfl
  | false =>
    exfalso
    refine h.2 (Nat.eq_of_testBit_eq (fun i => ?_))
    rw [Nat.testBit_and, Nat.testBit_two_pow, Nat.zero_testBit]
    by_cases q : zlb s = i
    · subst q; rw [e]; rfl
    · simp [q]
theorem zPs_lt {s b : Nat} (hs : s < 1024) (h0 : 0 < s) (h : zPs s b = true) : s &&& (b ^^^ 1023) < s := by
  have hb := (zPs_b h).1
  have h1 : s &&& (b ^^^ 1023) ≤ s := Nat.and_le_left
  rcases Nat.lt_or_ge (s &&& (b ^^^ 1023)) s with q | q
  · exact q
  · exfalso
    have e : s &&& (b ^^^ 1023) = s := by omega
    have := congrArg (fun n => n.testBit (zlb s)) e
    simp only [Nat.testBit_and, Nat.testBit_xor, show (1023 : Nat) = 2 ^ 10 - 1 from rfl, Nat.testBit_two_pow_sub_one, zlb_tb hs h0, hb, (z_low s hs h0).2.2, decide_true, Bool.xor_self, Bool.and_false] at this
    exact absurd this (by decide)
theorem zPs_s {s : Nat} (hs : s < 1024) (h0 : 0 < s) : zPs s s = true := by
  have hb := zlb_tb hs h0
  unfold zPs
  simp only [Bool.and_eq_true, decide_eq_true_eq]
  constructor
  · refine Nat.eq_of_testBit_eq (fun i => ?_)
    rw [Nat.testBit_and, Nat.testBit_xor, show (1023 : Nat) = 2 ^ 10 - 1 from rfl, Nat.testBit_two_pow_sub_one, Nat.zero_testBit]
    by_cases e : i < 10
    · simp [e]
    · rw [Nat.testBit_lt_two_pow (Nat.lt_of_lt_of_le hs (Nat.pow_le_pow_right (by decide) (by omega) : 2 ^ 10 ≤ 2 ^ i))]; rfl
  · intro e
    have := congrArg (fun n => n.testBit (zlb s)) e
    simp only [Nat.testBit_and, Nat.testBit_two_pow_self, hb, Nat.zero_testBit] at this
    exact absurd this (by decide)
theorem zmst_0 (G : Nat → Nat) : zmst G 0 = 0 := rfl
theorem zmst_eq (G : Nat → Nat) {s : Nat} (hs : s < 1024) (h0 : 0 < s) : ∃ f, zfo (zps G (zmst G) s) 1 s none = some (zmst G s, zfst G s) ∧ f = zfst G s ∧ zPs s f = true ∧ f ≤ s := by
  obtain ⟨k, hk⟩ : ∃ k, s = k + 1 := ⟨s - 1, by omega⟩
  subst hk
  have e : zfo (zps G (fun j => (zpt G k j).1) (k + 1)) 1 (k + 1) none = zfo (zps G (zmst G) (k + 1)) 1 (k + 1) none := by
    refine zfo_c (fun _ _ => True) (k + 1) 1 none (fun b x hb1 hb2 _ => ⟨?_, trivial⟩) trivial
    unfold zps
    by_cases q : zPs (k + 1) b = true
    · have hlt := zPs_lt hs h0 q
      have : (zpt G k (k + 1 &&& (b ^^^ 1023))).1 = zmst G (k + 1 &&& (b ^^^ 1023)) := by
        unfold zmst; rw [zpt_st G (show k + 1 &&& (b ^^^ 1023) ≤ k by omega)]
      simp only [this]
    · rw [if_neg q, if_neg q]
  have hp : zpt G (k + 1) (k + 1) = (zfo (zps G (zmst G) (k + 1)) 1 (k + 1) none).getD (0, 0) := by
    show (if k + 1 = k + 1 then _ else _) = _
    rw [if_pos rfl, e]
  have hI := zfo_I (g := zps G (zmst G) (k + 1)) (fun _ x => ∀ m f, x = some (m, f) → zPs (k + 1) f = true ∧ f ≤ k + 1) (k + 1) 1 none (by
    intro b x hb1 hb2 hx m f hmf
    unfold zps at hmf
    by_cases q : zPs (k + 1) b = true
    · rw [if_pos q] at hmf
      cases x with
      | none => cases hmf; exact ⟨q, by omega⟩
      | some y =>
        obtain ⟨m1, f1⟩ := y
        dsimp only at hmf
        split at hmf
        · cases hmf; exact hx _ _ rfl
        · cases hmf; exact ⟨q, by omega⟩
    · rw [if_neg q] at hmf
      exact hx m f hmf) (by intro m f h; cases h)
  have hne : ∃ y, zfo (zps G (zmst G) (k + 1)) 1 (k + 1) none = some y := by
    rw [zfo_add _ k 1 1 none]
    show ∃ y, zps G (zmst G) (k + 1) (1 + k) _ = some y
    rw [Nat.add_comm 1 k]
    unfold zps
    rw [if_pos (zPs_s hs h0)]
    split
    · exact ⟨_, rfl⟩
    · split <;> exact ⟨_, rfl⟩
  obtain ⟨y, hy⟩ := hne
  rw [hy] at hp hI
  have e1 : zmst G (k + 1) = y.1 := by unfold zmst; rw [hp]; rfl
  have e2 : zfst G (k + 1) = y.2 := by unfold zfst; rw [hp]; rfl
  obtain ⟨h1, h2⟩ := hI y.1 y.2 rfl
  refine ⟨y.2, by rw [hy, e1, e2], e2.symm, h1, h2⟩
theorem zmst_le {G : Nat → Nat} (hG : ∀ b, G b ≤ 10) : ∀ s, s < 1024 → zmst G s ≤ 10 * s := by
  intro s
  induction s using Nat.strongRecOn with
  | ind s ih =>
    intro hs
    rcases Nat.eq_zero_or_pos s with e | h0
    · subst e; rw [zmst_0]; exact Nat.zero_le _
    · obtain ⟨f, f1, -⟩ := zmst_eq G hs h0
      have hI := zfo_I (g := zps G (zmst G) s) (fun _ x => ∀ m f, x = some (m, f) → m ≤ 10 * s) s 1 none (by
        intro b x hb1 hb2 hx m f hmf
        unfold zps at hmf
        by_cases q : zPs s b = true
        · have hlt := zPs_lt hs h0 q
          have h1 := ih _ hlt (by omega)
          have h2 := hG b
          rw [if_pos q] at hmf
          cases x with
          | none => cases hmf; omega
          | some y =>
            obtain ⟨m1, f1⟩ := y
            dsimp only at hmf
            split at hmf
            · cases hmf; exact hx _ _ rfl
            · cases hmf; omega
        · rw [if_neg q] at hmf
          exact hx m f hmf) (by intro m f h; cases h)
      rw [f1] at hI
      exact hI _ _ rfl
theorem z_pscond {s b : Nat} (hs : s < 1024) (h0 : 0 < s) (hb : b < 1024) : ((nI b &&& (nI s ^^^ (-1 : Int32)) = 0) = (b &&& (s ^^^ 1023) = 0)) ∧ ((nI b &&& (nI s &&& (-nI s)) = 0) = (b &&& 2 ^ zlb s = 0)) := by
  have h1 := z_and_lt hb (s ^^^ 1023)
  have h2 := z_and_lt hb (2 ^ zlb s)
  constructor
  · rw [z_andn hb, show (0 : Int32) = nI 0 from rfl]; exact propext (nI_eq (by omega) (by decide))
  · rw [(z_low s hs h0).2.1, fa_and, show (0 : Int32) = nI 0 from rfl]; exact propext (nI_eq (by omega) (by decide))
theorem zPs_iff (s b : Nat) : zPs s b = true ↔ (b &&& (s ^^^ 1023) = 0 ∧ ¬ b &&& 2 ^ zlb s = 0) := by
  unfold zPs; simp only [Bool.and_eq_true, decide_eq_true_eq]
theorem zlb_le {s : Nat} (hs : s < 1024) (h0 : 0 < s) : 2 ^ zlb s ≤ s := Nat.ge_two_pow_of_testBit (zlb_tb hs h0)
theorem zfo_no (G t : Nat → Nat) (s L : Nat) (hL : L = 2 ^ zlb s) : ∀ d, 1 + d ≤ L → zfo (zps G t s) 1 d none = none := by
  intro d
  induction d with
  | zero => intro _; rfl
  | succ d ih =>
    intro hd
    rw [zfo_add _ d 1 1 none, ih (by omega)]
    show zps G t s (1 + d) none = none
    unfold zps
    rw [if_neg]
    intro q
    have := (zPs_b q).1
    rw [Nat.testBit_lt_two_pow (show 1 + d < 2 ^ zlb s by omega)] at this
    exact absurd this (by decide)
theorem zfo_low (G t : Nat → Nat) {s : Nat} (hs : s < 1024) (h0 : 0 < s) : zfo (zps G t s) 1 s none = zfo (zps G t s) (2 ^ zlb s) (s + 1 - 2 ^ zlb s) none := by
  have hl := zlb_le hs h0
  have hp := Nat.two_pow_pos (zlb s)
  have hn := zfo_no G t s (2 ^ zlb s) rfl
  generalize 2 ^ zlb s = L at *
  have e := zfo_add (zps G t s) (L - 1) (s + 1 - L) 1 none
  rw [show L - 1 + (s + 1 - L) = s by omega, show 1 + (L - 1) = L by omega, hn (L - 1) (by omega)] at e
  exact e
def zRp (G : Nat → Nat) (a b : Nat) (k : Nat) (v : ZSt) : Prop := (∀ i, i < k → v.2.1 a i = nI (zmst G i)) ∧ ∀ i, 1 ≤ i → i < k → v.2.1 b i = nI (zfst G i)
def zRx (a b s : Nat) (x : Option (Nat × Nat)) (v : ZSt) : Prop := match x with | none => v.2.1 a s = -1 | some (m, f) => v.2.1 a s = nI m ∧ v.2.1 b s = nI f ∧ m ≤ 10 * s
/-- one more bundle looked at: the rows a (how many) and b (which) -/
theorem z_pstep {G : Nat → Nat} (hG : ∀ b, G b ≤ 10) {a b s c : Nat} (hab : a ≠ b) (hs : s < 64) (h0 : 0 < s) (hc : 1 ≤ c) (hcs : c ≤ s) {v : ZSt} {x : Option (Nat × Nat)} (h1 : zRp G a b s v) (h2 : zRx a b s x v) {α : Type} (y : ZSt → α) :
    ∃ v', (if b = b then (if zPs s c = true then (if nI (G c) + v.2.1 a (s &&& (c ^^^ 1023)) ≤ v.2.1 a s then some (y v) else some (y (za (za v a s (nI (G c) + v.2.1 a (s &&& (c ^^^ 1023)))) b s (nI c)))) else some (y v)) else none) = some (y v') ∧ zfr [] [a, b] [] v v' ∧ zRp G a b s v' ∧ zRx a b s (zps G (zmst G) s c x) v' := by
  rw [if_pos rfl]
  by_cases q : zPs s c = true
  · have hlt := zPs_lt (show s < 1024 by omega) h0 q
    have hl := zmst_le hG (s &&& (c ^^^ 1023)) (by omega)
    have hg := hG c
    rw [if_pos q, h1.1 _ hlt, nI_add]
    have upd2 : zRp G a b s (za (za v a s (nI (G c + zmst G (s &&& (c ^^^ 1023))))) b s (nI c)) := by
      refine ⟨fun i hi => ?_, fun i hi hi2 => ?_⟩
      · rw [za_k _ _ _ hab, za_i _ _ _ (by omega)]; exact h1.1 i hi
      · rw [za_i _ _ _ (by omega), za_k _ _ _ (fun e => hab e.symm)]; exact h1.2 i hi hi2
    have fr : zfr [] [a, b] [] v (za (za v a s (nI (G c + zmst G (s &&& (c ^^^ 1023))))) b s (nI c)) := ((zfr_rf v).a _ (List.mem_cons_self ..)).a _ (List.mem_cons_of_mem _ (List.mem_cons_self ..))
    have rx : zRx a b s (some (G c + zmst G (s &&& (c ^^^ 1023)), c)) (za (za v a s (nI (G c + zmst G (s &&& (c ^^^ 1023))))) b s (nI c)) :=
      ⟨by rw [za_k _ _ _ hab, za_s], by rw [za_s], by omega⟩
    cases x with
    | none =>
      have e : zps G (zmst G) s c none = some (G c + zmst G (s &&& (c ^^^ 1023)), c) := by unfold zps; rw [if_pos q]
      have h2' : v.2.1 a s = -1 := h2
      have n1 : ¬ nI (G c + zmst G (s &&& (c ^^^ 1023))) ≤ -1 := by rw [fa_le, nI_toInt (by omega), show (-1 : Int32).toInt = -1 by decide]; omega
      rw [h2', if_neg n1, e]
      exact ⟨_, rfl, fr, upd2, rx⟩
    | some z =>
      obtain ⟨m, f⟩ := z
      obtain ⟨g1, g2, g3⟩ := h2
      rw [g1]
      by_cases e1 : G c + zmst G (s &&& (c ^^^ 1023)) ≤ m
      · have e : zps G (zmst G) s c (some (m, f)) = some (m, f) := by unfold zps; rw [if_pos q]; dsimp only; rw [if_pos e1]
        rw [if_pos ((nI_leI (by omega) (by omega)).mpr e1), e]
        exact ⟨v, rfl, zfr_rf v, h1, g1, g2, g3⟩
      · have e : zps G (zmst G) s c (some (m, f)) = some (G c + zmst G (s &&& (c ^^^ 1023)), c) := by unfold zps; rw [if_pos q]; dsimp only; rw [if_neg e1]
        rw [if_neg (fun w => e1 ((nI_leI (by omega) (by omega)).mp w)), e]
        exact ⟨_, rfl, fr, upd2, rx⟩
  · have e : zps G (zmst G) s c x = x := by unfold zps; rw [if_neg q]
    rw [if_neg q, e]
    exact ⟨v, rfl, zfr_rf v, h1, h2⟩
