/-! sums, touched ones, the nearest: both sides over the same numbers -/
def zfo {α : Type} (g : Nat → α → α) : Nat → Nat → α → α
  | _, 0, x => x
  | a, d + 1, x => zfo g (a + 1) d (g a x)
theorem zit_f {σ ρ α : Type} {B : σ → Option (σ ⊕ ρ)} (mk : Nat → α → ZSt → σ) (fin : α → ZSt → ρ) (R : Nat → α → ZSt → Prop) (g : Nat → α → α) {a n : Nat} {x : α} {v : ZSt} (han : a ≤ n) (hn : n - a < 1048576)
    (hs : ∀ k x v, a ≤ k → k < n → R k x v → ∃ v', B (mk k x v) = some (.inl (mk (k + 1) (g k x) v')) ∧ R (k + 1) (g k x) v') (he : ∀ x v, R n x v → B (mk n x v) = some (.inr (fin x v))) (h0 : R a x v) :
    ∃ v', ziter B zfu (mk a x v) = some (fin (zfo g a (n - a) x) v') ∧ R n (zfo g a (n - a) x) v' := by
  have key : ∀ d b x v F, a ≤ b → b + d = n → d < F → R b x v → ∃ v', ziter B F (mk b x v) = some (fin (zfo g b d x) v') ∧ R n (zfo g b d x) v' := by
    intro d
    induction d with
    | zero =>
      intro b x v F hab hb hF hR
      obtain ⟨F, rfl⟩ := Nat.exists_eq_succ_of_ne_zero (show F ≠ 0 by omega)
      have : b = n := by omega
      subst this
      exact ⟨v, ziter_r (he x v hR), hR⟩
    | succ d ih =>
      intro b x v F hab hb hF hR
      obtain ⟨F, rfl⟩ := Nat.exists_eq_succ_of_ne_zero (show F ≠ 0 by omega)
      obtain ⟨v', h1, h2⟩ := hs b x v hab (by omega) hR
      obtain ⟨w, h3, h4⟩ := ih (b + 1) (g b x) v' F (by omega) (by omega) (by omega) h2
      exact ⟨w, (ziter_l h1).trans h3, h4⟩
  exact key (n - a) a x v zfu (Nat.le_refl _) (by omega) (by rw [zfu_eq]; omega) h0
theorem zfo_c {α : Type} {g h : Nat → α → α} (I : Nat → α → Prop) : ∀ d a x, (∀ k x, a ≤ k → k < a + d → I k x → g k x = h k x ∧ I (k + 1) (g k x)) → I a x → zfo g a d x = zfo h a d x := by
  intro d
  induction d with
  | zero => intro a x _ _; rfl
  | succ d ih =>
    intro a x hk hI
    obtain ⟨e, hI2⟩ := hk a x (Nat.le_refl _) (by omega) hI
    show zfo g (a + 1) d (g a x) = zfo h (a + 1) d (h a x)
    rw [← e]
    exact ih (a + 1) (g a x) (fun k x h1 h2 => hk k x (by omega) (by omega)) hI2
theorem zfo_I {α : Type} {g : Nat → α → α} (I : Nat → α → Prop) : ∀ d a x, (∀ k x, a ≤ k → k < a + d → I k x → I (k + 1) (g k x)) → I a x → I (a + d) (zfo g a d x) := by
  intro d
  induction d with
  | zero => intro a x _ h; exact h
  | succ d ih =>
    intro a x hk hI
    have := ih (a + 1) (g a x) (fun k x h1 h2 => hk k x (by omega) (by omega)) (hk a x (Nat.le_refl _) (by omega) hI)
    rw [show a + (d + 1) = a + 1 + d by omega]
    exact this
/-! bits -/
def zbits (f : Nat → Bool) : Nat → Nat
  | 0 => 0
  | p + 1 => zbits f p ||| (if f p then 2 ^ p else 0)
theorem zbits_lt (f : Nat → Bool) : ∀ n, zbits f n < 2 ^ n := by
  intro n
  induction n with
  | zero => exact Nat.one_pos
  | succ n ih =>
    rw [zbits]
    refine Nat.or_lt_two_pow (Nat.lt_of_lt_of_le ih (Nat.pow_le_pow_right (by decide) (Nat.le_succ n))) ?_
    split
    · exact Nat.pow_lt_pow_right (by decide) (Nat.lt_succ_self n)
    · exact Nat.two_pow_pos _
theorem zbits_tb (f : Nat → Bool) (p : Nat) : ∀ n, (zbits f n).testBit p = (decide (p < n) && f p) := by
  intro n
  induction n with
  | zero => simp [zbits]
  | succ n ih =>
    rw [zbits, Nat.testBit_or, ih]
    by_cases e : p = n
    · subst e
      cases h : f p <;> simp
    · have : (if f n = true then 2 ^ n else 0).testBit p = false := by
        split
        · rw [Nat.testBit_two_pow]; simp; omega
        · simp
      rw [this, Bool.or_false]
      by_cases h1 : p < n
      · simp [h1, show p < n + 1 by omega]
      · simp [h1, show ¬ p < n + 1 by omega]
theorem zbits_c {f g : Nat → Bool} : ∀ {n : Nat}, (∀ p, p < n → f p = g p) → zbits f n = zbits g n := by
  intro n
  induction n with
  | zero => intro _; rfl
  | succ n ih => intro h; rw [zbits, zbits, ih (fun p hp => h p (by omega)), h n (by omega)]
theorem zbits_step (f : Nat → Bool) {k : Nat} (hk : k < 31) : nI (zbits f k) ||| (if f k then (1 : Int32) <<< (nI k &&& 31) else 0) = nI (zbits f (k + 1)) := by
  rw [zbits]
  by_cases h : f k = true
  · rw [if_pos h, if_pos h, zn_p (by omega), fa_or]
  · rw [if_neg h, if_neg h, show (0 : Int32) = nI 0 from rfl, fa_or]
theorem z_1024 {P : Nat} (hP : P ≤ 10) {w : Nat} (h : w < 2 ^ P) : w < 1024 := Nat.lt_of_lt_of_le h (Nat.pow_le_pow_right (by decide) hP : 2 ^ P ≤ 2 ^ 10)
/-! the numbers of it -/
def zsi (f : Nat → Int32) (b : Nat) : Nat → Int32
  | 0 => 0
  | m + 1 => if b.testBit m then zsi f b m + f m else zsi f b m
def zsn (f : Nat → Nat) (b : Nat) : Nat → Nat
  | 0 => 0
  | m + 1 => if b.testBit m then zsn f b m + f m else zsn f b m
theorem zsi_n {f : Nat → Int32} {g : Nat → Nat} (b : Nat) : ∀ {M : Nat}, (∀ m, m < M → f m = nI (g m)) → zsi f b M = nI (zsn g b M) := by
  intro M
  induction M with
  | zero => intro _; rfl
  | succ M ih =>
    intro h
    rw [zsi, zsn, ih (fun m hm => h m (by omega)), h M (by omega)]
    split
    · rw [nI_add]
    · rfl
theorem zsn_le {g : Nat → Nat} (b : Nat) : ∀ {M : Nat}, (∀ m, m < M → g m ≤ 99) → zsn g b M ≤ 99 * M := by
  intro M
  induction M with
  | zero => intro _; exact Nat.le_refl _
  | succ M ih =>
    intro h
    have := ih (fun m hm => h m (by omega))
    have := h M (by omega)
    rw [zsn]
    split <;> omega
theorem zsi_le {f : Nat → Int32} (b : Nat) : ∀ {M : Nat}, M ≤ 6 → (∀ m, m < M → -9 ≤ (f m).toInt ∧ (f m).toInt ≤ 9) → -9 * (M : Int) ≤ (zsi f b M).toInt ∧ (zsi f b M).toInt ≤ 9 * M := by
  intro M
  induction M with
  | zero => intro _ _; exact ⟨show -9 * ((0 : Nat) : Int) ≤ (0 : Int32).toInt by decide, show (0 : Int32).toInt ≤ 9 * ((0 : Nat) : Int) by decide⟩
  | succ M ih =>
    intro hM h
    have h1 := ih (by omega) (fun m hm => h m (by omega))
    have h2 := h M (by omega)
    rw [zsi]
    split
    · rw [Int32.toInt_add, Int.bmod_def]
      simp only [show (2 ^ 32 : Nat) = 4294967296 from rfl]
      omega
    · omega
def zT (u : ZSt) (p m : Nat) : Nat := (u.2.1 40 (6 * p + m)).toNatClampNeg
theorem zT_ok {u : ZSt} (h3 : zR3 u) {p m : Nat} (hp : p < 10) (hm : m < 6) : u.2.1 40 (6 * p + m) = nI (zT u p m) ∧ zT u p m ≤ 99 := by
  have := (h3 (6 * p + m) (by omega)).2
  unfold zokv at this
  rw [if_pos (by omega)] at this
  obtain ⟨f, f1, f2⟩ := z_le99 (n := 99) this
  unfold zT
  rw [f2, zn_cl (by omega)]
  exact ⟨rfl, f1⟩
def zown (u : ZSt) (M f g p : Nat) : Nat := zsn (zT u p) f M + if g.testBit p then 1 else 0
theorem zown_le {u : ZSt} (h3 : zR3 u) {M : Nat} (hM : M ≤ 6) (f g : Nat) {p : Nat} (hp : p < 10) : zown u M f g p ≤ 600 := by
  have := zsn_le (g := zT u p) f (M := M) (fun m hm => (zT_ok h3 hp (by omega)).2)
  unfold zown
  split <;> omega
def zlik (u : ZSt) (M b p : Nat) : Int32 := zsi (fun m => u.2.1 40 (60 + (6 * p + m))) b M
theorem zlik_le {u : ZSt} (h3 : zR3 u) {M : Nat} (hM : M ≤ 6) (b : Nat) {p : Nat} (hp : p < 10) : -54 ≤ (zlik u M b p).toInt ∧ (zlik u M b p).toInt ≤ 54 := by
  have := zsi_le (f := fun m => u.2.1 40 (60 + (6 * p + m))) b (M := M) hM (fun m hm => by
    have := (h3 (60 + (6 * p + m)) (by omega)).2
    unfold zokv at this
    rw [if_neg (by omega), if_pos (by omega)] at this
    exact this)
  unfold zlik
  omega
theorem x_sum {u : ZSt} {M : Nat} (hM : M ≤ 6) (h2 : u.1 105 = nI M) (h3 : zR3 u) {p b : Nat} (hp : p < 10) (hb : b < 2 ^ 31) {c : Nat} (hc : c ≤ 1) : f_Council_sumOf (nI p) (nI b) (nI c) u = some (zsi (fun m => u.2.1 40 (60 * c + (6 * p + m))) b M) := by
  have key : ziter (fun s : Int32 × Int32 => b_Council_sumOf_4 (nI p) (nI b) (nI c) s.1 s.2 u) zfu (0, 0) = some (zsi (fun m => u.2.1 40 (60 * c + (6 * p + m))) b M, nI M) := by
    refine zit_eq (B := fun s : Int32 × Int32 => b_Council_sumOf_4 (nI p) (nI b) (nI c) s.1 s.2 u) M (fun k => (zsi (fun m => u.2.1 40 (60 * c + (6 * p + m))) b k, nI k)) _ (by omega) ?_ ?_
    · intro k hk
      have n1 : ¬ nI M ≤ nI k := by rw [nI_leI (by omega) (by omega)]; omega
      simp only [b_Council_sumOf_4, h2, n1, if_false, zb_u hb (show k < 32 by omega), zsi]
      by_cases e : b.testBit k = true
      · have hz : zph (60 * c + (6 * p + k)) = c * 100 + 10 * p + k := by
          rcases (show c = 0 ∨ c = 1 by omega) with rfl | rfl
          · rw [show 60 * 0 + (6 * p + k) = 6 * p + k by omega, zph0 hp (by omega)]; omega
          · rw [show 60 * 1 + (6 * p + k) = 60 + (6 * p + k) by omega, zph1 hp (by omega)]; omega
        have ht := x_toldAt (u := u) (j := c * 100 + 10 * p + k) (by omega)
        rw [← hz, (h3 _ (by omega)).1, hz] at ht
        rw [if_pos e, if_pos e, if_neg (by decide), show (100 : Int32) = nI 100 from rfl, show (10 : Int32) = nI 10 from rfl, pk_mul, pk_mul, nI_add, nI_add, ht]
        simp only [Option.bind_some, nI_1]
      · rw [if_neg e, if_neg e, if_pos rfl, nI_1]
    · have n1 : nI M ≤ nI M := by rw [nI_leI (by omega) (by omega)]; exact Nat.le_refl _
      simp only [b_Council_sumOf_4, h2, n1, if_true]
  simp only [f_Council_sumOf, key, Option.bind_some, a_Council_sumOf_4]
theorem x_sum0 {u : ZSt} {M : Nat} (hM : M ≤ 6) (h2 : u.1 105 = nI M) (h3 : zR3 u) {p b : Nat} (hp : p < 10) (hb : b < 2 ^ 31) : f_Council_sumOf (nI p) (nI b) 0 u = some (nI (zsn (zT u p) b M)) := by
  have h := x_sum hM h2 h3 hp hb (c := 0) (by decide)
  rw [← zsi_n (f := fun m => u.2.1 40 (60 * 0 + (6 * p + m))) b (fun m hm => by
    rw [Nat.mul_zero, Nat.zero_add]; exact (zT_ok h3 hp (by omega)).1)]
  exact h
theorem x_sum1 {u : ZSt} {M : Nat} (hM : M ≤ 6) (h2 : u.1 105 = nI M) (h3 : zR3 u) {p b : Nat} (hp : p < 10) (hb : b < 2 ^ 31) : f_Council_sumOf (nI p) (nI b) 1 u = some (zlik u M b p) := x_sum hM h2 h3 hp hb (c := 1) (by decide)
/-! the one relation of all that is told; scratch rows -/
def zRB (u : ZSt) (P M : Nat) (adj : Nat → Nat) : Prop := zR1 u P ∧ zR2 u M ∧ zR3 u ∧ zR5 u P adj ∧ zR6 u ∧ zR8 u
def zsd (u v : ZSt) : Prop := zfr [1904, 3917, 3918, 3919, 3920, 3921, 3925] [18, 20, 21, 23, 24, 25, 26, 34, 48, 49, 50, 51, 52, 53, 54] [] u v
theorem zRB.sd {u v : ZSt} {P M : Nat} {adj : Nat → Nat} (h : zRB u P M adj) (f : zsd u v) : zRB v P M adj := by
  obtain ⟨⟨a1, a2, a3, a4⟩, ⟨b1, b2, b3⟩, c1, ⟨d1, ⟨C, d2, d3, d4⟩, d5, d6⟩, ⟨K, Q, e1, e2, e3, e4, e5, e6⟩, g⟩ := h
  refine ⟨⟨a1, (f.g 103).trans a2, (f.g 3906).trans a3, ?_⟩, ⟨b1, (f.g 105).trans b2, (f.g 3907).trans b3⟩, ?_, ⟨d1, ⟨C, d2, (f.g 104).trans d3, (f.g 3909).trans d4⟩, ?_, ?_⟩, ⟨K, Q, e1, e2, (f.g 106).trans e3, (f.g 3911).trans e4, (f.g 107).trans e5, (f.g 3912).trans e6⟩, ?_⟩
  · rw [f.ga 2, f.ga 44]; exact a4
  · unfold zR3; rw [f.ga 4, f.ga 40]; exact c1
  · rw [f.ga 45]; exact d5
  · rw [f.ga 3]; exact d6
  · rcases g with ⟨g1, g2⟩ | ⟨n, t, c, g1, g2, g3, g4, g5, g6, g7, g8, g9⟩
    · exact Or.inl ⟨(f.g 3916).trans g1, (f.g 1503).trans g2⟩
    · refine Or.inr ⟨n, t, c, g1, g2, ?_, (f.g 3916).trans g4, g5, g6, g7, (f.g 1503).trans g8, ?_⟩
      · rw [f.ga 47]; exact g3
      · rw [f.ga 16, f.ga 17]; exact g9
theorem zT_sd {u v : ZSt} (f : zsd u v) : zT v = zT u := by
  funext p m; unfold zT; rw [f.ga 40]
theorem zown_sd {u v : ZSt} (f : zsd u v) (M a b p : Nat) : zown v M a b p = zown u M a b p := by
  unfold zown; rw [zT_sd f]
theorem zlik_sd {u v : ZSt} (f : zsd u v) (M b p : Nat) : zlik v M b p = zlik u M b p := by
  unfold zlik; rw [f.ga 40]
def ztc (u : ZSt) (P M f g : Nat) : Nat := zbits (fun p => decide (0 < zown u M f g p)) P
theorem x_weigh {u v : ZSt} {P M : Nat} {adj : Nat → Nat} (h : zRB u P M adj) (hv : zsd u v) {f g : Nat} (hf : f < 1024) (hg : g < 1024) :
    ∃ w, f_Ballot_weigh (nI f) (nI g) v = some w ∧ zsd u w ∧ (∀ p, p < P → w.2.1 20 p = nI (zown u M f g p)) ∧ w.1 1904 = nI (ztc u P M f g) ∧ zfr [1904] [20] [] v w := by
  have hP := h.1.1
  have hM := h.2.1.1
  obtain ⟨w, h1, h2⟩ := zit_f (B := fun s : Int32 × ZSt => b_Ballot_weigh_5 (nI f) (nI g) s.1 s.2) (α := Unit) (fun k _ v => (nI k, v)) (fun _ v => (nI P, v))
    (fun k _ w => zsd u w ∧ (∀ p, p < k → w.2.1 20 p = nI (zown u M f g p)) ∧ w.1 1904 = nI (zbits (fun p => decide (0 < zown u M f g p)) k) ∧ zfr [1904] [20] [] v w) (fun _ x => x) (a := 0) (n := P) (x := ()) (v := zs v 1904 0) (Nat.zero_le _) (by omega)
    (by
      rintro k - w - hk ⟨w1, w2, w3, w4⟩
      have hB := h.sd w1
      have n1 : ¬ nI P ≤ nI k := by rw [nI_leI (by omega) (by omega)]; omega
      have n2 : ¬ (10 : Int32) ≤ nI k := by rw [show (10 : Int32) = nI 10 from rfl, nI_leI (by decide) (by omega)]; omega
      have hs := x_sum0 hB.2.1.1 hB.2.1.2.1 hB.2.2.1 (p := k) (b := f) (by omega) (by omega)
      rw [zT_sd w1] at hs
      have hz : nI (zsn (zT u k) f M) + (zushr (nI g) (nI k) &&& 1) = nI (zown u M f g k) := by
        rw [zb_u (by omega) (by omega)]
        unfold zown
        split
        · rw [show (1 : Int32) = nI 1 from rfl, nI_add]
        · rw [show (0 : Int32) = nI 0 from rfl, nI_add]
      have hle := zown_le h.2.2.1 hM f g (p := k) (by omega)
      refine ⟨zs (za w 20 k (nI (zown u M f g k))) 1904 (nI (zbits (fun p => decide (0 < zown u M f g p)) (k + 1))), ?_, (w1.a _ (by decide)).s _ (by decide), ?_, rfl, (w4.a _ (by decide)).s _ (by decide)⟩
      · have e0 : (za w 20 k (nI (zown u M f g k))).2.1 20 k = nI (zown u M f g k) := by
          show upd (w.2.1 20) k _ k = _
          rw [upd1, if_pos rfl]
        have st := zbits_step (fun p => decide (0 < zown u M f g p)) (k := k) (by omega)
        simp only [b_Ballot_weigh_5, hB.1.2.1, n1, n2, if_false, hs, Option.bind_some, zif (zn_zin (show k < 10 by omega) (show 10 < 2 ^ 31 by decide)), zn_cl (show k < 2 ^ 31 by omega), hz, e0, w3, nI_1]
        by_cases e : 0 < zown u M f g k
        · have : ¬ nI (zown u M f g k) ≤ 0 := by rw [show (0 : Int32) = nI 0 from rfl, nI_leI (by omega) (by decide)]; omega
          rw [if_neg this]
          rw [if_pos (by simpa using e)] at st
          rw [st]
        · have : nI (zown u M f g k) ≤ 0 := by rw [show (0 : Int32) = nI 0 from rfl, nI_leI (by omega) (by decide)]; omega
          rw [if_pos this]
          rw [if_neg (by simpa using e)] at st
          rw [st]
      · intro p hp
        show upd (w.2.1 20) k _ p = _
        rw [upd1]
        by_cases e : p = k
        · rw [if_pos e, e]
        · rw [if_neg e]; exact w2 p (by omega))
    (by
      rintro - w ⟨w1, w2, w3, w4⟩
      have n1 : nI P ≤ nI P := by rw [nI_leI (by omega) (by omega)]; exact Nat.le_refl _
      simp only [b_Ballot_weigh_5, (h.sd w1).1.2.1, n1, if_true])
    ⟨hv.s _ (by decide), fun p hp => by omega, rfl, (zfr_rf v).s _ (by decide)⟩
  refine ⟨w, ?_, h2⟩
  have h1' : ziter (fun s : Int32 × ZSt => b_Ballot_weigh_5 (nI f) (nI g) s.1 s.2) zfu (0, zs v 1904 0) = some (nI P, w) := h1
  simp only [f_Ballot_weigh, h1', Option.bind_some, a_Ballot_weigh_5]
/-- the nearest touched one -/
def znr (adj : Nat → Nat) (P S p k : Nat) : Prop := k ≤ 9 ∧ ∀ j, j ≤ 8 → (k ≤ j ↔ ∃ q, q < P ∧ q ≠ p ∧ S.testBit q = true ∧ zwk (zEd adj) j p q)
theorem znr_u {adj : Nat → Nat} {P S p k l : Nat} (h1 : znr adj P S p k) (h2 : znr adj P S p l) : k = l := by
  have a1 := h1.1
  have a2 := h2.1
  have : ∀ j, j ≤ 8 → (k ≤ j ↔ l ≤ j) := fun j hj => (h1.2 j hj).trans (h2.2 j hj).symm
  by_cases e : k ≤ 8
  · have := (this k e).mp (Nat.le_refl _)
    by_cases e2 : l ≤ 8
    · have := (‹∀ j, j ≤ 8 → (k ≤ j ↔ l ≤ j)› l e2).mpr (Nat.le_refl _)
      omega
    · omega
  · by_cases e2 : l ≤ 8
    · have := (this l e2).mpr (Nat.le_refl _)
      omega
    · omega
theorem x_near {u v : ZSt} {P M : Nat} {adj : Nat → Nat} (h : zRB u P M adj) (hv : zsd u v) {S p : Nat} (hS : S < 1024) (hp : p < P) (hv2 : v.1 1904 = nI S) : ∃ k, f_Ballot_nearOf (nI p) v = some (nI k) ∧ znr adj P S p k := by
  have hP := h.1.1
  have hB := h.sd hv
  have h3 := hB.2.2.2.1.2.2.2
  obtain ⟨r, r1, r2⟩ := zit (B := fun s : Int32 × Int32 => b_Ballot_nearOf_4 (nI p) s.1 s.2 v) P
    (fun i s => ∃ k, s = (nI k, nI i) ∧ k ≤ 9 ∧ ∀ j, j ≤ 8 → (k ≤ j ↔ ∃ q, q < i ∧ q ≠ p ∧ S.testBit q = true ∧ zwk (zEd adj) j p q))
    (fun s => ∃ k, s = (nI k, nI P) ∧ znr adj P S p k) (by omega)
    (by
      rintro i s hi ⟨k, rfl, k1, k2⟩
      by_cases hi2 : i < P
      · left
        have n1 : ¬ nI P ≤ nI i := by rw [nI_leI (by omega) (by omega)]; omega
        have ei : (nI i = nI p) = (i = p) := propext (nI_eq (by omega) (by omega))
        simp only [b_Ballot_nearOf_4, hB.1.2.1, n1, if_false, ei, hv2, zb_u (show S < 2 ^ 31 by omega) (show i < 32 by omega)]
        by_cases e : i = p
        · refine ⟨(nI k, nI (i + 1)), by rw [if_pos e, nI_1], hi2, k, rfl, k1, fun j hj => (k2 j hj).trans ⟨?_, ?_⟩⟩
          · rintro ⟨q, q1, q2⟩; exact ⟨q, by omega, q2⟩
          · rintro ⟨q, q1, q2, q3⟩; exact ⟨q, by omega, q2, q3⟩
        · by_cases e2 : S.testBit i = true
          · obtain ⟨t, t1, t2, t3⟩ := h3 (10 * p + i) (by omega)
            rw [show (10 * p + i) / 10 = p by omega, show (10 * p + i) % 10 = i by omega] at t3
            have hst := x_stepsOf (u := v) (p := p) (q := i) (by omega) (by omega)
            rw [t1] at hst
            refine ⟨(nI (min k t), nI (i + 1)), ?_, hi2, min k t, rfl, by omega, fun j hj => ?_⟩
            · rw [if_neg e, if_pos e2, if_neg (by decide), hst]
              simp only [Option.bind_some, zmin_n (show k < 2 ^ 31 by omega) (show t < 2 ^ 31 by omega), nI_1]
            · have := k2 j hj
              have := t3 j hj
              constructor
              · intro hm
                rcases (show k ≤ j ∨ t ≤ j by omega) with w | w
                · obtain ⟨q, q1, q2⟩ := (k2 j hj).mp w
                  exact ⟨q, by omega, q2⟩
                · exact ⟨i, by omega, e, e2, (t3 j hj).mp w⟩
              · rintro ⟨q, q1, q2, q3, q4⟩
                by_cases e3 : q = i
                · subst e3
                  have := (t3 j hj).mpr q4
                  omega
                · have := (k2 j hj).mpr ⟨q, by omega, q2, q3, q4⟩
                  omega
          · refine ⟨(nI k, nI (i + 1)), by rw [if_neg e, if_neg e2, if_pos rfl, nI_1], hi2, k, rfl, k1, fun j hj => (k2 j hj).trans ⟨?_, ?_⟩⟩
            · rintro ⟨q, q1, q2⟩; exact ⟨q, by omega, q2⟩
            · rintro ⟨q, q1, q2, q3, q4⟩
              refine ⟨q, ?_, q2, q3, q4⟩
              rcases (show q < i ∨ q = i by omega) with w | w
              · exact w
              · exact absurd (w ▸ q3) e2
      · right
        have : i = P := by omega
        subst this
        have n1 : nI i ≤ nI i := by rw [nI_leI (by omega) (by omega)]; exact Nat.le_refl _
        exact ⟨(nI k, nI i), by simp only [b_Ballot_nearOf_4, hB.1.2.1, n1, if_true], k, rfl, k1, k2⟩)
    (s := (9, 0)) ⟨9, rfl, Nat.le_refl _, fun j hj => ⟨fun q => by omega, fun ⟨q, q1, _⟩ => by omega⟩⟩
  obtain ⟨k, rfl, k1⟩ := r2
  refine ⟨k, ?_, k1⟩
  simp only [f_Ballot_nearOf, r1, Option.bind_some, a_Ballot_nearOf_4]
theorem m_near {u v : ZSt} {P M : Nat} {adj : Nat → Nat} (h : zRB u P M adj) (hv : zsd u v) {f g p : Nat} (hp : p < P) (hv2 : ∀ q, q < P → v.2.1 49 q = nI (zown u M f g q)) : ∃ k, f_M_nearOf (nI p) v = some (nI k) ∧ znr adj P (ztc u P M f g) p k := by
  have hP := h.1.1
  have hM := h.2.1.1
  have hB := h.sd hv
  have key : ziter (fun s : Int32 × Int32 => b_M_nearOf_4 (nI p) s.1 s.2 v) zfu (0, 0) = some (nI (zbits (fun q => decide (q ≠ p) && decide (0 < zown u M f g q)) P), nI P) := by
    refine zit_eq (B := fun s : Int32 × Int32 => b_M_nearOf_4 (nI p) s.1 s.2 v) P (fun k => (nI (zbits (fun q => decide (q ≠ p) && decide (0 < zown u M f g q)) k), nI k)) _ (by omega) ?_ ?_
    · intro k hk
      have n1 : ¬ nI P ≤ nI k := by rw [nI_leI (by omega) (by omega)]; omega
      have ei : (nI k = nI p) = (k = p) := propext (nI_eq (by omega) (by omega))
      have hle := zown_le h.2.2.1 hM f g (p := k) (by omega)
      have st := zbits_step (fun q => decide (q ≠ p) && decide (0 < zown u M f g q)) (k := k) (by omega)
      simp only [b_M_nearOf_4, hB.1.2.2.1, n1, if_false, ei, zif (zn_zin (show k < 10 by omega) (show 10 < 2 ^ 31 by decide)), zn_cl (show k < 2 ^ 31 by omega), hv2 k hk, nI_1]
      by_cases e : k = p
      · rw [if_pos e]
        rw [if_neg (by simp [e])] at st
        rw [st]
      · rw [if_neg e]
        by_cases e2 : 0 < zown u M f g k
        · have : ¬ nI (zown u M f g k) ≤ 0 := by rw [show (0 : Int32) = nI 0 from rfl, nI_leI (by omega) (by decide)]; omega
          rw [if_neg this]
          rw [if_pos (by simp [e, e2])] at st
          rw [st]
        · have : nI (zown u M f g k) ≤ 0 := by rw [show (0 : Int32) = nI 0 from rfl, nI_leI (by omega) (by decide)]; omega
          rw [if_pos this]
          rw [if_neg (by simp [e2])] at st
          rw [st]
    · have n1 : nI P ≤ nI P := by rw [nI_leI (by omega) (by omega)]; exact Nat.le_refl _
      simp only [b_M_nearOf_4, hB.1.2.2.1, n1, if_true]
  have hlt := zbits_lt (fun q => decide (q ≠ p) && decide (0 < zown u M f g q)) P
  obtain ⟨t, t1, t2, t3⟩ := m_stepsTo hP hB.2.2.2.1.1 hB.1.2.2.1 hB.2.2.2.1.2.2.1 (p := p) (S := zbits (fun q => decide (q ≠ p) && decide (0 < zown u M f g q)) P) (by omega) (z_1024 hP hlt)
  refine ⟨t, ?_, t2, fun j hj => (t3 j hj).trans ⟨?_, ?_⟩⟩
  · simp only [f_M_nearOf, key, Option.bind_some, a_M_nearOf_4, t1]
  · rintro ⟨q, q1, q2⟩
    rw [zbits_tb] at q1
    simp only [Bool.and_eq_true, decide_eq_true_eq] at q1
    refine ⟨q, q1.1, q1.2.1, ?_, q2⟩
    unfold ztc
    rw [zbits_tb]
    simp only [Bool.and_eq_true, decide_eq_true_eq]
    exact ⟨q1.1, q1.2.2⟩
  · rintro ⟨q, q1, q2, q3, q4⟩
    unfold ztc at q3
    rw [zbits_tb] at q3
    simp only [Bool.and_eq_true, decide_eq_true_eq] at q3
    refine ⟨q, ?_, q4⟩
    rw [zbits_tb]
    simp only [Bool.and_eq_true, decide_eq_true_eq]
    exact ⟨q1, q2, q3.2⟩
