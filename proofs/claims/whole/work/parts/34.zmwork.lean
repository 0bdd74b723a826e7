/-! the reference works a text out; THE TAPE becomes THE LAW -/
def zwrt (nm : Nat → Int32) : List (Nat × Nat) → List Int32 → Int32
  | [], _ => 0
  | x :: c, s => if x.1 = 59 then s.headD 0 else if x.1 = 63 then (match s with | b :: a :: s => if a = 0 then zwrt nm c s else b | _ => 0) else zwrt nm c (zstep nm x s)
def zneed (a : Nat) : Nat := if a = 48 ∨ a = 97 then 0 else if a = 33 ∨ a = 126 then 1 else 2
/-- steps that join what stands on the stack, from so many to so many -/
def zsf : List (Nat × Nat) → Nat → Nat → Prop
  | [], d, e => d = e
  | x :: c, d, e => x.1 < 256 ∧ x.1 ≠ 59 ∧ x.1 ≠ 63 ∧ (x.1 = 97 → x.2 < 6) ∧ zneed x.1 ≤ d ∧ zsf c (d + 1 - zneed x.1) e
theorem zsf_app : ∀ {a b : List (Nat × Nat)} {d m e : Nat}, zsf a d m → zsf b m e → zsf (a ++ b) d e := by
  intro a
  induction a with
  | nil => intro b d m e h1 h2; have : d = m := h1; subst this; exact h2
  | cons x a ih => intro b d m e h1 h2; exact ⟨h1.1, h1.2.1, h1.2.2.1, h1.2.2.2.1, h1.2.2.2.2.1, ih h1.2.2.2.2.2 h2⟩
theorem zsf_bin {a : Nat} (h : zlev a < 5) (y d : Nat) : zsf [(a, y)] (d + 2) (d + 1) := by
  have := zlev_ops h
  have h1 : zneed a = 2 := by unfold zneed; rw [if_neg (by omega), if_neg (by omega)]
  refine ⟨by dsimp only; omega, by dsimp only; omega, by dsimp only; omega, fun e => by dsimp only at e; omega, ?_, ?_⟩
  · dsimp only; omega
  · show d + 2 + 1 - zneed a = d + 1
    omega
def zGS (b : Bool) : zRes → Prop
  | .inl _ => True
  | .inr (_, c) => ∀ d, zsf c (if b then d + 1 else d) (d + 1)
theorem zG_sf {t : Nat → Nat} {b : Bool} {k o p : Nat} {r : zRes} (h : zG t b k o p r) : zGS b r := by
  refine zG_ind (C := fun b k o p r => zGS b r) ⟨?_, ?_, ?_, ?_, ?_, ?_, ?_, ?_, ?_, ?_, ?_, ?_, ?_, ?_, ?_⟩ h
  · exact fun k o p f _ _ => trivial
  · intro k o p p1 c r _ h1 h2
    cases r with
    | inl f => trivial
    | inr x =>
      obtain ⟨q, d⟩ := x
      exact fun e => zsf_app (h1.2 e) (h2.2 e)
  · exact fun k o p _ _ d => rfl
  · exact fun k o p f _ _ _ => trivial
  · intro o p p1 c hz h1 d
    exact zsf_app (h1.2 (d + 1)) (zsf_bin (by omega) 0 d)
  · intro k o p p1 c r hk _ hz h1 h2
    cases r with
    | inl f => trivial
    | inr x =>
      obtain ⟨q, d⟩ := x
      exact fun e => zsf_app (zsf_app (h1.2 (e + 1)) (zsf_bin (by omega) 0 e)) (h2.2 e)
  · exact fun p _ => trivial
  · exact fun o p f _ _ _ => trivial
  · exact fun o p p1 c _ _ _ _ => trivial
  · exact fun o p p1 c _ _ h _ d => h.2 d
  · exact fun o p f _ _ _ => trivial
  · intro o p p1 c _ _ h d
    refine zsf_app (h.2 d) ?_
    by_cases e : t p = 33
    · rw [if_pos e]; exact ⟨by decide, by decide, by decide, fun q => absurd q (by decide), Nat.succ_le_succ (Nat.zero_le d), rfl⟩
    · rw [if_neg e]; exact ⟨by decide, by decide, by decide, fun q => absurd q (by decide), Nat.succ_le_succ (Nat.zero_le d), rfl⟩
  · exact fun o p _ d => ⟨show 48 < 256 by decide, show 48 ≠ 59 by decide, show 48 ≠ 63 by decide, fun q => absurd q (show ¬ 48 = 97 by decide), Nat.zero_le d, rfl⟩
  · exact fun o p h d => ⟨show 97 < 256 by decide, show 97 ≠ 59 by decide, show 97 ≠ 63 by decide, fun _ => h, Nat.zero_le d, rfl⟩
  · exact fun o p _ _ _ _ _ => trivial
theorem zwrt_run (nm : Nat → Int32) : ∀ {c : List (Nat × Nat)} {d e : Nat}, zsf c d e → ∀ (r : List (Nat × Nat)) (s : List Int32), zwrt nm (c ++ r) s = zwrt nm r (zrun nm c s) := by
  intro c
  induction c with
  | nil => intro d e _ r s; rfl
  | cons x c ih =>
    intro d e h r s
    show (if x.1 = 59 then s.headD 0 else if x.1 = 63 then _ else zwrt nm (c ++ r) (zstep nm x s)) = zwrt nm r (zrun nm c (zstep nm x s))
    rw [if_neg h.2.1, if_neg h.2.2.1, ih h.2.2.2.2.2]
/-- a line -/
theorem m_line {t : Nat → Nat} {n : Nat} {nm : Nat → Int32} {p : Nat} {r : zRes} (h : zLn t p r) {u : ZSt} (hs : zMs u t n nm p 0) (g y : Int32) (hg : g = 0 ∨ g = 1) :
    match r with
    | .inl q => ∃ v p1, b_M_workOut_21 g y 1 u = some (.inl (g, y, 0, v)) ∧ p1 ≤ n ∧ q ≤ n ∧ v.1 3918 = nI p1 ∧ v.1 3920 = nI q ∧ zfr [3918, 3920, 3921] [] [] u v
    | .inr (p1, c) => ∃ g1 y1 v, b_M_workOut_21 g y 1 u = some (.inl (g1, y1, if t p1 = 59 then 1 else 0, if t p1 = 59 then zs v 3918 (nI (p1 + 1)) else v)) ∧ zMs v t n nm p1 0 ∧ zfr [3918, 3920, 3921] [] [] u v ∧ (g1 = 0 ∨ g1 = 1) ∧ (g = 1 → g1 = 1 ∧ y1 = y) ∧
        (g = 0 → (g1 = 1 ∧ ∀ rest, zwrt nm (c ++ rest) [] = y1) ∨ (g1 = 0 ∧ y1 = y ∧ ∀ rest, zwrt nm (c ++ rest) [] = zwrt nm rest [])) := by
  have c10 : ¬ (1 : Int32) = 0 := by decide
  have n1 : ¬ (0 : Int32) ≤ -1 := by decide
  have hn2 := hs.1.1
  have hn := hs.1.2.1
  have bi : ∀ {x : Nat}, x ≤ n → x < 2 ^ 31 := fun h => by omega
  have tk : ∀ {v : ZSt} {p c : Nat}, zMs v t n nm p 0 → c < 256 → 0 < c → f_M_takes (nI c) v = some (if t p = c then (1, zs v 3918 (nI (p + 1))) else (0, v)) := fun h h1 h2 => m_takes h.1 h.2.2.2.1 h.2.2.1 h.2.2.2.2.1 h1 h2
  rcases h with ⟨q, rfl, h⟩ | ⟨p1, c, rfl, h, h63⟩ | ⟨p1, c, q, rfl, h, h63, h2⟩ | ⟨p1, p2, c, d, rfl, h, h63, h2⟩
  · obtain ⟨y1, v, p1, a1, a2, a3, a4, a5, a6⟩ := m_expr h hs
    refine ⟨v, p1, ?_, a2, a3, a4, a5, a6⟩
    have hb := m_pos0 (bi a3)
    simp only [b_M_workOut_21, c10, if_false, a1, Option.bind_some, m_takes_f (bi a3) a5, if_true, a5, hb]
  · obtain ⟨b1, b2, b3⟩ := zG_ok hn h hs.2.2.1
    obtain ⟨y1, v, a1, a2, a3, a4, a5, a6⟩ := m_expr h hs
    have hv : zMs v t n nm p1 0 := hs.fr a6 b2 a3 a4 a5
    have t63 := tk hv (c := 63) (by decide) (by decide)
    rw [if_neg h63] at t63
    have t63' : f_M_takes 63 v = some (0, v) := t63
    have t59 : f_M_takes 59 v = some (if t p1 = 59 then (1, zs v 3918 (nI (p1 + 1))) else (0, v)) := tk hv (c := 59) (by decide) (by decide)
    have hz : ∀ rest, zwrt nm (c ++ [(59, 0)] ++ rest) [] = y1 := by
      intro rest
      rw [List.append_assoc, zwrt_run nm (zG_sf h 0), show zrun nm c [] = [y1] from a2 []]
      rfl
    rcases hg with rfl | rfl
    · refine ⟨1, y1, v, ?_, hv, a6, Or.inr rfl, fun e => absurd e (by decide), fun _ => Or.inl ⟨rfl, hz⟩⟩
      simp only [b_M_workOut_21, c10, if_false, a1, Option.bind_some, t63', if_true, a4, n1, t59]
      split <;> rfl
    · refine ⟨1, y, v, ?_, hv, a6, Or.inr rfl, fun e => ⟨rfl, rfl⟩, fun e => absurd e (by decide)⟩
      simp only [b_M_workOut_21, c10, if_false, a1, Option.bind_some, t63', if_true, a4, n1, t59]
      split <;> rfl
  · obtain ⟨b1, b2, b3⟩ := zG_ok hn h hs.2.2.1
    obtain ⟨y1, v, a1, a2, a3, a4, a5, a6⟩ := m_expr h hs
    have hv : zMs v t n nm p1 0 := hs.fr a6 b2 a3 a4 a5
    have hp1 : p1 < n := hv.lt (show t p1 ≠ 256 by omega)
    have t63 := tk hv (c := 63) (by decide) (by decide)
    rw [if_pos h63] at t63
    have t63' : f_M_takes 63 v = some (1, zs v 3918 (nI (p1 + 1))) := t63
    obtain ⟨y2, w, p2, d1, d2, d3, d4, d5, d6⟩ := m_expr h2 (hv.s (p1 + 1) hp1)
    refine ⟨w, p2, ?_, d2, d3, d4, d5, (a6.s _ (by decide)).tr d6⟩
    have hb := m_pos0 (bi d3)
    by_cases hy : y1 = 0
    · simp only [b_M_workOut_21, c10, if_false, a1, Option.bind_some, t63', hy, if_true, d1, d5, hb, m_takes_f (bi d3) d5]
    · simp only [b_M_workOut_21, c10, if_false, a1, Option.bind_some, t63', hy, if_true, d1, d5, hb, m_takes_f (bi d3) d5]
  · obtain ⟨b1, b2, b3⟩ := zG_ok hn h hs.2.2.1
    obtain ⟨y1, v, a1, a2, a3, a4, a5, a6⟩ := m_expr h hs
    have hv : zMs v t n nm p1 0 := hs.fr a6 b2 a3 a4 a5
    have hp1 : p1 < n := hv.lt (show t p1 ≠ 256 by omega)
    have t63 := tk hv (c := 63) (by decide) (by decide)
    rw [if_pos h63] at t63
    have t63' : f_M_takes 63 v = some (1, zs v 3918 (nI (p1 + 1))) := t63
    obtain ⟨e1, e2, e3⟩ := zG_ok hn h2 (show p1 + 1 ≤ n by omega)
    obtain ⟨y2, w, d1, d2, d3, d4, d5, d6⟩ := m_expr h2 (hv.s (p1 + 1) hp1)
    have fr : zfr [3918, 3920, 3921] [] [] u w := (a6.s _ (by decide)).tr d6
    have hw : zMs w t n nm p2 0 := hs.fr fr e2 d3 d4 d5
    have t59 : f_M_takes 59 w = some (if t p2 = 59 then (1, zs w 3918 (nI (p2 + 1))) else (0, w)) := tk hw (c := 59) (by decide) (by decide)
    have hz : ∀ rest, zwrt nm (c ++ d ++ [(63, 0)] ++ rest) [] = if y1 = 0 then zwrt nm rest [] else y2 := by
      intro rest
      rw [List.append_assoc, List.append_assoc, zwrt_run nm (zG_sf h 0), show zrun nm c [] = [y1] from a2 [], zwrt_run nm (zG_sf h2 1), show zrun nm d [y1] = [y2, y1] from d2 [y1]]
      rfl
    by_cases hy : y1 = 0
    · refine ⟨g, y, w, ?_, hw, fr, hg, fun e => ⟨e, rfl⟩, fun e => Or.inr ⟨e, rfl, fun rest => by rw [hz, if_pos hy]⟩⟩
      simp only [b_M_workOut_21, c10, if_false, a1, Option.bind_some, t63', hy, if_true, d1, d4, n1, t59]
      split <;> rfl
    · rcases hg with rfl | rfl
      · refine ⟨1, y2, w, ?_, hw, fr, Or.inr rfl, fun e => absurd e (by decide), fun _ => Or.inl ⟨rfl, fun rest => by rw [hz, if_neg hy]⟩⟩
        simp only [b_M_workOut_21, c10, if_false, a1, Option.bind_some, t63', hy, if_true, d1, d4, n1, t59]
        split <;> rfl
      · refine ⟨1, y, w, ?_, hw, fr, Or.inr rfl, fun e => ⟨rfl, rfl⟩, fun e => absurd e (by decide)⟩
        simp only [b_M_workOut_21, c10, if_false, a1, Option.bind_some, t63', hy, if_true, d1, d4, n1, t59]
        split <;> rfl
def zMT (t : Nat → Nat) (n : Nat) (nm : Nat → Int32) (p : Nat) (r : zRes) : Prop := ∀ u F g y, zMs u t n nm p 0 → n - p + 1 < F → (g = 0 ∨ g = 1) →
  ∃ g1 y1 v, ziter (fun s : Int32 × Int32 × Int32 × ZSt => b_M_workOut_21 s.1 s.2.1 s.2.2.1 s.2.2.2) F (g, y, 1, u) = some (g1, y1, 0, v) ∧ zfr [3918, 3920, 3921] [] [] u v ∧
    match r with
    | .inl q => q ≤ n ∧ (v.1 3920 = nI q ∨ v.1 3920 = -1 ∧ v.1 3918 = nI q ∧ q < n)
    | .inr (_, c) => v.1 3920 = -1 ∧ v.1 3918 = nI n ∧ (g = 1 → y1 = y) ∧ (g = 0 → y = 0 → y1 = zwrt nm c [])
theorem m_text {t : Nat → Nat} {n : Nat} {nm : Nat → Int32} {p : Nat} {r : zRes} (h : zTx t n p r) : zMT t n nm p r := by
  have stop : ∀ (F : Nat) (g y : Int32) (u : ZSt), ziter (fun s : Int32 × Int32 × Int32 × ZSt => b_M_workOut_21 s.1 s.2.1 s.2.2.1 s.2.2.2) (F + 1) (g, y, 0, u) = some (g, y, 0, u) :=
    fun F g y u => ziter_r (by simp only [b_M_workOut_21, if_true])
  refine h (zMT t n nm) ⟨?_, ?_, ?_, ?_⟩
  · intro p q h u F g y hs hF hg
    obtain ⟨F, rfl⟩ := Nat.exists_eq_succ_of_ne_zero (show F ≠ 0 by omega)
    obtain ⟨F, rfl⟩ := Nat.exists_eq_succ_of_ne_zero (show F ≠ 0 by omega)
    obtain ⟨v, p1, a1, a2, a3, a4, a5, a6⟩ := m_line h hs g y hg
    refine ⟨g, y, v, ?_, a6, a3, Or.inl a5⟩
    rw [ziter_l (B := fun s : Int32 × Int32 × Int32 × ZSt => b_M_workOut_21 s.1 s.2.1 s.2.2.1 s.2.2.2) a1]
    exact stop F g y v
  · intro p c h u F g y hs hF hg
    obtain ⟨F, rfl⟩ := Nat.exists_eq_succ_of_ne_zero (show F ≠ 0 by omega)
    obtain ⟨F, rfl⟩ := Nat.exists_eq_succ_of_ne_zero (show F ≠ 0 by omega)
    obtain ⟨g1, y1, v, a1, a2, a3, a4, a5, a6⟩ := m_line h hs g y hg
    have e : ¬ t n = 59 := by rw [hs.1.2.1 n (Nat.le_refl _)]; decide
    rw [if_neg e, if_neg e] at a1
    refine ⟨g1, y1, v, ?_, a3, a2.2.2.2.2.1, a2.2.2.2.1, fun q => (a5 q).2, fun q q2 => ?_⟩
    · rw [ziter_l (B := fun s : Int32 × Int32 × Int32 × ZSt => b_M_workOut_21 s.1 s.2.1 s.2.2.1 s.2.2.2) a1]
      exact stop F g1 y1 v
    · rcases a6 q with ⟨h1, h2⟩ | ⟨h1, h2, h3⟩
      · have := h2 []
        rw [List.append_nil] at this
        exact this.symm
      · have := h3 []
        rw [List.append_nil] at this
        rw [h2, q2, this]; rfl
  · intro p p1 c h h59 hlt u F g y hs hF hg
    obtain ⟨F, rfl⟩ := Nat.exists_eq_succ_of_ne_zero (show F ≠ 0 by omega)
    obtain ⟨F, rfl⟩ := Nat.exists_eq_succ_of_ne_zero (show F ≠ 0 by omega)
    obtain ⟨g1, y1, v, a1, a2, a3, a4, a5, a6⟩ := m_line h hs g y hg
    rw [if_neg h59, if_neg h59] at a1
    refine ⟨g1, y1, v, ?_, a3, by omega, Or.inr ⟨a2.2.2.2.2.1, a2.2.2.2.1, hlt⟩⟩
    rw [ziter_l (B := fun s : Int32 × Int32 × Int32 × ZSt => b_M_workOut_21 s.1 s.2.1 s.2.2.1 s.2.2.2) a1]
    exact stop F g1 y1 v
  · intro p p1 c r h h59 ih u F g y hs hF hg
    obtain ⟨F, rfl⟩ := Nat.exists_eq_succ_of_ne_zero (show F ≠ 0 by omega)
    obtain ⟨b1, b2, b3, b4⟩ := zLn_ok hs.1.2.1 h hs.2.2.1
    obtain ⟨g1, y1, v, a1, a2, a3, a4, a5, a6⟩ := m_line h hs g y hg
    have hp1 := a2.lt (show t p1 ≠ 256 by omega)
    rw [if_pos h59, if_pos h59] at a1
    obtain ⟨g2, y2, w, d1, d2, d3⟩ := ih (zs v 3918 (nI (p1 + 1))) F g1 y1 (a2.s (p1 + 1) hp1) (by omega) a4
    have fr : zfr [3918, 3920, 3921] [] [] u w := (a3.s _ (by decide)).tr d2
    refine ⟨g2, y2, w, ?_, fr, ?_⟩
    · rw [ziter_l (B := fun s : Int32 × Int32 × Int32 × ZSt => b_M_workOut_21 s.1 s.2.1 s.2.2.1 s.2.2.2) a1]
      exact d1
    · cases r with
      | inl q => exact d3
      | inr x =>
        obtain ⟨q, c2⟩ := x
        obtain ⟨d3, d4, d5, d6⟩ := d3
        refine ⟨d3, d4, fun e => ?_, fun e e2 => ?_⟩
        · rw [d5 (a5 e).1, (a5 e).2]
        · rcases a6 e with ⟨h1, h2⟩ | ⟨h1, h2, h3⟩
          · rw [d5 h1, h2 c2]
          · rw [d6 h1 (h2.trans e2), h3 c2]
theorem m_workOut {t : Nat → Nat} {n : Nat} {nm : Nat → Int32} {r : zRes} (h : zTx t n 0 r) {u : ZSt} {a : Int32} (hb : zMb (zs (zs u 3917 a) 3919 (nI n)) t n) (hnm : zNm u nm) :
    match r with
    | .inl q => ∃ y v, f_M_workOut a (nI n) u = some (y, v) ∧ q ≤ n ∧ v.1 3920 = nI q ∧ zfr [3917, 3918, 3919, 3920, 3921] [] [] u v
    | .inr (_, c) => ∃ v, f_M_workOut a (nI n) u = some (zwrt nm c [], v) ∧ v.1 3920 = -1 ∧ zfr [3917, 3918, 3919, 3920, 3921] [] [] u v := by
  have n1 : ¬ (0 : Int32) ≤ -1 := by decide
  have hn2 := hb.1
  have fr0 : zfr [3917, 3918, 3919, 3920, 3921] [] [] u (zs (zs (zs (zs (zs u 3917 a) 3918 0) 3919 (nI n)) 3920 (-1)) 3921 0) := ((((((zfr_rf u).s _ (by decide)).s _ (by decide)).s _ (by decide)).s _ (by decide)).s _ (by decide))
  have hs : zMs (zs (zs (zs (zs (zs u 3917 a) 3918 0) 3919 (nI n)) 3920 (-1)) 3921 0) t n nm 0 0 := ⟨hb, hnm, Nat.zero_le _, rfl, rfl, rfl⟩
  obtain ⟨g1, y1, v, a1, a2, a3⟩ := m_text h (nm := nm) _ zfu 0 0 hs (by rw [zfu_eq]; omega) (Or.inl rfl)
  have fr : zfr [3917, 3918, 3919, 3920, 3921] [] [] u v := fr0.tr (a2.mono (by decide) (by decide) (by decide))
  have hv : v.1 3919 = nI n := a2.g 3919
  have e : f_M_workOut a (nI n) u = a_M_workOut_21 y1 v := by
    simp only [f_M_workOut, a1, Option.bind_some]
  cases r with
  | inl q =>
    obtain ⟨d1, d2⟩ := a3
    rcases d2 with d2 | ⟨d2, d3, d4⟩
    · refine ⟨y1, v, ?_, d1, d2, fr⟩
      rw [e]
      simp only [a_M_workOut_21, d2, m_pos0 (show q < 2 ^ 31 by omega), if_true]
    · refine ⟨0, zs v 3920 (nI q), ?_, d1, rfl, fr.s _ (by decide)⟩
      rw [e]
      have : ¬ nI n ≤ nI q := by rw [nI_leI (by omega) (by omega)]; omega
      simp only [a_M_workOut_21, d2, n1, if_false, d3, hv, this, m_wrong d2, Option.bind_some]
  | inr x =>
    obtain ⟨q, c⟩ := x
    obtain ⟨d1, d2, d3, d4⟩ := a3
    refine ⟨v, ?_, d1, fr⟩
    rw [e, d4 rfl rfl]
    have : nI n ≤ nI n := by rw [nI_leI (by omega) (by omega)]; exact Nat.le_refl _
    simp only [a_M_workOut_21, d1, n1, if_false, d2, hv, this, if_true]
/-- the law that stands -/
def zR8 (u : ZSt) : Prop := (u.1 3916 = -1 ∧ u.1 1503 = 0) ∨ ∃ (n : Nat) (t : Nat → Nat) (c : List (Nat × Nat)), n ≤ 120 ∧ (∀ p, n ≤ p → t p = 256) ∧ (∀ p, p < n → t p ≤ 255 ∧ u.2.1 47 p = nI (t p)) ∧ u.1 3916 = nI n ∧ zTx t n 0 (.inr (n, c)) ∧ 0 < c.length ∧ c.length ≤ 121 ∧ u.1 1503 = nI c.length ∧ ∀ i x, c[i]? = some x → u.2.1 16 i = nI x.1 ∧ u.2.1 17 i = nI x.2
theorem m_law_loop {u : ZSt} {n : Nat} (hn : n ≤ 120) : ∃ v, ziter (fun s : Int32 × ZSt => b_M_law_22 (nI n) s.1 s.2) zfu (0, u) = some (nI n, v) ∧ zfr [] [47] [] u v ∧ ∀ k, k < n → v.2.1 47 k = u.2.1 46 k := by
  obtain ⟨r, h1, h2⟩ := zit (B := fun s : Int32 × ZSt => b_M_law_22 (nI n) s.1 s.2) n
    (fun k s => s.1 = nI k ∧ zfr [] [47] [] u s.2 ∧ ∀ i, i < k → s.2.2.1 47 i = u.2.1 46 i)
    (fun s => s.1 = nI n ∧ zfr [] [47] [] u s.2 ∧ ∀ i, i < n → s.2.2.1 47 i = u.2.1 46 i)
    (by omega) (by
      rintro k ⟨i, v⟩ hk ⟨h1, h2, h3⟩
      dsimp only at h1 h2 h3 ⊢
      subst h1
      simp only [b_M_law_22, nI_leI (show n < 2 ^ 31 by omega) (show k < 2 ^ 31 by omega)]
      by_cases hk2 : k < n
      · left
        refine ⟨(nI (k + 1), za v 47 k (v.2.1 46 k)), ?_, hk2, rfl, h2.a _ (by decide), fun i hi => ?_⟩
        · rw [if_neg (by omega), if_pos (zn_zin (by omega) (by decide)), if_pos (zn_zin (by omega) (by decide)), zn_cl (by omega), nI_1]
        · show (if 47 = 47 then upd (v.2.1 47) k (v.2.1 46 k) else v.2.1 47) i = _
          rw [if_pos rfl, upd1]
          by_cases e : i = k
          · subst e; rw [if_pos rfl, h2.ga 46]
          · rw [if_neg e]; exact h3 i (by omega)
      · right
        have : k = n := by omega
        subst this
        exact ⟨_, by rw [if_pos (Nat.le_refl _)], rfl, h2, h3⟩) (s := (0, u)) ⟨rfl, zfr_rf u, fun i hi => by omega⟩
  obtain ⟨i, v⟩ := r
  obtain ⟨q1, q2, q3⟩ := h2
  dsimp only at q1 q2 q3
  subst q1
  exact ⟨v, h1, q2, q3⟩
theorem o_law {u : ZSt} (h7 : zR7 u) (h8 : zR8 u) : ∃ r u1 u2, f_X_law u = some (r, u1) ∧ f_M_law u1 = some (r, u2) ∧ zR7 u2 ∧ zR8 u2 ∧ zfr [902, 903, 1103, 1503, 3914, 3916, 3917, 3918, 3919, 3920, 3921] [12, 13, 16, 17, 47] [] u u2 := by
  obtain ⟨n, hn, k1, k2, hk⟩ := h7
  have ht : ∃ t : Nat → Nat, (∀ p, n ≤ p → t p = 256) ∧ ∀ p, p < n → t p ≤ 255 ∧ u.2.1 10 p = nI (t p) ∧ u.2.1 46 p = nI (t p) := by
    refine ⟨fun p => if p < n then (u.2.1 10 p).toNatClampNeg else 256, fun p hp => by dsimp only; rw [if_neg (by omega)], fun p hp => ?_⟩
    obtain ⟨b, b1, b2, b3⟩ := hk p hp
    dsimp only
    rw [if_pos hp, b2, zn_cl (by omega)]
    exact ⟨b1, rfl, b3⟩
  obtain ⟨t, ht1, ht2⟩ := ht
  have hX : zXb u t n := ⟨hn, k1, ht1, fun p hp => ⟨(ht2 p hp).1, (ht2 p hp).2.1⟩⟩
  have mb : ∀ {w : ZSt} {q : Int32}, w.2.1 46 = u.2.1 46 → zMb (zs (zs w 3917 (-1)) 3919 (nI n)) t n := fun {w q} h =>
    ⟨hn, ht1, fun p hp => (ht2 p hp).1, rfl, Or.inl ⟨rfl, fun p hp => by show w.2.1 46 p = _; rw [h]; exact (ht2 p hp).2.2⟩⟩
  rcases x_read hX with ⟨q, v, g1, g2, g3, g4⟩ | ⟨c, v, g1, g2, g3, g4, g5, g6⟩
  · have fr1 : zfr [902, 903, 1103, 1503, 3914, 3916, 3917, 3918, 3919, 3920, 3921] [12, 13, 16, 17, 47] [] u (zs v 902 0) := (g4.mono (by decide) (by decide) (by decide)).s _ (by decide)
    have e14 : (zs v 902 0).1 3914 = nI n := (g4.g 3914).trans k2
    obtain ⟨y, w, d1, d2, d3, d4⟩ := m_workOut g1 (u := zs v 902 0) (a := -1) (nm := (zs v 902 0).2.1 48) (mb (q := 0) (g4.ga 46)) (fun k hk => rfl)
    have fr2 : zfr [902, 903, 1103, 1503, 3914, 3916, 3917, 3918, 3919, 3920, 3921] [12, 13, 16, 17, 47] [] u (zs w 3914 0) := (fr1.tr (d4.mono (by decide) (by decide) (by decide))).s _ (by decide)
    have nq : ¬ nI q < 0 := nI_pos (by omega)
    have fx : zfr [902, 903, 1103, 3914, 3917, 3918, 3919, 3920, 3921] [12, 13] [] u (zs w 3914 0) := (((g4.mono (by decide) (by decide) (by decide)).s _ (by decide)).tr (d4.mono (by decide) (by decide) (by decide))).s _ (by decide)
    refine ⟨(-100) - nI q, zs v 902 0, zs w 3914 0, ?_, ?_, ⟨0, by decide, (d4.g 902), rfl, fun k hk => by omega⟩, ?_, fr2⟩
    · simp only [f_X_law, g3, Option.bind_some, nq, if_false]
    · simp only [f_M_law, e14, d1, Option.bind_some, d3, nq, if_false]
    · rcases h8 with ⟨z1, z2⟩ | ⟨n2, t2, c2, z1, z2, z3, z4, z5, z6, z7, z8, z9⟩
      · exact Or.inl ⟨(fx.g 3916).trans z1, (fx.g 1503).trans z2⟩
      · refine Or.inr ⟨n2, t2, c2, z1, z2, ?_, (fx.g 3916).trans z4, z5, z6, z7, (fx.g 1503).trans z8, ?_⟩
        · rw [fx.ga 47]; exact z3
        · rw [fx.ga 16, fx.ga 17]; exact z9
  · have fr1 : zfr [902, 903, 1103, 1503, 3914, 3916, 3917, 3918, 3919, 3920, 3921] [12, 13, 16, 17, 47] [] u (zcp (zcp (zs (zs v 902 0) 1503 (v.1 1103)) 12 16 0 0 128) 13 17 0 0 128) := ((((g6.mono (by decide) (by decide) (by decide)).s _ (by decide)).s _ (by decide)).c (by decide)).c (by decide)
    have hx : f_X_law u = some (1, zcp (zcp (zs (zs v 902 0) 1503 (v.1 1103)) 12 16 0 0 128) 13 17 0 0 128) := by
      simp only [f_X_law, g4, Option.bind_some, show (-1 : Int32) < 0 by decide, if_true]
      rfl
    generalize hu1 : zcp (zcp (zs (zs v 902 0) 1503 (v.1 1103)) 12 16 0 0 128) 13 17 0 0 128 = u1 at fr1 hx
    have e14 : u1.1 3914 = nI n := by rw [← hu1]; exact (g6.g 3914).trans k2
    have e46 : u1.2.1 46 = u.2.1 46 := fr1.ga 46
    have e902 : u1.1 902 = 0 := by rw [← hu1]; rfl
    have e1503 : u1.1 1503 = nI c.length := by rw [← hu1]; exact g5.2.1
    have e16 : ∀ i x, c[i]? = some x → u1.2.1 16 i = nI x.1 ∧ u1.2.1 17 i = nI x.2 := by
      intro i x hx
      have hi : i < 128 := by
        rcases Nat.lt_or_ge i c.length with q | q
        · omega
        · rw [List.getElem?_eq_none q] at hx; cases hx
      have := g5.2.2 i x hx
      rw [← hu1]
      constructor
      · show va_cpy (v.2.1 12) (v.2.1 16) 0 0 128 i = _
        rw [pk_cpy_in (Nat.zero_le _) (by omega), Nat.sub_zero, Nat.zero_add]; exact this.1
      · show va_cpy (v.2.1 13) (v.2.1 17) 0 0 128 i = _
        rw [pk_cpy_in (Nat.zero_le _) (by omega), Nat.sub_zero, Nat.zero_add]; exact this.2
    obtain ⟨w, d1, d3, d4⟩ := m_workOut g1 (u := u1) (a := -1) (nm := u1.2.1 48) (mb (q := 0) e46) (fun k hk => rfl)
    obtain ⟨z, z1, z2, z3⟩ := m_law_loop (u := zs w 3914 0) hn
    have fr2 : zfr [902, 903, 1103, 1503, 3914, 3916, 3917, 3918, 3919, 3920, 3921] [12, 13, 16, 17, 47] [] u (zs z 3916 (nI n)) := (((fr1.tr (d4.mono (by decide) (by decide) (by decide))).s _ (by decide)).tr (z2.mono (by decide) (by decide) (by decide))).s _ (by decide)
    have w14 : w.1 3914 = nI n := (d4.g 3914).trans e14
    refine ⟨1, u1, zs z 3916 (nI n), hx, ?_, ⟨0, by decide, ((z2.g 902).trans (d4.g 902)).trans e902, z2.g 3914, fun k hk => by omega⟩, Or.inr ⟨n, t, c, hn, ht1, fun p hp => ⟨(ht2 p hp).1, ?_⟩, rfl, g1, g3, g2, ((z2.g 1503).trans (d4.g 1503)).trans e1503, ?_⟩, fr2⟩
    · have z1' : ziter (fun s : Int32 × ZSt => b_M_law_22 (nI n) s.1 s.2) zfu (0, zs w 3914 0) = some (nI n, z) := z1
      simp only [f_M_law, e14, d1, Option.bind_some, d3, show (-1 : Int32) < 0 by decide, if_true, w14, z1', a_M_law_22]
    · show z.2.1 47 p = _
      rw [z3 p hp]
      show w.2.1 46 p = _
      rw [d4.ga 46, e46]
      exact (ht2 p hp).2.2
    · show ∀ i x, c[i]? = some x → z.2.1 16 i = nI x.1 ∧ z.2.1 17 i = nI x.2
      rw [z2.ga 16, z2.ga 17]
      show ∀ i x, c[i]? = some x → w.2.1 16 i = nI x.1 ∧ w.2.1 17 i = nI x.2
      rw [d4.ga 16, d4.ga 17]
      exact e16
