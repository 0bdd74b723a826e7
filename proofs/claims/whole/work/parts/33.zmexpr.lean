/-! the reference follows the rules of reading, and works out what the steps would -/
def zMs (u : ZSt) (t : Nat → Nat) (n : Nat) (nm : Nat → Int32) (p o : Nat) : Prop := zMb u t n ∧ zNm u nm ∧ p ≤ n ∧ u.1 3918 = nI p ∧ u.1 3920 = -1 ∧ u.1 3921 = nI o
def zMo (nm : Nat → Int32) (n o : Nat) (x : List Int32) (u : ZSt) (res : Option (Int32 × ZSt)) : zRes → Prop
  | .inl q => ∃ y v p, res = some (y, v) ∧ p ≤ n ∧ q ≤ n ∧ v.1 3918 = nI p ∧ v.1 3920 = nI q ∧ zfr [3918, 3920, 3921] [] [] u v
  | .inr (q, c) => ∃ y v, res = some (y, v) ∧ (∀ s, zrun nm c (x ++ s) = y :: s) ∧ v.1 3918 = nI q ∧ v.1 3920 = -1 ∧ v.1 3921 = nI o ∧ zfr [3918, 3920, 3921] [] [] u v
def zMC (t : Nat → Nat) (n : Nat) (nm : Nat → Int32) : Bool → Nat → Nat → Nat → zRes → Prop
  | false, k, o, p, r => k ≤ 5 → o ≤ 6 → ∀ u f, zMs u t n nm p o → 6 * (6 - o) + (6 - k) ≤ f → zMo nm n o [] u (r_M_both f (ztag k) u) r
  | true, k, o, p, r => k < 5 → o ≤ 6 → ∀ u f F x, zMs u t n nm p o → 6 * (6 - o) + (5 - k) ≤ f → n - p < F → zMo nm n o [x] u (zlp k (r_M_both f) F x u) r
theorem zMs.fr {u v : ZSt} {t : Nat → Nat} {n : Nat} {nm : Nat → Int32} {p o q o2 : Nat} (h : zMs u t n nm p o) (f : zfr [3918, 3920, 3921] [] [] u v) (hq : q ≤ n) (h1 : v.1 3918 = nI q) (h2 : v.1 3920 = -1) (h3 : v.1 3921 = nI o2) : zMs v t n nm q o2 :=
  ⟨h.1.fr f, h.2.1.fr f, hq, h1, h2, h3⟩
theorem zMs.s {u : ZSt} {t : Nat → Nat} {n : Nat} {nm : Nat → Int32} {p o : Nat} (h : zMs u t n nm p o) (q : Nat) (hq : q ≤ n) : zMs (zs u 3918 (nI q)) t n nm q o :=
  h.fr ((zfr_rf u).s _ (by decide)) hq rfl h.2.2.2.2.1 h.2.2.2.2.2
theorem m_wrong {u : ZSt} (h : u.1 3920 = -1) : f_M_wrong u = some (0, zs u 3920 (u.1 3918)) := by
  simp only [f_M_wrong, h, show ¬ (0 : Int32) ≤ -1 by decide, if_false]
theorem m_wrong2 {u : ZSt} {q : Nat} (hq : q < 2 ^ 31) (h : u.1 3920 = nI q) : f_M_wrong u = some (0, zs u 3920 (nI q)) := by
  simp only [f_M_wrong, h, m_pos0 hq, if_true]
theorem zMs.lt {u : ZSt} {t : Nat → Nat} {n : Nat} {nm : Nat → Int32} {p o : Nat} (h : zMs u t n nm p o) (hp : t p ≠ 256) : p < n := h.1.lt hp
theorem zMs.lev {u : ZSt} {t : Nat → Nat} {n : Nat} {nm : Nat → Int32} {p o k : Nat} (h : zMs u t n nm p o) (hk : k < 5) (hz : zlev (t p) = k) : p < n := by
  refine h.lt (fun e => ?_)
  rw [e] at hz
  have : zlev 256 = 9 := rfl
  omega
theorem zfu_1 : ∃ F, zfu = F + 1 := ⟨1048575, zfu_eq⟩
/-- a number -/
theorem m_num {t : Nat → Nat} {n : Nat} {nm : Nat → Int32} {o : Nat} (rc : Nat → ZSt → Option (Int32 × ZSt)) : ∀ (k F p a : Nat) (u : ZSt), k ≤ 4 → k < F → zMs u t n nm p o →
    ∃ v i, ziter (fun s : Int32 × Int32 × ZSt => b_M_one_98 rc s.1 s.2.1 s.2.2) F (nI a, nI (4 - k), u) = some (nI (znum t k p a).2, nI i, v) ∧ 4 - k ≤ i ∧ i ≤ 4 ∧ ((zdig (t p) ∧ 0 < k) → 4 - k < i) ∧ (¬ zdig (t p) → i = 4 - k) ∧ zMs v t n nm (znum t k p a).1 o ∧ zfr [3918, 3920, 3921] [] [] u v := by
  intro k
  induction k with
  | zero =>
    intro F p a u hk hF hs
    obtain ⟨F, rfl⟩ := Nat.exists_eq_succ_of_ne_zero (show F ≠ 0 by omega)
    refine ⟨u, 4, ?_, by omega, by omega, fun h => by omega, fun _ => rfl, hs, zfr_rf u⟩
    refine ziter_r ?_
    simp only [b_M_one_98, znum]
    simp (disch := omega) [fa_lit, nI_ltI, nI_leI, nI_eq, nI_add, pk_sub, zn_cl, zn_zin]
  | succ k ih =>
    intro F p a u hk hF hs
    obtain ⟨F, rfl⟩ := Nat.exists_eq_succ_of_ne_zero (show F ≠ 0 by omega)
    obtain ⟨hb, hn, hp, h1, h2, h3⟩ := id hs
    have hx := m_byteAt hb h1 hp
    have hm := zdig_m (hb.le p)
    have n1 : ¬ (4 : Int32) ≤ nI (4 - (k + 1)) := by rw [show (4 : Int32) = nI 4 from rfl, nI_leI (by decide) (by omega)]; omega
    by_cases hdg : zdig (t p)
    · obtain ⟨g1, g2⟩ := hm.mpr hdg
      have hpn : p < n := hs.lt (by rw [zdig_iff] at hdg; omega)
      have e : znum t (k + 1) p a = znum t k (p + 1) (10 * a + t p - 48) := by rw [znum, if_pos hdg]
      obtain ⟨v, i, v1, v2, v3, v4, v5, v6, v7⟩ := ih F (p + 1) (10 * a + t p - 48) (zs u 3918 (nI (p + 1))) (by omega) (by omega) (hs.s (p + 1) (by omega))
      refine ⟨v, i, ?_, by omega, v3, fun _ => by omega, fun h => absurd hdg h, by rw [e]; exact v6, ((zfr_rf u).s _ (by decide)).tr v7⟩
      rw [e, ← v1]
      have hdg' := zdig_iff.mp hdg
      have e1 : zmc (t p) = nI (t p) := by rw [zmc, if_neg (by omega)]
      refine ziter_l ?_
      simp only [b_M_one_98, n1, if_false, hx, Option.bind_some, g1, g2, h1, nI_1]
      rw [show 4 - (k + 1) + 1 = 4 - k by omega, e1, show (10 : Int32) = nI 10 from rfl, show (48 : Int32) = nI 48 from rfl, pk_mul, nI_add, pk_sub (by omega)]
    · have e : znum t (k + 1) p a = (p, a) := by rw [znum, if_neg hdg]
      refine ⟨u, 4 - (k + 1), ?_, by omega, by omega, fun h => absurd h.1 hdg, fun _ => rfl, by rw [e]; exact hs, zfr_rf u⟩
      rw [e]
      refine ziter_r ?_
      by_cases g1 : zmc (t p) < 48
      · simp only [b_M_one_98, n1, if_false, hx, Option.bind_some, g1, if_true]
      · have g2 : (57 : Int32) < zmc (t p) := by
          by_cases g2 : (57 : Int32) < zmc (t p)
          · exact g2
          · exact absurd (hm.mp ⟨g1, g2⟩) hdg
        simp only [b_M_one_98, n1, if_false, hx, Option.bind_some, g1, g2, if_true]
theorem m_one40 {u : ZSt} {t : Nat → Nat} {n : Nat} {nm : Nat → Int32} {p o : Nat} (rc : Nat → ZSt → Option (Int32 × ZSt)) (h : zMs u t n nm p o) (ho : o ≤ 6) (e : t p = 40) : t_M_one rc u = if o = 6 then some (0, zs u 3920 (nI p)) else
    (rc 2 (zs (zs u 3921 (nI (o + 1))) 3918 (nI (p + 1)))).bind (fun q => (f_M_takes 41 q.2).bind (fun y => if y.1 = 0 then (f_M_wrong y.2).bind (fun z => some (z.1, z.2)) else some (q.1, zs y.2 3921 (y.2.1 3921 - 1)))) := by
  obtain ⟨hb, hn, hp, h1, h2, h3⟩ := id h
  have hx := m_byteAt hb h1 hp
  have e1 : zmc (t p) = 40 := by rw [e]; rfl
  have e6 : (nI o = (6 : Int32)) = (o = 6) := by rw [show (6 : Int32) = nI 6 from rfl, nI_eq (by omega) (by decide)]
  simp only [t_M_one, h2, show (-1 : Int32) < 0 by decide, if_true, hx, Option.bind_some, e1, show ¬ (40 : Int32) = 33 by decide, show ¬ (40 : Int32) = 45 by decide, if_false, h3, e6, m_wrong h2, h1, nI_1]
theorem m_one33 {u : ZSt} {t : Nat → Nat} {n : Nat} {nm : Nat → Int32} {p o : Nat} (rc : Nat → ZSt → Option (Int32 × ZSt)) (h : zMs u t n nm p o) (ho : o ≤ 6) (e : t p = 33 ∨ t p = 45) : t_M_one rc u = if o = 6 then some (0, zs u 3920 (nI p)) else
    (rc 3 (zs (zs u 3921 (nI (o + 1))) 3918 (nI (p + 1)))).bind (fun q => some (if t p = 45 then -q.1 else if q.1 = 0 then 1 else 0, zs q.2 3921 (q.2.1 3921 - 1))) := by
  obtain ⟨hb, hn, hp, h1, h2, h3⟩ := id h
  have hx := m_byteAt hb h1 hp
  have e6 : (nI o = (6 : Int32)) = (o = 6) := by rw [show (6 : Int32) = nI 6 from rfl, nI_eq (by omega) (by decide)]
  rcases e with e | e
  · have e1 : zmc (t p) = 33 := by rw [e]; rfl
    have e2 : ¬ t p = 45 := by omega
    simp only [t_M_one, h2, show (-1 : Int32) < 0 by decide, if_true, hx, Option.bind_some, e1, show ¬ (33 : Int32) = 40 by decide, show ¬ (33 : Int32) = 45 by decide, if_false, h3, e6, m_wrong h2, h1, nI_1, e2]
    congr 1
    congr 1
    funext q
    split <;> rfl
  · have e1 : zmc 45 = (45 : Int32) := rfl
    simp only [t_M_one, h2, show (-1 : Int32) < 0 by decide, if_true, hx, Option.bind_some, e1, show ¬ (45 : Int32) = 40 by decide, show ¬ (45 : Int32) = 33 by decide, if_false, h3, e6, m_wrong h2, h1, nI_1, e]
theorem m_oneN {u : ZSt} {t : Nat → Nat} {n : Nat} {nm : Nat → Int32} {p o : Nat} (rc : Nat → ZSt → Option (Int32 × ZSt)) (h : zMs u t n nm p o) (e1 : t p ≠ 40) (e2 : t p ≠ 33) (e3 : t p ≠ 45) : t_M_one rc u = if znam (t p) < 6 then some (u.2.1 48 (znam (t p)), zs u 3918 (nI (p + 1))) else
    (ziter (fun s => b_M_one_98 rc s.1 s.2.1 s.2.2) zfu (0, 0, u)).bind (fun s => a_M_one_98 rc s.1 s.2.1 s.2.2) := by
  obtain ⟨hb, hn, hp, h1, h2, h3⟩ := id h
  have hx := m_byteAt hb h1 hp
  have n40 : ¬ zmc (t p) = 40 := fun q => e1 ((zmc_eq (hb.le p) (c := 40) (by decide) (by decide)).mp q)
  have n33 : ¬ zmc (t p) = 33 := fun q => e2 ((zmc_eq (hb.le p) (c := 33) (by decide) (by decide)).mp q)
  have n45 : ¬ zmc (t p) = 45 := fun q => e3 ((zmc_eq (hb.le p) (c := 45) (by decide) (by decide)).mp q)
  simp only [t_M_one, h2, show (-1 : Int32) < 0 by decide, if_true, hx, Option.bind_some, n40, n33, n45, if_false, zmc_nam (hb.le p), h1, nI_1]
  by_cases hnm : znam (t p) < 6
  · have n9 : ¬ znam (t p) = 9 := by omega
    have n0 : ¬ nI (znam (t p)) < 0 := nI_pos (by omega)
    rw [if_neg n9, if_neg n0, if_pos hnm, if_pos (zn_zin hnm (by decide)), zn_cl (by omega)]
  · have n9 : znam (t p) = 9 := by
      rcases (znam_lt (b := t p)) with e | e
      · exact e
      · exact absurd e hnm
    rw [if_pos n9, if_pos (by decide), if_neg hnm]
theorem r_one (f : Nat) (u : ZSt) : r_M_both (f + 1) (ztag 5) u = t_M_one (r_M_both f) u := rfl
theorem m_follow {t : Nat → Nat} {n : Nat} (hn : ∀ p, n ≤ p → t p = 256) (hn2 : n ≤ 120) {nm : Nat → Int32} {b : Bool} {k o p : Nat} {r : zRes} (h : zG t b k o p r) : zMC t n nm b k o p r := by
  have bi : ∀ {x : Nat}, x ≤ n → x < 2 ^ 31 := fun h => by omega
  refine zG_ind (C := zMC t n nm) ⟨?_, ?_, ?_, ?_, ?_, ?_, ?_, ?_, ?_, ?_, ?_, ?_, ?_, ?_, ?_⟩ h
  · intro k o p q hk ih _ ho u f hs hf
    obtain ⟨f, rfl⟩ := Nat.exists_eq_succ_of_ne_zero (show f ≠ 0 by omega)
    obtain ⟨y, v, p1, a1, a2, a3, a4, a5, a6⟩ := ih.2 (by omega) ho u f hs (by omega)
    obtain ⟨F, hF⟩ := zfu_1
    refine ⟨y, v, p1, ?_, a2, a3, a4, a5, a6⟩
    rw [m_chain f hk, a1, hF]
    exact m_lp_f _ F y (hs.1.fr a6) a4 a2 (bi a3) a5
  · intro k o p p1 c r hk ih1 ih2 _ ho u f hs hf
    obtain ⟨f, rfl⟩ := Nat.exists_eq_succ_of_ne_zero (show f ≠ 0 by omega)
    obtain ⟨b1, b2, b3⟩ := zG_ok hn ih1.1 hs.2.2.1
    obtain ⟨y, v, a1, a2, a3, a4, a5, a6⟩ := ih1.2 (by omega) ho u f hs (by omega)
    have key := ih2.2 hk ho v f zfu y (hs.fr a6 b2 a3 a4 a5) (by omega) (by rw [zfu_eq]; omega)
    rw [m_chain f hk, a1]
    simp only [Option.bind_some]
    cases r with
    | inl q =>
      obtain ⟨y2, v2, p2, c1, c2, c3, c4, c5, c6⟩ := key
      exact ⟨y2, v2, p2, c1, c2, c3, c4, c5, a6.tr c6⟩
    | inr x =>
      obtain ⟨q, d⟩ := x
      obtain ⟨y2, v2, c1, c2, c3, c4, c5, c6⟩ := key
      refine ⟨y2, v2, c1, fun s => ?_, c3, c4, c5, a6.tr c6⟩
      rw [zrun_app, a2]
      exact c2 s
  · intro k o p hk hz _ ho u f F x hs hf hF
    obtain ⟨F, rfl⟩ := Nat.exists_eq_succ_of_ne_zero (show F ≠ 0 by omega)
    exact ⟨x, u, m_lp_no hk _ F x hs.1 hs.2.2.2.1 hs.2.2.1 hs.2.2.2.2.1 hz, fun s => rfl, hs.2.2.2.1, hs.2.2.2.2.1, hs.2.2.2.2.2, zfr_rf u⟩
  · intro k o p q hk hz ih _ ho u f F x hs hf hF
    have hpn := hs.lev hk hz
    have fr0 : zfr [3918, 3920, 3921] [] [] u (zs u 3918 (nI (p + 1))) := (zfr_rf u).s _ (by decide)
    obtain ⟨y, v, p1, a1, a2, a3, a4, a5, a6⟩ := ih.2 (by omega) ho (zs u 3918 (nI (p + 1))) f (hs.s (p + 1) hpn) (by omega)
    obtain ⟨F, rfl⟩ := Nat.exists_eq_succ_of_ne_zero (show F ≠ 0 by omega)
    refine ⟨zbin (t p) x y, v, p1, ?_, a2, a3, a4, a5, fr0.tr a6⟩
    by_cases hk2 : k = 2
    · subst hk2
      exact m_lp_2 _ _ x hs.1 hs.2.2.2.1 hs.2.2.1 hs.2.2.2.2.1 hz a1
    · obtain ⟨F, rfl⟩ := Nat.exists_eq_succ_of_ne_zero (show F ≠ 0 by omega)
      rw [m_lp_op hk hk2 _ (F + 1) x hs.1 hs.2.2.2.1 hs.2.2.1 hs.2.2.2.2.1 hz a1]
      exact m_lp_f _ F _ (hs.1.fr (fr0.tr a6)) a4 a2 (bi a3) a5
  · intro o p p1 c hz ih _ ho u f F x hs hf hF
    have hpn := hs.lev (k := 2) (by decide) hz
    have fr0 : zfr [3918, 3920, 3921] [] [] u (zs u 3918 (nI (p + 1))) := (zfr_rf u).s _ (by decide)
    obtain ⟨y, v, a1, a2, a3, a4, a5, a6⟩ := ih.2 (by omega) ho (zs u 3918 (nI (p + 1))) f (hs.s (p + 1) hpn) (by omega)
    refine ⟨zbin (t p) x y, v, m_lp_2 _ _ x hs.1 hs.2.2.2.1 hs.2.2.1 hs.2.2.2.2.1 hz a1, fun s => ?_, a3, a4, a5, fr0.tr a6⟩
    rw [zrun_app, zrun_1, show zrun nm c ([x] ++ s) = y :: (x :: s) from a2 (x :: s), zstep_bin nm (by omega)]
  · intro k o p p1 c r hk hk2 hz ih1 ih2 _ ho u f F x hs hf hF
    have hpn := hs.lev hk hz
    have fr0 : zfr [3918, 3920, 3921] [] [] u (zs u 3918 (nI (p + 1))) := (zfr_rf u).s _ (by decide)
    obtain ⟨b1, b2, b3⟩ := zG_ok hn ih1.1 (show p + 1 ≤ n by omega)
    have := b3 rfl
    obtain ⟨y, v, a1, a2, a3, a4, a5, a6⟩ := ih1.2 (by omega) ho (zs u 3918 (nI (p + 1))) f (hs.s (p + 1) hpn) (by omega)
    obtain ⟨F, rfl⟩ := Nat.exists_eq_succ_of_ne_zero (show F ≠ 0 by omega)
    have key := ih2.2 hk ho v f F (zbin (t p) x y) (hs.fr (fr0.tr a6) b2 a3 a4 a5) (by omega) (by omega)
    rw [m_lp_op hk hk2 _ F x hs.1 hs.2.2.2.1 hs.2.2.1 hs.2.2.2.2.1 hz a1]
    cases r with
    | inl q =>
      obtain ⟨y2, v2, p2, c1, c2, c3, c4, c5, c6⟩ := key
      exact ⟨y2, v2, p2, c1, c2, c3, c4, c5, (fr0.tr a6).tr c6⟩
    | inr x2 =>
      obtain ⟨q, d⟩ := x2
      obtain ⟨y2, v2, c1, c2, c3, c4, c5, c6⟩ := key
      refine ⟨y2, v2, c1, fun s => ?_, c3, c4, c5, (fr0.tr a6).tr c6⟩
      rw [zrun_app, zrun_app, zrun_1, show zrun nm c ([x] ++ s) = y :: (x :: s) from a2 (x :: s), zstep_bin nm (by omega)]
      exact c2 s
  · intro p ht _ ho u f hs hf
    obtain ⟨f, rfl⟩ := Nat.exists_eq_succ_of_ne_zero (show f ≠ 0 by omega)
    refine ⟨0, zs u 3920 (nI p), p, ?_, hs.2.2.1, hs.2.2.1, hs.2.2.2.1, rfl, (zfr_rf u).s _ (by decide)⟩
    rw [r_one]
    rcases ht with e | e
    · rw [m_one40 _ hs (by decide) e, if_pos rfl]
    · rw [m_one33 _ hs (by decide) e, if_pos rfl]
  · intro o p q e ho6 ih _ ho u f hs hf
    obtain ⟨f, rfl⟩ := Nat.exists_eq_succ_of_ne_zero (show f ≠ 0 by omega)
    have hpn := hs.lt (show t p ≠ 256 by omega)
    have fr0 : zfr [3918, 3920, 3921] [] [] u (zs (zs u 3921 (nI (o + 1))) 3918 (nI (p + 1))) := ((zfr_rf u).s _ (by decide)).s _ (by decide)
    have hs2 : zMs (zs (zs u 3921 (nI (o + 1))) 3918 (nI (p + 1))) t n nm (p + 1) (o + 1) := hs.fr fr0 hpn rfl hs.2.2.2.2.1 rfl
    obtain ⟨y, v, p1, a1, a2, a3, a4, a5, a6⟩ := ih.2 (by omega) (by omega) _ f hs2 (by omega)
    refine ⟨0, zs v 3920 (nI q), p1, ?_, a2, a3, a4, rfl, (fr0.tr a6).s _ (by decide)⟩
    have a1' : r_M_both f 2 (zs (zs u 3921 (nI (o + 1))) 3918 (nI (p + 1))) = some (y, v) := a1
    rw [r_one, m_one40 _ hs ho e, if_neg (by omega), a1']
    simp only [Option.bind_some, m_takes_f (bi a3) a5, if_true, m_wrong2 (bi a3) a5]
  · intro o p p1 c e ho6 ih he _ ho u f hs hf
    obtain ⟨f, rfl⟩ := Nat.exists_eq_succ_of_ne_zero (show f ≠ 0 by omega)
    have hpn := hs.lt (show t p ≠ 256 by omega)
    have fr0 : zfr [3918, 3920, 3921] [] [] u (zs (zs u 3921 (nI (o + 1))) 3918 (nI (p + 1))) := ((zfr_rf u).s _ (by decide)).s _ (by decide)
    have hs2 : zMs (zs (zs u 3921 (nI (o + 1))) 3918 (nI (p + 1))) t n nm (p + 1) (o + 1) := hs.fr fr0 hpn rfl hs.2.2.2.2.1 rfl
    obtain ⟨b1, b2, b3⟩ := zG_ok hn ih.1 (show p + 1 ≤ n by omega)
    obtain ⟨y, v, a1, a2, a3, a4, a5, a6⟩ := ih.2 (by omega) (by omega) _ f hs2 (by omega)
    have ht := m_takes (hs.1.fr (fr0.tr a6)) a3 b2 a4 (c := 41) (by decide) (by decide)
    rw [if_neg he] at ht
    have ht' : f_M_takes 41 v = some (0, v) := ht
    refine ⟨0, zs v 3920 (nI p1), p1, ?_, b2, b2, a3, rfl, (fr0.tr a6).s _ (by decide)⟩
    have a1' : r_M_both f 2 (zs (zs u 3921 (nI (o + 1))) 3918 (nI (p + 1))) = some (y, v) := a1
    rw [r_one, m_one40 _ hs ho e, if_neg (by omega), a1']
    simp only [Option.bind_some, ht', if_true, m_wrong a4, a3]
  · intro o p p1 c e ho6 ih he _ ho u f hs hf
    obtain ⟨f, rfl⟩ := Nat.exists_eq_succ_of_ne_zero (show f ≠ 0 by omega)
    have hpn := hs.lt (show t p ≠ 256 by omega)
    have fr0 : zfr [3918, 3920, 3921] [] [] u (zs (zs u 3921 (nI (o + 1))) 3918 (nI (p + 1))) := ((zfr_rf u).s _ (by decide)).s _ (by decide)
    have hs2 : zMs (zs (zs u 3921 (nI (o + 1))) 3918 (nI (p + 1))) t n nm (p + 1) (o + 1) := hs.fr fr0 hpn rfl hs.2.2.2.2.1 rfl
    obtain ⟨b1, b2, b3⟩ := zG_ok hn ih.1 (show p + 1 ≤ n by omega)
    obtain ⟨y, v, a1, a2, a3, a4, a5, a6⟩ := ih.2 (by omega) (by omega) _ f hs2 (by omega)
    have ht := m_takes (hs.1.fr (fr0.tr a6)) a3 b2 a4 (c := 41) (by decide) (by decide)
    rw [if_pos he] at ht
    have ht' : f_M_takes 41 v = some (1, zs v 3918 (nI (p1 + 1))) := ht
    refine ⟨y, zs (zs v 3918 (nI (p1 + 1))) 3921 (nI o), ?_, fun s => a2 s, rfl, a4, rfl, ((fr0.tr a6).s _ (by decide)).s _ (by decide)⟩
    have a1' : r_M_both f 2 (zs (zs u 3921 (nI (o + 1))) 3918 (nI (p + 1))) = some (y, v) := a1
    have e5 : (zs v 3918 (nI (p1 + 1))).1 3921 - 1 = nI o := by
      rw [zs1, if_neg (by decide), a5, show (1 : Int32) = nI 1 from rfl, pk_sub (by omega), Nat.add_sub_cancel]
    rw [r_one, m_one40 _ hs ho e, if_neg (by omega), a1']
    simp only [Option.bind_some, ht', show ¬ (1 : Int32) = 0 by decide, if_false, e5]
  · intro o p q e ho6 ih _ ho u f hs hf
    obtain ⟨f, rfl⟩ := Nat.exists_eq_succ_of_ne_zero (show f ≠ 0 by omega)
    have hpn := hs.lt (show t p ≠ 256 by omega)
    have fr0 : zfr [3918, 3920, 3921] [] [] u (zs (zs u 3921 (nI (o + 1))) 3918 (nI (p + 1))) := ((zfr_rf u).s _ (by decide)).s _ (by decide)
    have hs2 : zMs (zs (zs u 3921 (nI (o + 1))) 3918 (nI (p + 1))) t n nm (p + 1) (o + 1) := hs.fr fr0 hpn rfl hs.2.2.2.2.1 rfl
    obtain ⟨y, v, p1, a1, a2, a3, a4, a5, a6⟩ := ih.2 (by omega) (by omega) _ f hs2 (by omega)
    refine ⟨if t p = 45 then -y else if y = 0 then 1 else 0, zs v 3921 (v.1 3921 - 1), p1, ?_, a2, a3, a4, a5, (fr0.tr a6).s _ (by decide)⟩
    have a1' : r_M_both f 3 (zs (zs u 3921 (nI (o + 1))) 3918 (nI (p + 1))) = some (y, v) := a1
    rw [r_one, m_one33 _ hs ho e, if_neg (by omega), a1']
    rfl
  · intro o p p1 c e ho6 ih _ ho u f hs hf
    obtain ⟨f, rfl⟩ := Nat.exists_eq_succ_of_ne_zero (show f ≠ 0 by omega)
    have hpn := hs.lt (show t p ≠ 256 by omega)
    have fr0 : zfr [3918, 3920, 3921] [] [] u (zs (zs u 3921 (nI (o + 1))) 3918 (nI (p + 1))) := ((zfr_rf u).s _ (by decide)).s _ (by decide)
    have hs2 : zMs (zs (zs u 3921 (nI (o + 1))) 3918 (nI (p + 1))) t n nm (p + 1) (o + 1) := hs.fr fr0 hpn rfl hs.2.2.2.2.1 rfl
    obtain ⟨y, v, a1, a2, a3, a4, a5, a6⟩ := ih.2 (by omega) (by omega) _ f hs2 (by omega)
    have e5 : v.1 3921 - 1 = nI o := by
      rw [a5, show (1 : Int32) = nI 1 from rfl, pk_sub (by omega), Nat.add_sub_cancel]
    refine ⟨if t p = 45 then -y else if y = 0 then 1 else 0, zs v 3921 (nI o), ?_, fun s => ?_, a3, a4, rfl, (fr0.tr a6).s _ (by decide)⟩
    · have a1' : r_M_both f 3 (zs (zs u 3921 (nI (o + 1))) 3918 (nI (p + 1))) = some (y, v) := a1
      rw [r_one, m_one33 _ hs ho e, if_neg (by omega), a1']
      simp only [Option.bind_some, e5]
    · rw [zrun_app, zrun_1, a2]
      rcases e with e | e
      · rw [e]; rfl
      · rw [e]; rfl
  · intro o p hd _ ho u f hs hf
    obtain ⟨f, rfl⟩ := Nat.exists_eq_succ_of_ne_zero (show f ≠ 0 by omega)
    have hd' := zdig_iff.mp hd
    have hnm : ¬ znam (t p) < 6 := fun q => (znam_no q).2.2.2 hd
    obtain ⟨v, i, a1, a2, a3, a4, a5, a6, a7⟩ := m_num (r_M_both f) 4 zfu p 0 u (Nat.le_refl _) (by rw [zfu_eq]; decide) hs
    have hi := a4 ⟨hd, by decide⟩
    refine ⟨nI (znum t 4 p 0).2, v, ?_, fun s => rfl, a6.2.2.2.1, a6.2.2.2.2.1, a6.2.2.2.2.2, a7⟩
    have a1' : ziter (fun s : Int32 × Int32 × ZSt => b_M_one_98 (r_M_both f) s.1 s.2.1 s.2.2) zfu (0, 0, u) = some (nI (znum t 4 p 0).2, nI i, v) := a1
    have ni : ¬ nI i = 0 := by rw [show (0 : Int32) = nI 0 from rfl, nI_eq (by omega) (by decide)]; omega
    rw [r_one, m_oneN _ hs (by omega) (by omega) (by omega), if_neg hnm, a1']
    simp only [Option.bind_some, a_M_one_98, ni, if_false]
  · intro o p hnm _ ho u f hs hf
    obtain ⟨f, rfl⟩ := Nat.exists_eq_succ_of_ne_zero (show f ≠ 0 by omega)
    obtain ⟨e1, e2, e3, e4⟩ := znam_no hnm
    have hpn := hs.lt (fun q => by rw [q] at hnm; exact absurd hnm (by decide))
    refine ⟨nm (znam (t p)), zs u 3918 (nI (p + 1)), ?_, fun s => rfl, rfl, hs.2.2.2.2.1, hs.2.2.2.2.2, (zfr_rf u).s _ (by decide)⟩
    rw [r_one, m_oneN _ hs e1 e2 e3, if_pos hnm, hs.2.1 _ hnm]
  · intro o p e1 e2 e3 hd hnm _ ho u f hs hf
    obtain ⟨f, rfl⟩ := Nat.exists_eq_succ_of_ne_zero (show f ≠ 0 by omega)
    obtain ⟨v, i, a1, a2, a3, a4, a5, a6, a7⟩ := m_num (r_M_both f) 4 zfu p 0 u (Nat.le_refl _) (by rw [zfu_eq]; decide) hs
    have hi := a5 hd
    have ez : znum t 4 p 0 = (p, 0) := by rw [znum, if_neg hd]
    rw [ez] at a1 a6
    subst hi
    refine ⟨0, zs v 3920 (nI p), p, ?_, hs.2.2.1, hs.2.2.1, a6.2.2.2.1, rfl, a7.s _ (by decide)⟩
    have a1' : ziter (fun s : Int32 × Int32 × ZSt => b_M_one_98 (r_M_both f) s.1 s.2.1 s.2.2) zfu (0, 0, u) = some (nI 0, nI 0, v) := a1
    rw [r_one, m_oneN _ hs e1 e2 e3, if_neg hnm, a1']
    simp only [Option.bind_some, a_M_one_98, show nI 0 = (0 : Int32) from rfl, if_true, m_wrong a6.2.2.2.2.1, a6.2.2.2.1]
/-- an expression -/
theorem m_expr {t : Nat → Nat} {n : Nat} {nm : Nat → Int32} {p : Nat} {r : zRes} (h : zG t false 0 0 p r) {u : ZSt} (hs : zMs u t n nm p 0) : zMo nm n 0 [] u (f_M_either u) r :=
  m_follow hs.1.2.1 hs.1.1 h (by decide) (by decide) u 100 hs (by decide)
