/-! who may vote: class and reference together -/
theorem za_s (u : ZSt) (k i : Nat) (x : Int32) : (za u k i x).2.1 k i = x := by simp [za2, upd1]
theorem za_i (u : ZSt) (k : Nat) {i j : Nat} (x : Int32) (h : j ≠ i) : (za u k i x).2.1 k j = u.2.1 k j := by simp [za2, upd1, h]
theorem za_k (u : ZSt) {k l : Nat} (i : Nat) (x : Int32) (h : l ≠ k) : (za u k i x).2.1 l = u.2.1 l := by simp [za2, h]
def zXw (u : ZSt) (P M f g : Nat) (v : ZSt) : Prop := zsd u v ∧ (∀ p, p < P → v.2.1 20 p = nI (zown u M f g p)) ∧ v.1 1904 = nI (ztc u P M f g)
def zMwd (u : ZSt) (P M b f g : Nat) (v : ZSt) : Prop := zsd u v ∧ ∀ p, p < P → v.2.1 49 p = nI (zown u M f g p) ∧ v.2.1 50 p = zlik u M b p
theorem zXw.fr {u v w : ZSt} {P M f g : Nat} (h : zXw u P M f g v) (hf : zfr [] [18, 21] [] v w) : zXw u P M f g w :=
  ⟨h.1.tr (hf.mono (by decide) (by decide) (by decide)), fun p hp => by rw [hf.ga 20]; exact h.2.1 p hp, (hf.g 1904).trans h.2.2⟩
theorem zMwd.fr {u v w : ZSt} {P M b f g : Nat} (h : zMwd u P M b f g v) (hf : zfr [3917, 3918, 3919, 3920, 3921, 3925] [48] [] v w) : zMwd u P M b f g w :=
  ⟨h.1.tr (hf.mono (by decide) (by decide) (by decide)), fun p hp => by rw [hf.ga 49, hf.ga 50]; exact h.2 p hp⟩
theorem ztc_lt (u : ZSt) (P M f g : Nat) : ztc u P M f g < 2 ^ P := zbits_lt _ P
theorem m_touch_in {u : ZSt} {P M : Nat} {adj : Nat → Nat} (h : zRB u P M adj) {b f g p : Nat} (hb : b < 1024) (hf : f < 1024) (hp : p < P) {v : ZSt} (hv : zsd u v) (gb : Nat) (h49 : v.2.1 49 p = nI gb) (h50 : v.2.1 50 p = 0) (hgb : gb ≤ 1) :
    ∃ w, ziter (fun s : Int32 × ZSt => b_M_touches_24 (nI b) (nI f) (nI g) (nI p) s.1 s.2) zfu (0, v) = some (nI M, w) ∧ zsd u w ∧ w.2.1 49 p = nI (zsn (zT u p) f M + gb) ∧ w.2.1 50 p = zlik u M b p ∧ zfr [] [49, 50] [] v w ∧ ∀ q, q ≠ p → w.2.1 49 q = v.2.1 49 q ∧ w.2.1 50 q = v.2.1 50 q := by
  have hP := h.1.1
  have hM := h.2.1.1
  have c10 : ¬ (1 : Int32) = 0 := by decide
  obtain ⟨w, h1, h2⟩ := zit_f (B := fun s : Int32 × ZSt => b_M_touches_24 (nI b) (nI f) (nI g) (nI p) s.1 s.2) (α := Unit) (fun k _ v => (nI k, v)) (fun _ v => (nI M, v))
    (fun k _ w => zsd u w ∧ w.2.1 49 p = nI (zsn (zT u p) f k + gb) ∧ w.2.1 50 p = zsi (fun m => u.2.1 40 (60 + (6 * p + m))) b k ∧ zfr [] [49, 50] [] v w ∧ ∀ q, q ≠ p → w.2.1 49 q = v.2.1 49 q ∧ w.2.1 50 q = v.2.1 50 q) (fun _ x => x) (a := 0) (n := M) (x := ()) (v := v) (Nat.zero_le _) (by omega)
    (by
      rintro k - w - hk ⟨w1, w2, w3, w5, w4⟩
      have hB := h.sd w1
      have n1 : ¬ nI M ≤ nI k := by rw [nI_leI (by omega) (by omega)]; omega
      have z10 : zin (nI p) 10 := zn_zin (by omega) (by decide)
      have cp : (nI p).toNatClampNeg = p := zn_cl (by omega)
      have e40 : w.2.1 40 = u.2.1 40 := w1.ga 40
      have z1 : zin (nI (6 * p + k)) 126 := zn_zin (by omega) (by decide)
      have c1 : (nI (6 * p + k)).toNatClampNeg = 6 * p + k := zn_cl (by omega)
      have s60 : (60 : Int32) + nI (6 * p + k) = nI (60 + (6 * p + k)) := nI_add 60 (6 * p + k)
      have z2 : zin (nI (60 + (6 * p + k))) 126 := zn_zin (by omega) (by decide)
      have c2 : (nI (60 + (6 * p + k))).toNatClampNeg = 60 + (6 * p + k) := zn_cl (by omega)
      have hT := zT_ok h.2.2.1 (p := p) (m := k) (by omega) (by omega)
      have fin : ∀ (X Y : Int32), X = nI (zsn (zT u p) f (k + 1) + gb) → Y = zsi (fun m => u.2.1 40 (60 + (6 * p + m))) b (k + 1) → zsd u (za (za w 49 p X) 50 p Y) ∧ (za (za w 49 p X) 50 p Y).2.1 49 p = nI (zsn (zT u p) f (k + 1) + gb) ∧ (za (za w 49 p X) 50 p Y).2.1 50 p = zsi (fun m => u.2.1 40 (60 + (6 * p + m))) b (k + 1) ∧ zfr [] [49, 50] [] v (za (za w 49 p X) 50 p Y) ∧ ∀ q, q ≠ p → (za (za w 49 p X) 50 p Y).2.1 49 q = v.2.1 49 q ∧ (za (za w 49 p X) 50 p Y).2.1 50 q = v.2.1 50 q := by
        intro X Y hX hY
        refine ⟨(w1.a _ (by decide)).a _ (by decide), ?_, ?_, (w5.a _ (by decide)).a _ (by decide), fun q hq => ⟨?_, ?_⟩⟩
        · rw [za_k _ _ _ (by decide), za_s, hX]
        · rw [za_s, hY]
        · rw [za_k _ _ _ (by decide), za_i _ _ _ hq]; exact (w4 q hq).1
        · rw [za_i _ _ _ hq, za_k _ _ _ (by decide)]; exact (w4 q hq).2
      have a0 : ∀ x : Int32, x + 0 = x := Int32.add_zero
      by_cases ef : f.testBit k = true
      · have i1 : f_M_isIn (nI f) (nI k) = some 1 := by rw [m_isIn (by omega) (by omega), if_pos ef]
        have v49 : w.2.1 49 p + w.2.1 40 (6 * p + k) = nI (zsn (zT u p) f (k + 1) + gb) := by
          rw [w2, e40, hT.1, nI_add, zsn, if_pos ef]; congr 1; omega
        by_cases eb : b.testBit k = true
        · have i2 : f_M_isIn (nI b) (nI k) = some 1 := by rw [m_isIn (by omega) (by omega), if_pos eb]
          refine ⟨za (za w 49 p (w.2.1 49 p + w.2.1 40 (6 * p + k))) 50 p (w.2.1 50 p + w.2.1 40 (60 + (6 * p + k))), ?_, fin _ _ v49 ?_⟩
          · simp only [b_M_touches_24, hB.2.1.2.2, n1, if_false, zif z10, cp, i1, i2, Option.bind_some, c10, m_place, zif z1, c1, s60, zif z2, c2, nI_1]
          · rw [w3, e40, zsi, if_pos eb]
        · have i2 : f_M_isIn (nI b) (nI k) = some 0 := by rw [m_isIn (by omega) (by omega), if_neg eb]
          refine ⟨za (za w 49 p (w.2.1 49 p + w.2.1 40 (6 * p + k))) 50 p (w.2.1 50 p + 0), ?_, fin _ _ v49 ?_⟩
          · simp only [b_M_touches_24, hB.2.1.2.2, n1, if_false, zif z10, cp, i1, i2, Option.bind_some, c10, m_place, zif z1, c1, s60, zif z2, c2, nI_1, if_true]
          · rw [w3, a0, zsi, if_neg eb]
      · have i1 : f_M_isIn (nI f) (nI k) = some 0 := by rw [m_isIn (by omega) (by omega), if_neg ef]
        have v49 : w.2.1 49 p + 0 = nI (zsn (zT u p) f (k + 1) + gb) := by
          rw [w2, a0, zsn, if_neg ef]
        by_cases eb : b.testBit k = true
        · have i2 : f_M_isIn (nI b) (nI k) = some 1 := by rw [m_isIn (by omega) (by omega), if_pos eb]
          refine ⟨za (za w 49 p (w.2.1 49 p + 0)) 50 p (w.2.1 50 p + w.2.1 40 (60 + (6 * p + k))), ?_, fin _ _ v49 ?_⟩
          · simp only [b_M_touches_24, hB.2.1.2.2, n1, if_false, zif z10, cp, i1, i2, Option.bind_some, c10, m_place, zif z1, c1, s60, zif z2, c2, nI_1, if_true]
          · rw [w3, e40, zsi, if_pos eb]
        · have i2 : f_M_isIn (nI b) (nI k) = some 0 := by rw [m_isIn (by omega) (by omega), if_neg eb]
          refine ⟨za (za w 49 p (w.2.1 49 p + 0)) 50 p (w.2.1 50 p + 0), ?_, fin _ _ v49 ?_⟩
          · simp only [b_M_touches_24, hB.2.1.2.2, n1, if_false, zif z10, cp, i1, i2, Option.bind_some, c10, m_place, zif z1, c1, s60, zif z2, c2, nI_1, if_true]
          · rw [w3, a0, zsi, if_neg eb])
    (by
      rintro - w ⟨w1, w2, w3, w5, w4⟩
      have n1 : nI M ≤ nI M := by rw [nI_leI (by omega) (by omega)]; exact Nat.le_refl _
      simp only [b_M_touches_24, (h.sd w1).2.1.2.2, n1, if_true])
    ⟨hv, by rw [h49]; unfold zsn; rw [Nat.zero_add], h50, zfr_rf v, fun q hq => ⟨rfl, rfl⟩⟩
  exact ⟨w, h1, h2⟩
theorem m_touches {u v : ZSt} {P M : Nat} {adj : Nat → Nat} (h : zRB u P M adj) (hv : zsd u v) {b f g : Nat} (hb : b < 1024) (hf : f < 1024) (hg : g < 1024) :
    ∃ w, f_M_touches (nI b) (nI f) (nI g) v = some w ∧ zMwd u P M b f g w ∧ zfr [] [49, 50] [] v w := by
  have hP := h.1.1
  have hM := h.2.1.1
  have c10 : ¬ (1 : Int32) = 0 := by decide
  obtain ⟨w, h1, h2⟩ := zit_f (B := fun s : Int32 × ZSt => b_M_touches_2 (nI b) (nI f) (nI g) s.1 s.2) (α := Unit) (fun k _ v => (nI k, v)) (fun _ v => (nI P, v))
    (fun k _ w => (zsd u w ∧ zfr [] [49, 50] [] v w) ∧ ∀ p, p < k → w.2.1 49 p = nI (zown u M f g p) ∧ w.2.1 50 p = zlik u M b p) (fun _ x => x) (a := 0) (n := P) (x := ()) (v := v) (Nat.zero_le _) (by omega)
    (by
      rintro k - w - hk ⟨⟨w1, w3⟩, w2⟩
      have hB := h.sd w1
      have n1 : ¬ nI P ≤ nI k := by rw [nI_leI (by omega) (by omega)]; omega
      have z10 : zin (nI k) 10 := zn_zin (by omega) (by decide)
      have cp : (nI k).toNatClampNeg = k := zn_cl (by omega)
      have go : ∀ gb : Nat, gb ≤ 1 → zown u M f g k = zsn (zT u k) f M + gb → ∃ y, ziter (fun s : Int32 × ZSt => b_M_touches_24 (nI b) (nI f) (nI g) (nI k) s.1 s.2) zfu (0, za (za w 49 k (nI gb)) 50 k 0) = some (nI M, y) ∧ (zsd u y ∧ zfr [] [49, 50] [] v y) ∧ ∀ p, p < k + 1 → y.2.1 49 p = nI (zown u M f g p) ∧ y.2.1 50 p = zlik u M b p := by
        intro gb hgb hz
        have fr : zsd u (za (za w 49 k (nI gb)) 50 k 0) := (w1.a _ (by decide)).a _ (by decide)
        obtain ⟨y, y1, y2, y3, y4, y6, y5⟩ := m_touch_in h (g := g) hb hf hk fr gb (by rw [za_k _ _ _ (by decide), za_s]) (by rw [za_s]) hgb
        refine ⟨y, y1, ⟨y2, ((w3.a _ (by decide)).a _ (by decide)).tr y6⟩, fun p hp => ?_⟩
        by_cases e : p = k
        · rw [e, y3, y4, hz]; exact ⟨rfl, rfl⟩
        · rw [(y5 p e).1, (y5 p e).2, za_k _ _ _ (by decide), za_i _ _ _ e, za_i _ _ _ e, za_k _ _ _ (by decide)]
          exact w2 p (by omega)
      by_cases eg : g.testBit k = true
      · have i1 : f_M_isIn (nI g) (nI k) = some 1 := by rw [m_isIn (by omega) (by omega), if_pos eg]
        obtain ⟨y, y1, y2, y3⟩ := go 1 (Nat.le_refl _) (by unfold zown; rw [if_pos eg])
        refine ⟨y, ?_, y2, y3⟩
        have y1' : ziter (fun s : Int32 × ZSt => b_M_touches_24 (nI b) (nI f) (nI g) (nI k) s.1 s.2) zfu (0, za (za w 49 k 1) 50 k 0) = some (nI M, y) := y1
        simp only [b_M_touches_2, hB.1.2.2.1, n1, if_false, zif z10, cp, i1, Option.bind_some, c10, y1', a_M_touches_24, nI_1]
      · have i1 : f_M_isIn (nI g) (nI k) = some 0 := by rw [m_isIn (by omega) (by omega), if_neg eg]
        obtain ⟨y, y1, y2, y3⟩ := go 0 (Nat.zero_le _) (by unfold zown; rw [if_neg eg])
        refine ⟨y, ?_, y2, y3⟩
        have y1' : ziter (fun s : Int32 × ZSt => b_M_touches_24 (nI b) (nI f) (nI g) (nI k) s.1 s.2) zfu (0, za (za w 49 k 0) 50 k 0) = some (nI M, y) := y1
        simp only [b_M_touches_2, hB.1.2.2.1, n1, if_false, zif z10, cp, i1, Option.bind_some, if_true, y1', a_M_touches_24, nI_1])
    (by
      rintro - w ⟨⟨w1, w3⟩, w2⟩
      have n1 : nI P ≤ nI P := by rw [nI_leI (by omega) (by omega)]; exact Nat.le_refl _
      simp only [b_M_touches_2, (h.sd w1).1.2.2.1, n1, if_true])
    ⟨⟨hv, zfr_rf v⟩, fun p hp => by omega⟩
  refine ⟨w, ?_, ⟨h2.1.1, h2.2⟩, h2.1.2⟩
  have h1' : ziter (fun s : Int32 × ZSt => b_M_touches_2 (nI b) (nI f) (nI g) s.1 s.2) zfu (0, v) = some (nI P, w) := h1
  simp only [f_M_touches, h1', Option.bind_some, a_M_touches_2]
/-! how many -/
def zpop (b : Nat) : Nat := ((List.range 10).filter (fun p => b.testBit p)).length
theorem z_pcx : ∀ b, b < 1024 → f_Int_bitCount (nI b) = some (nI (zpop b)) := by decide +kernel
theorem z_pcm : ∀ b, b < 1024 → (ziter (fun s => b_M_bitsOf_4 s.1 s.2) 1048576 (0, nI b)).map (fun s => s.1) = some (nI (zpop b)) := by decide +kernel
theorem zpop_le (b : Nat) : zpop b ≤ 10 := by
  have := List.length_filter_le (fun p => b.testBit p) (List.range 10)
  rw [List.length_range] at this
  exact this
theorem m_bits {b : Nat} (h : b < 1024) : f_M_bitsOf (nI b) = some (nI (zpop b)) := by
  have := z_pcm b h
  rw [← zfu_eq] at this
  simp only [f_M_bitsOf, a_M_bitsOf_4]
  cases hz : ziter (fun s : Int32 × Int32 => b_M_bitsOf_4 s.1 s.2) zfu (0, nI b) with
  | none => rw [hz] at this; simp at this
  | some s => rw [hz] at this; exact this
/-! one person -/
def znm (a0 a1 a2 a3 a4 a5 : Int32) (k : Nat) : Int32 := if k = 0 then a0 else if k = 1 then a1 else if k = 2 then a2 else if k = 3 then a3 else if k = 4 then a4 else a5
theorem z_names (u : ZSt) (r : Nat) (a0 a1 a2 a3 a4 a5 : Int32) : ∀ k, k < 6 → (za (za (za (za (za (za u r 0 a0) r 1 a1) r 2 a2) r 3 a3) r 4 a4) r 5 a5).2.1 r k = znm a0 a1 a2 a3 a4 a5 k := by
  intro k hk
  rcases (show k = 0 ∨ k = 1 ∨ k = 2 ∨ k = 3 ∨ k = 4 ∨ k = 5 by omega) with rfl | rfl | rfl | rfl | rfl | rfl <;> simp [za2, upd1, znm]
noncomputable def zOne (b g : Int32) (p : Nat) (v : ZSt) : Option (Int32 × ZSt) := (f_Code_isEmptyT v).bind (fun q => if q = 0 then f_Ballot_isAllowed (nI p) b g v else (f_Ballot_isFree (nI p) (v.1 106) v).bind (fun r => some (r, v)))
theorem ztc_tb (u : ZSt) {P M f g p : Nat} (hp : p < P) : (ztc u P M f g).testBit p = decide (0 < zown u M f g p) := by
  unfold ztc; rw [zbits_tb]; simp [hp]
theorem x_free {u v : ZSt} {P M : Nat} {adj : Nat → Nat} (h : zRB u P M adj) {f g : Nat} (hv : zXw u P M f g v) {p : Nat} (hp : p < P) {k : Nat} (hk : znr adj P (ztc u P M f g) p k) {K : Nat} (hK : K ≤ 10) :
    f_Ballot_isFree (nI p) (nI K) v = some (if zown u M f g p = 0 ∧ K < k then 1 else 0) := by
  have hP := h.1.1
  have hlt := z_1024 hP (ztc_lt u P M f g)
  obtain ⟨k2, k3, k4⟩ := x_near h hv.1 hlt hp hv.2.2
  have e := znr_u k4 hk
  subst e
  have := hk.1
  simp only [f_Ballot_isFree, hv.2.2, zb_u (show ztc u P M f g < 2 ^ 31 by omega) (show p < 32 by omega), ztc_tb u hp, decide_eq_true_eq, k3, Option.bind_some, nI_leI (show k2 < 2 ^ 31 by omega) (show K < 2 ^ 31 by omega)]
  by_cases e : 0 < zown u M f g p
  · rw [if_pos e, if_neg (by decide), if_neg (by omega)]
  · rw [if_neg e, if_pos rfl]
    by_cases e2 : k2 ≤ K
    · rw [if_pos e2, if_neg (by omega)]
    · rw [if_neg e2, if_pos (by omega)]
theorem o_one {u : ZSt} {P M : Nat} {adj : Nat → Nat} (h : zRB u P M adj) {b f g : Nat} (hb : b < 1024) (hf : f < 1024) (hg : g < 1024) {p : Nat} (hp : p < P) :
    ∃ B : Bool, (∀ v, zXw u P M f g v → ∃ v', zOne (nI b) (nI g) p v = some (if B = true then 1 else 0, v') ∧ zfr [] [18, 21] [] v v') ∧ (∀ v, zMwd u P M b f g v → ∃ v', f_M_mayVote (nI p) (nI b) (nI g) v = some (if B = true then 1 else 0, v') ∧ zfr [3917, 3918, 3919, 3920, 3921, 3925] [48] [] v v') := by
  have hP := h.1.1
  have hM := h.2.1.1
  have c10 : ¬ (1 : Int32) = 0 := by decide
  have hlt := z_1024 hP (ztc_lt u P M f g)
  obtain ⟨k, -, hk⟩ := x_near h (v := zs u 1904 (nI (ztc u P M f g))) ((zfr_rf u).s _ (by decide)) hlt hp rfl
  have hk9 := hk.1
  have hown := zown_le h.2.2.1 hM f g (p := p) (by omega)
  have z10 : zin (nI p) 10 := zn_zin (by omega) (by decide)
  have cp : (nI p).toNatClampNeg = p := zn_cl (by omega)
  obtain ⟨K, Q, hK, hQ, K1, K2, Q1, Q2⟩ := h.2.2.2.2.1
  rcases h.2.2.2.2.2 with ⟨l1, l2⟩ | ⟨n, t, cd, n1, t1, t2, l1, hT, c0, c1, l2, c2⟩
  · refine ⟨decide (zown u M f g p = 0 ∧ K < k), fun v hv => ⟨v, ?_, zfr_rf v⟩, fun v hv => ⟨v, ?_, zfr_rf v⟩⟩
    · have e1 : v.1 1503 = 0 := (hv.1.g 1503).trans l2
      have e2 : v.1 106 = nI K := (hv.1.g 106).trans K1
      have hfr := x_free h hv hp hk (K := K) (by omega)
      simp only [zOne, f_Code_isEmptyT, e1, if_true, Option.bind_some, c10, if_false, e2, hfr, decide_eq_true_eq]
    · have e1 : v.1 3916 = -1 := (hv.1.g 3916).trans l1
      have e2 : v.1 3911 = nI K := (hv.1.g 3911).trans K2
      obtain ⟨k2, k3, k4⟩ := m_near h hv.1 (f := f) (g := g) hp (fun q hq => (hv.2 q hq).1)
      have e := znr_u k4 hk
      subst e
      have o0 : (nI (zown u M f g p) = 0) = (zown u M f g p = 0) := by rw [show (0 : Int32) = nI 0 from rfl, nI_eq (by omega) (by decide)]
      simp only [f_M_mayVote, k3, Option.bind_some, e1, show ¬ (0 : Int32) ≤ -1 by decide, if_false, zif z10, cp, (hv.2 p hp).1, o0, e2, nI_leI (show k2 < 2 ^ 31 by omega) (show K < 2 ^ 31 by omega), decide_eq_true_eq]
      by_cases a1 : zown u M f g p = 0
      · rw [if_pos a1]
        by_cases a2 : k2 ≤ K
        · rw [if_pos a2, if_neg (by omega)]
        · rw [if_neg a2, if_pos (by omega)]
      · rw [if_neg a1, if_neg (by omega)]
  · have gx : zushr (nI g) (nI p) &&& 1 = if g.testBit p then 1 else 0 := zb_u (by omega) (by omega)
    generalize hnm : znm (nI (zown u M f g p)) (nI k) (zlik u M b p) (nI p) (nI (zpop b)) (if g.testBit p then 1 else 0) = nm
    refine ⟨decide (zwrt nm cd [] ≠ 0), fun v hv => ?_, fun v hv => ?_⟩
    · have e1 : v.1 1503 = nI cd.length := (hv.1.g 1503).trans l2
      have e0 : ¬ nI cd.length = 0 := nI_ne0 (by omega) (by omega)
      have f1 : zsd u (za v 21 0 (nI (zown u M f g p))) := hv.1.a _ (by decide)
      obtain ⟨k2, k3, k4⟩ := x_near h f1 hlt hp hv.2.2
      have e := znr_u k4 hk
      subst e
      have f2 : zsd u (za (za v 21 0 (nI (zown u M f g p))) 21 1 (nI k2)) := f1.a _ (by decide)
      have hB := h.sd f2
      have hs := x_sum1 hB.2.1.1 hB.2.1.2.1 hB.2.2.1 (p := p) (b := b) (by omega) (by omega)
      rw [zlik_sd f2] at hs
      generalize hw : za (za (za (za (za (za v 21 0 (nI (zown u M f g p))) 21 1 (nI k2)) 21 2 (zlik u M b p)) 21 3 (nI p)) 21 4 (nI (zpop b))) 21 5 (if g.testBit p then 1 else 0) = w
      have fw : zfr [] [18, 21] [] v w := by
        rw [← hw]
        exact ((((((zfr_rf v).a _ (by decide)).a _ (by decide)).a _ (by decide)).a _ (by decide)).a _ (by decide)).a _ (by decide)
      have fuw : zsd u w := hv.1.tr (fw.mono (by decide) (by decide) (by decide))
      have hcd : zCd w cd nm := by
        refine ⟨(fuw.g 1503).trans l2, c1, ?_, ?_⟩
        · rw [fuw.ga 16, fuw.ga 17]; exact c2
        · rw [← hw, ← hnm]; exact z_names v 21 _ _ _ _ _ _
      obtain ⟨y, y1, y2⟩ := x_worth hT hcd
      refine ⟨y, ?_, fw.tr (y2.mono (by decide) (by decide) (by decide))⟩
      have p0 : ¬ nI p < 0 := nI_pos (by omega)
      have p10 : nI p < 10 := by rw [show (10 : Int32) = nI 10 from rfl, nI_ltI (by omega) (by decide)]; omega
      have hw' : f_Code_worthT (za (za (za (za (za (za v 21 ((0 : Int32).toNatClampNeg) (nI (zown u M f g p))) 21 ((1 : Int32).toNatClampNeg) (nI k2)) 21 ((2 : Int32).toNatClampNeg) (zlik u M b p)) 21 ((3 : Int32).toNatClampNeg) (nI p)) 21 ((4 : Int32).toNatClampNeg) (nI (zpop b))) 21 ((5 : Int32).toNatClampNeg) (if g.testBit p then 1 else 0)) = some (zwrt nm cd [], y) := by
        rw [← y1, ← hw]; rfl
      have k3' : f_Ballot_nearOf (nI p) (za v 21 ((0 : Int32).toNatClampNeg) (nI (zown u M f g p))) = some (nI k2) := k3
      have hs' : f_Council_sumOf (nI p) (nI b) 1 (za (za v 21 ((0 : Int32).toNatClampNeg) (nI (zown u M f g p))) 21 ((1 : Int32).toNatClampNeg) (nI k2)) = some (zlik u M b p) := hs
      simp only [zOne, f_Code_isEmptyT, e1, e0, if_false, Option.bind_some, if_true, f_Ballot_isAllowed, p0, p10, zif z10, cp, hv.2.1 p hp, k3', hs', z_pcx b hb, gx, hw']
      by_cases ez : zwrt nm cd [] = 0
      · rw [if_pos ez, if_neg (by simp [ez])]
      · rw [if_neg ez, if_pos (by simp [ez])]
    · have e1 : v.1 3916 = nI n := (hv.1.g 3916).trans l1
      have e0 : (0 : Int32) ≤ nI n := nI_pos' (by omega)
      obtain ⟨k2, k3, k4⟩ := m_near h hv.1 (f := f) (g := g) hp (fun q hq => (hv.2 q hq).1)
      have e := znr_u k4 hk
      subst e
      generalize hw : za (za (za (za (za (za v 48 0 (nI (zown u M f g p))) 48 1 (nI k2)) 48 2 (zlik u M b p)) 48 3 (nI p)) 48 4 (nI (zpop b))) 48 5 (if g.testBit p then 1 else 0) = w
      have fw : zfr [3917, 3918, 3919, 3920, 3921, 3925] [48] [] v w := by
        rw [← hw]
        exact ((((((zfr_rf v).a _ (by decide)).a _ (by decide)).a _ (by decide)).a _ (by decide)).a _ (by decide)).a _ (by decide)
      have fuw : zsd u w := hv.1.tr (fw.mono (by decide) (by decide) (by decide))
      have hb2 : zMb (zs (zs w 3917 0) 3919 (nI n)) t n := ⟨n1, t1, fun q hq => (t2 q hq).1, rfl, Or.inr ⟨rfl, fun q hq => by show w.2.1 47 q = _; rw [fuw.ga 47]; exact (t2 q hq).2⟩⟩
      have hn2 : zNm w nm := by rw [← hw, ← hnm]; exact z_names v 48 _ _ _ _ _ _
      obtain ⟨y, y1, y2, y3⟩ := m_workOut hT (u := w) (a := 0) hb2 hn2
      refine ⟨y, ?_, fw.tr (y3.mono (by decide) (by decide) (by decide))⟩
      have ef : ∀ z : Int32, z = (if g.testBit p then 1 else 0) → f_M_workOut 0 (nI n) (za (za (za (za (za (za v 48 ((0 : Int32).toNatClampNeg) (nI (zown u M f g p))) 48 ((1 : Int32).toNatClampNeg) (nI k2)) 48 ((2 : Int32).toNatClampNeg) (zlik u M b p)) 48 ((3 : Int32).toNatClampNeg) (nI p)) 48 ((4 : Int32).toNatClampNeg) (nI (zpop b))) 48 ((5 : Int32).toNatClampNeg) z) = some (zwrt nm cd [], y) := by
        intro z hz
        rw [hz, ← y1, ← hw]; rfl
      by_cases eg : g.testBit p = true
      · have i1 : f_M_isIn (nI g) (nI p) = some 1 := by rw [m_isIn (by omega) (by omega), if_pos eg]
        have ef' := ef 1 (by rw [if_pos eg])
        simp only [f_M_mayVote, k3, Option.bind_some, e1, e0, if_true, zif z10, cp, (hv.2 p hp).1, (hv.2 p hp).2, m_bits hb, i1, c10, if_false, ef']
        by_cases ez : zwrt nm cd [] = 0
        · rw [if_pos ez, if_neg (by simp [ez])]
        · rw [if_neg ez, if_pos (by simp [ez])]
      · have i1 : f_M_isIn (nI g) (nI p) = some 0 := by rw [m_isIn (by omega) (by omega), if_neg eg]
        have ef' := ef 0 (by rw [if_neg eg])
        simp only [f_M_mayVote, k3, Option.bind_some, e1, e0, if_true, zif z10, cp, (hv.2 p hp).1, (hv.2 p hp).2, m_bits hb, i1, ef']
        by_cases ez : zwrt nm cd [] = 0
        · rw [if_pos ez, if_neg (by simp [ez])]
        · rw [if_neg ez, if_pos (by simp [ez])]
/-! all of them -/
def zWs2 (u : ZSt) (P M b f g w : Nat) : Prop := w < 2 ^ P ∧ (∀ v, zsd u v → ∃ v', f_Ballot_whoMay (nI b) (nI f) (nI g) v = some (nI w, v') ∧ zsd u v' ∧ zfr [1904] [18, 20, 21] [] v v') ∧ (∀ v, zsd u v → ∃ v', f_M_asks (nI b) (nI f) (nI g) v = some v' ∧ v'.1 3925 = nI w ∧ zMwd u P M b f g v' ∧ zfr [3917, 3918, 3919, 3920, 3921, 3925] [48, 49, 50] [] v v')
theorem o_who2 {u : ZSt} {P M : Nat} {adj : Nat → Nat} (h : zRB u P M adj) {b f g : Nat} (hb : b < 1024) (hf : f < 1024) (hg : g < 1024) : ∃ w, zWs2 u P M b f g w := by
  have hP := h.1.1
  have c10 : ¬ (1 : Int32) = 0 := by decide
  have ex : ∀ p, ∃ B : Bool, p < P → (∀ v, zXw u P M f g v → ∃ v', zOne (nI b) (nI g) p v = some (if B = true then 1 else 0, v') ∧ zfr [] [18, 21] [] v v') ∧ (∀ v, zMwd u P M b f g v → ∃ v', f_M_mayVote (nI p) (nI b) (nI g) v = some (if B = true then 1 else 0, v') ∧ zfr [3917, 3918, 3919, 3920, 3921, 3925] [48] [] v v') := by
    intro p
    by_cases hp : p < P
    · obtain ⟨B, hB⟩ := o_one h hb hf hg hp
      exact ⟨B, fun _ => hB⟩
    · exact ⟨true, fun q => absurd q hp⟩
  obtain ⟨A, hA⟩ := Classical.axiomOfChoice ex
  refine ⟨zbits A P, zbits_lt A P, fun v hv => ?_, fun v hv => ?_⟩
  · obtain ⟨v1, a1, a2, a3, a4, a5⟩ := x_weigh h hv hf hg
    obtain ⟨w, h1, h2⟩ := zit_f (B := fun s : Int32 × Int32 × ZSt => b_Ballot_whoMay_8 (nI b) (nI g) s.1 s.2.1 s.2.2) (α := Unit) (fun k _ v => (nI (zbits A k), nI k, v)) (fun _ v => (nI (zbits A P), nI P, v))
      (fun k _ w => zXw u P M f g w ∧ zfr [1904] [18, 20, 21] [] v w) (fun _ x => x) (a := 0) (n := P) (x := ()) (v := v1) (Nat.zero_le _) (by omega)
      (by
        rintro k - w - hk ⟨hw, hw3⟩
        have hB := h.sd hw.1
        have n1 : ¬ nI P ≤ nI k := by rw [nI_leI (by omega) (by omega)]; omega
        obtain ⟨y, y1, y2⟩ := (hA k hk).1 w hw
        refine ⟨y, ?_, hw.fr y2, hw3.tr (y2.mono (by decide) (by decide) (by decide))⟩
        have st := zbits_step A (k := k) (by omega)
        have key : b_Ballot_whoMay_8 (nI b) (nI g) (nI (zbits A k)) (nI k) w = (zOne (nI b) (nI g) k w).bind (fun q => if q.1 = 0 then some (.inl (nI (zbits A k) ||| 0, nI k + 1, q.2)) else some (.inl (nI (zbits A k) ||| ((1 : Int32) <<< (nI k &&& 31)), nI k + 1, q.2))) := by
          simp only [b_Ballot_whoMay_8, hB.1.2.1, n1, if_false, zOne]
          cases f_Code_isEmptyT w with
          | none => rfl
          | some q =>
            simp only [Option.bind_some]
            by_cases hq : q = 0
            · rw [if_pos hq, if_pos hq]
            · rw [if_neg hq, if_neg hq]
              cases f_Ballot_isFree (nI k) (w.1 106) w <;> rfl
        show b_Ballot_whoMay_8 (nI b) (nI g) (nI (zbits A k)) (nI k) w = _
        rw [key, y1]
        simp only [Option.bind_some, nI_1]
        by_cases e : A k = true
        · rw [if_pos e] at st
          rw [if_pos e, if_neg c10, st]
        · rw [if_neg e] at st
          rw [if_neg e, if_pos rfl, st])
      (by
        rintro - w ⟨hw, hw3⟩
        have n1 : nI P ≤ nI P := by rw [nI_leI (by omega) (by omega)]; exact Nat.le_refl _
        simp only [b_Ballot_whoMay_8, (h.sd hw.1).1.2.1, n1, if_true])
      ⟨⟨a2, a3, a4⟩, a5.mono (by decide) (by decide) (by decide)⟩
    refine ⟨w, ?_, h2.1.1, h2.2⟩
    have h1' : ziter (fun s : Int32 × Int32 × ZSt => b_Ballot_whoMay_8 (nI b) (nI g) s.1 s.2.1 s.2.2) zfu (0, 0, v1) = some (nI (zbits A P), nI P, w) := h1
    simp only [f_Ballot_whoMay, a1, Option.bind_some, h1', a_Ballot_whoMay_8]
  · obtain ⟨v1, a1, a2, a3⟩ := m_touches h hv hb hf hg
    obtain ⟨w, h1, h2⟩ := zit_f (B := fun s : Int32 × ZSt => b_M_asks_10 (nI b) (nI g) s.1 s.2) (α := Unit) (fun k _ v => (nI k, v)) (fun _ v => (nI P, v))
      (fun k _ w => (zMwd u P M b f g w ∧ w.1 3925 = nI (zbits A k)) ∧ zfr [3917, 3918, 3919, 3920, 3921, 3925] [48, 49, 50] [] v w) (fun _ x => x) (a := 0) (n := P) (x := ()) (v := zs v1 3925 0) (Nat.zero_le _) (by omega)
      (by
        rintro k - w - hk ⟨⟨hw, hw2⟩, hw3⟩
        have hB := h.sd hw.1
        have n1 : ¬ nI P ≤ nI k := by rw [nI_leI (by omega) (by omega)]; omega
        obtain ⟨y, y1, y2⟩ := (hA k hk).2 w hw
        have st := zbits_step A (k := k) (by omega)
        refine ⟨zs y 3925 (nI (zbits A (k + 1))), ?_, ⟨hw.fr (y2.s _ (by decide)), rfl⟩, (hw3.tr (y2.mono (by decide) (by decide) (by decide))).s _ (by decide)⟩
        simp only [b_M_asks_10, hB.1.2.2.1, n1, if_false, y1, Option.bind_some, hw2, nI_1]
        by_cases e : A k = true
        · rw [if_pos e] at st
          rw [if_pos e, if_neg c10, st]
        · rw [if_neg e] at st
          rw [if_neg e, if_pos rfl, st])
      (by
        rintro - w ⟨⟨hw, hw2⟩, hw3⟩
        have n1 : nI P ≤ nI P := by rw [nI_leI (by omega) (by omega)]; exact Nat.le_refl _
        simp only [b_M_asks_10, (h.sd hw.1).1.2.2.1, n1, if_true])
      ⟨⟨a2.fr ((zfr_rf v1).s _ (by decide)), rfl⟩, (a3.mono (by decide) (by decide) (by decide)).s _ (by decide)⟩
    refine ⟨w, ?_, h2.1.2, h2.1.1, h2.2⟩
    have h1' : ziter (fun s : Int32 × ZSt => b_M_asks_10 (nI b) (nI g) s.1 s.2) zfu (0, zs v1 3925 0) = some (nI P, w) := h1
    simp only [f_M_asks, a1, Option.bind_some, h1', a_M_asks_10]
/-! the rows that all that is worked out may write -/
def zsc (u v : ZSt) : Prop := zfr [1904, 3917, 3918, 3919, 3920, 3921, 3925] [18, 20, 21, 23, 24, 25, 26, 48, 49, 50, 51, 52, 53] [] u v
theorem zsc.d {u v : ZSt} (h : zsc u v) : zsd u v := h.mono (by decide) (by decide) (by decide)
theorem zRB.sc {u v : ZSt} {P M : Nat} {adj : Nat → Nat} (h : zRB u P M adj) (f : zsc u v) : zRB v P M adj := h.sd f.d
theorem zlik_sc {u v : ZSt} (f : zsc u v) (M b p : Nat) : zlik v M b p = zlik u M b p := zlik_sd f.d M b p
def zMw (u : ZSt) (P M b f g : Nat) (v : ZSt) : Prop := zsc u v ∧ ∀ p, p < P → v.2.1 49 p = nI (zown u M f g p) ∧ v.2.1 50 p = zlik u M b p
theorem zMw.d {u v : ZSt} {P M b f g : Nat} (h : zMw u P M b f g v) : zMwd u P M b f g v := ⟨h.1.d, h.2⟩
def zWs (u : ZSt) (P M b f g w : Nat) : Prop := w < 2 ^ P ∧ (∀ v, zsc u v → ∃ v', f_Ballot_whoMay (nI b) (nI f) (nI g) v = some (nI w, v') ∧ zsc u v') ∧ (∀ v, zsc u v → ∃ v', f_M_asks (nI b) (nI f) (nI g) v = some v' ∧ v'.1 3925 = nI w ∧ zMw u P M b f g v')
theorem o_who {u : ZSt} {P M : Nat} {adj : Nat → Nat} (h : zRB u P M adj) {b f g : Nat} (hb : b < 1024) (hf : f < 1024) (hg : g < 1024) : ∃ w, zWs u P M b f g w := by
  obtain ⟨w, w1, w2, w3⟩ := o_who2 h hb hf hg
  refine ⟨w, w1, fun v hv => ?_, fun v hv => ?_⟩
  · obtain ⟨v', a1, a2, a3⟩ := w2 v hv.d
    exact ⟨v', a1, hv.tr (a3.mono (by decide) (by decide) (by decide))⟩
  · obtain ⟨v', a1, a2, a3, a4⟩ := w3 v hv.d
    exact ⟨v', a1, a2, hv.tr (a4.mono (by decide) (by decide) (by decide)), a3.2⟩
/-- what they leave as it was -/
theorem x_who_fr {u v v' : ZSt} {P M : Nat} {adj : Nat → Nat} (h : zRB u P M adj) {b f g : Nat} (hb : b < 1024) (hf : f < 1024) (hg : g < 1024) (hv : zsc u v) {r : Int32} (e : f_Ballot_whoMay (nI b) (nI f) (nI g) v = some (r, v')) : zfr [1904] [18, 20, 21] [] v v' := by
  obtain ⟨w, w1, w2, w3⟩ := o_who2 h hb hf hg
  obtain ⟨y, a1, a2, a3⟩ := w2 v hv.d
  rw [e] at a1
  cases a1
  exact a3
theorem m_asks_fr {u v v' : ZSt} {P M : Nat} {adj : Nat → Nat} (h : zRB u P M adj) {b f g : Nat} (hb : b < 1024) (hf : f < 1024) (hg : g < 1024) (hv : zsc u v) (e : f_M_asks (nI b) (nI f) (nI g) v = some v') : zfr [3917, 3918, 3919, 3920, 3921, 3925] [48, 49, 50] [] v v' := by
  obtain ⟨w, w1, w2, w3⟩ := o_who2 h hb hf hg
  obtain ⟨y, a1, a2, a3, a4⟩ := w3 v hv.d
  rw [e] at a1
  cases a1
  exact a4
