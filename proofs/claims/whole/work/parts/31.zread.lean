/-! the class reads THE TAPE -/
theorem ziter_l {σ ρ : Type} {B : σ → Option (σ ⊕ ρ)} {F : Nat} {s s' : σ} (h : B s = some (.inl s')) : ziter B (F + 1) s = ziter B F s' := by simp only [ziter, h, Option.bind_some]
theorem ziter_r {σ ρ : Type} {B : σ → Option (σ ⊕ ρ)} {F : Nat} {s : σ} {r : ρ} (h : B s = some (.inr r)) : ziter B (F + 1) s = some r := by simp only [ziter, h, Option.bind_some]
theorem zfu_2 : ∃ F, zfu = F + 2 := ⟨1048574, zfu_eq⟩
def zXb (u : ZSt) (t : Nat → Nat) (n : Nat) : Prop := n ≤ 120 ∧ u.1 902 = nI n ∧ (∀ p, n ≤ p → t p = 256) ∧ ∀ p, p < n → t p ≤ 255 ∧ u.2.1 10 p = nI (t p)
def zDc (u : ZSt) (p : Nat) (l : List (Nat × Nat)) : Prop := u.1 903 = nI p ∧ u.1 1103 = nI l.length ∧ ∀ i x, l[i]? = some x → u.2.1 12 i = nI x.1 ∧ u.2.1 13 i = nI x.2
theorem zXb.fr {u v : ZSt} {t : Nat → Nat} {n : Nat} (h : zXb u t n) (f : zfr [903, 1103] [12, 13] [] u v) : zXb v t n := by
  obtain ⟨h1, h2, h3, h4⟩ := h
  exact ⟨h1, (f.g 902).trans h2, h3, fun p hp => ⟨(h4 p hp).1, by rw [f.ga 10]; exact (h4 p hp).2⟩⟩
theorem zXb.le {u : ZSt} {t : Nat → Nat} {n : Nat} (h : zXb u t n) (p : Nat) : t p ≤ 256 := by
  rcases Nat.lt_or_ge p n with q | q
  · have := (h.2.2.2 p q).1; omega
  · rw [h.2.2.1 p q]; exact Nat.le_refl _
theorem zXb.lt {u : ZSt} {t : Nat → Nat} {n : Nat} (h : zXb u t n) {p : Nat} (hp : t p ≠ 256) : p < n := by
  rcases Nat.lt_or_ge p n with q | q
  · exact q
  · exact absurd (h.2.2.1 p q) hp
theorem x_next {u : ZSt} {t : Nat → Nat} {n p : Nat} (h : zXb u t n) (hp : u.1 903 = nI p) (hpn : p ≤ n) : f_Reader_next u = some (zxc (t p)) := by
  obtain ⟨h1, h2, h3, h4⟩ := h
  have n1 : ¬ nI p < 0 := nI_pos (by omega)
  simp only [f_Reader_next, hp, h2, n1, if_false, nI_leI (show n < 2 ^ 31 by omega) (show p < 2 ^ 31 by omega)]
  by_cases e : p < n
  · have n2 : ¬ n ≤ p := by omega
    have n3 : ¬ (120 : Int32) ≤ nI p := by rw [show (120 : Int32) = nI 120 from rfl, nI_leI (by decide) (by omega)]; omega
    have := h4 p e
    rw [if_neg n2, if_neg n3, if_pos (zn_zin (show p < 120 by omega) (by decide)), zn_cl (show p < 2 ^ 31 by omega), this.2, zxc, if_neg (by omega)]
  · rw [if_pos (by omega), h3 p (by omega)]; rfl
theorem x_addD {u : ZSt} {p : Nat} {l : List (Nat × Nat)} (h : zDc u p l) (hl : l.length < 128) (a b : Nat) : ∃ v, f_Code_addD (nI a) (nI b) u = some v ∧ zDc v p (l ++ [(a, b)]) ∧ zfr [903, 1103] [12, 13] [] u v := by
  obtain ⟨h1, h2, h3⟩ := h
  have n1 : ¬ 128 ≤ l.length := by omega
  refine ⟨zs (za (za u 12 l.length (nI a)) 13 l.length (nI b)) 1103 (nI (l.length + 1)), ?_, ⟨h1, ?_, fun i x hx => ?_⟩, (((zfr_rf u).a _ (by decide)).a _ (by decide)).s _ (by decide)⟩
  · simp only [f_Code_addD, h2]
    simp (disch := omega) [fa_lit, nI_ltI, nI_leI, nI_eq, nI_add, pk_sub, zn_cl, zn_zin, n1, hl]
  · rw [List.length_append]; rfl
  · rw [List.getElem?_append] at hx
    split at hx
    · rename_i hi
      have := h3 i x hx
      have ne : i ≠ l.length := by omega
      exact ⟨by simp [zs1, zs2, za1, za2, za3, zl1, zl2, zl3, zc1, zc2, zc3, zd1, zd2, zd3, upd1, ne, this.1], by simp [zs1, zs2, za1, za2, za3, zl1, zl2, zl3, zc1, zc2, zc3, zd1, zd2, zd3, upd1, ne, this.2]⟩
    · rename_i hi
      have e : i = l.length := by
        rcases Nat.lt_or_ge (i - l.length) 1 with q | q
        · omega
        · rw [List.getElem?_eq_none (by simpa using q)] at hx; cases hx
      subst e
      simp at hx
      subst hx
      exact ⟨by simp [zs1, zs2, za1, za2, za3, zl1, zl2, zl3, zc1, zc2, zc3, zd1, zd2, zd3, upd1], by simp [zs1, zs2, za1, za2, za3, zl1, zl2, zl3, zc1, zc2, zc3, zd1, zd2, zd3, upd1]⟩
theorem zDc.s {u : ZSt} {p : Nat} {l : List (Nat × Nat)} (h : zDc u p l) (q : Nat) : zDc (zs u 903 (nI q)) q l := ⟨rfl, h.2.1, h.2.2⟩
theorem x_num {t : Nat → Nat} {n : Nat} : ∀ (k : Nat) (F : Nat) (p a : Nat) (u : ZSt) (l : List (Nat × Nat)), k ≤ 4 → k < F → p ≤ n → zXb u t n → zDc u p l →
    ∃ v i, ziter (fun s : Int32 × Int32 × ZSt => b_Reader_readNumber_4 s.1 s.2.1 s.2.2) F (nI a, nI (4 - k), u) = some (nI (znum t k p a).2, i, v) ∧ zDc v (znum t k p a).1 l ∧ zfr [903, 1103] [12, 13] [] u v := by
  intro k
  induction k with
  | zero =>
    intro F p a u l hk hF hp hb hd
    obtain ⟨F, rfl⟩ := Nat.exists_eq_succ_of_ne_zero (show F ≠ 0 by omega)
    refine ⟨u, nI 4, ?_, hd, zfr_rf u⟩
    simp only [ziter, b_Reader_readNumber_4, znum]
    simp (disch := omega) [fa_lit, nI_ltI, nI_leI, nI_eq, nI_add, pk_sub, zn_cl, zn_zin]
  | succ k ih =>
    intro F p a u l hk hF hp hb hd
    obtain ⟨F, rfl⟩ := Nat.exists_eq_succ_of_ne_zero (show F ≠ 0 by omega)
    have hx := x_next hb hd.1 hp
    have n1 : ¬ (4 : Int32) ≤ nI (4 - (k + 1)) := by rw [show (4 : Int32) = nI 4 from rfl, nI_leI (by decide) (by omega)]; omega
    by_cases hdg : zdig (t p)
    · have hpn : p < n := hb.lt (by rw [zdig_iff] at hdg; omega)
      have e : znum t (k + 1) p a = znum t k (p + 1) (10 * a + t p - 48) := by rw [znum, if_pos hdg]
      obtain ⟨v, i, v1, v2, v3⟩ := ih F (p + 1) (10 * a + t p - 48) (zs u 903 (nI (p + 1))) l (by omega) (by omega) (by omega) (hb.fr ((zfr_rf u).s _ (by decide))) (hd.s (p + 1))
      refine ⟨v, i, ?_, by rw [e]; exact v2, ((zfr_rf u).s _ (by decide)).tr v3⟩
      rw [e, ← v1]
      have c10 : ¬ (1 : Int32) = 0 := by decide
      have hdg' := zdig_iff.mp hdg
      have e1 : zxc (t p) = nI (t p) := by rw [zxc, if_neg (by omega)]
      refine ziter_l ?_
      simp only [b_Reader_readNumber_4, n1, if_false, hx, Option.bind_some, zxc_dig (hb.le p), hdg, if_true, c10, if_false, hd.1, nI_1]
      rw [show 4 - (k + 1) + 1 = 4 - k by omega, e1, show (10 : Int32) = nI 10 from rfl, show (48 : Int32) = nI 48 from rfl, pk_mul, nI_add, pk_sub (by omega)]
    · have e : znum t (k + 1) p a = (p, a) := by rw [znum, if_neg hdg]
      refine ⟨u, nI (4 - (k + 1)), ?_, by rw [e]; exact hd, zfr_rf u⟩
      rw [e]
      refine ziter_r ?_
      simp only [b_Reader_readNumber_4, n1, if_false, hx, Option.bind_some, zxc_dig (hb.le p), hdg, Bool.false_eq_true, if_true]
def zXo (u : ZSt) (l : List (Nat × Nat)) (res : Option (Int32 × ZSt)) : zRes → Prop
  | .inl q => ∃ v, res = some (0, v) ∧ v.1 903 = nI q ∧ zfr [903, 1103] [12, 13] [] u v
  | .inr (q, c) => ∃ v, res = some (1, v) ∧ zDc v q (l ++ c) ∧ zfr [903, 1103] [12, 13] [] u v
def zSc (t : Nat → Nat) (n f k o : Nat) : Prop := ∀ p l u, zXb u t n → zDc u p l → l.length ≤ p → p ≤ n → ∃ r, zG t false k o p r ∧ zXo u l (r_Reader_readChain f 0 (nI k) (nI o) u) r
theorem zxc_levk {b k : Nat} (h : b ≤ 256) (hk : k < 5) : (if zlev b = 9 then (-1 : Int32) else nI (zlev b)) = nI k ↔ zlev b = k := by
  rcases (zlev_lt (b := b)) with e | e
  · rw [e, if_pos rfl]
    exact ⟨fun q => absurd q.symm (z_m1i (by omega)), fun q => by omega⟩
  · rw [if_neg (by omega), nI_eq (by omega) (by omega)]
/-- one round behind the first member of a chain -/
theorem x_round {t : Nat → Nat} {n f k o : Nat} (hk : k < 5) (hs : zSc t n f (k + 1) o) {p : Nat} {l : List (Nat × Nat)} {u : ZSt} (hb : zXb u t n) (hd : zDc u p l) (hl : l.length ≤ p) (hp : p ≤ n) {l3 l4 : Int32} (h34 : ¬ l3 ≤ l4) :
    (zlev (t p) ≠ k ∧ b_Reader_readChain_25 (r_Reader_readChain f) (nI k) (nI o) l3 l4 u = some (.inr (.inl (l4, u)))) ∨
    (zlev (t p) = k ∧ ∃ q v, zG t false (k + 1) o (p + 1) (.inl q) ∧ b_Reader_readChain_25 (r_Reader_readChain f) (nI k) (nI o) l3 l4 u = some (.inr (.inr (0, v))) ∧ v.1 903 = nI q ∧ zfr [903, 1103] [12, 13] [] u v) ∨
    (zlev (t p) = k ∧ ∃ q c v, zG t false (k + 1) o (p + 1) (.inr (q, c)) ∧ b_Reader_readChain_25 (r_Reader_readChain f) (nI k) (nI o) l3 l4 u = some (.inl (l4 + 1, v)) ∧ zDc v q (l ++ (c ++ [(t p, 0)])) ∧ zfr [903, 1103] [12, 13] [] u v ∧ p < q ∧ q ≤ n ∧ (l ++ (c ++ [(t p, 0)])).length ≤ q) := by
  have hx := x_next hb hd.1 hp
  have hlev := zxc_lev (hb.le p)
  simp only [b_Reader_readChain_25, h34, if_false, hx, Option.bind_some, hlev, zxc_levk (hb.le p) hk, hd.1, nI_1]
  by_cases e : zlev (t p) = k
  · right
    have ht : t p ≠ 256 := by
      intro q
      rw [q] at e
      have : zlev 256 = 9 := rfl
      omega
    have hpn := hb.lt ht
    simp only [e, if_true]
    have hb2 : zXb (zs u 903 (nI (p + 1))) t n := hb.fr ((zfr_rf u).s _ (by decide))
    obtain ⟨r, g, ho⟩ := hs (p + 1) l (zs u 903 (nI (p + 1))) hb2 (hd.s (p + 1)) (by omega) (by omega)
    have fr0 : zfr [903, 1103] [12, 13] [] u (zs u 903 (nI (p + 1))) := (zfr_rf u).s _ (by decide)
    cases r with
    | inl q =>
      obtain ⟨v, v1, v2, v3⟩ := ho
      left
      refine ⟨trivial, q, v, g, ?_, v2, fr0.tr v3⟩
      rw [v1]
      simp only [Option.bind_some, if_true]
    | inr x =>
      obtain ⟨q, c⟩ := x
      obtain ⟨v, v1, v2, v3⟩ := ho
      right
      obtain ⟨a1, a2, a3⟩ := zG_ok hb.2.2.1 g (by omega)
      have := a3 rfl
      have hn := hb.1
      obtain ⟨w, w1, w2, w3⟩ := x_addD v2 (by rw [List.length_append]; omega) (t p) 0
      refine ⟨trivial, q, c, w, g, ?_, by rw [← List.append_assoc]; exact w2, (fr0.tr v3).tr w3, by omega, a2, by simp only [List.length_append, List.length_cons, List.length_nil]; omega⟩
      have c10 : ¬ (1 : Int32) = 0 := by decide
      have e0 : zxc (t p) = nI (t p) := by rw [zxc, if_neg ht]
      rw [v1]
      simp only [Option.bind_some, c10, if_false, e0]
      rw [show f_Code_addD (nI (t p)) 0 v = some w from w1]
      rfl
  · exact Or.inl ⟨e, by simp only [e, if_false]⟩
/-- what comes behind the first member: levels other than 2 -/
theorem x_rest {t : Nat → Nat} {n f k o : Nat} (hk : k < 5) (hk2 : k ≠ 2) (hs : zSc t n f (k + 1) o) : ∀ (d F p i : Nat) (l : List (Nat × Nat)) (u : ZSt), n - p ≤ d → d < F → zXb u t n → zDc u p l → l.length ≤ p → p ≤ n → i ≤ p →
    ∃ r, zG t true k o p r ∧ zXo u l ((ziter (fun s : Int32 × ZSt => b_Reader_readChain_25 (r_Reader_readChain f) (nI k) (nI o) 120 s.1 s.2) F (nI i, u)).bind (Sum.elim (fun s => a_Reader_readChain_25 (r_Reader_readChain f) s.2) (fun r => some r))) r := by
  have g := zG_r t
  intro d
  induction d with
  | zero =>
    intro F p i l u hd hF hb hc hl hp hi
    obtain ⟨F, rfl⟩ := Nat.exists_eq_succ_of_ne_zero (show F ≠ 0 by omega)
    have e : t p = 256 := hb.2.2.1 p (by omega)
    have hz : zlev (t p) ≠ k := by rw [e]; intro q; have : zlev 256 = 9 := rfl; omega
    refine ⟨.inr (p, []), g.2.2.1 k o p hk hz, u, ?_, by rw [List.append_nil]; exact hc, zfr_rf u⟩
    by_cases h34 : (120 : Int32) ≤ nI i
    · simp only [ziter, b_Reader_readChain_25, h34, if_true, Option.bind_some, Sum.elim_inl, a_Reader_readChain_25]
    · rcases x_round hk hs hb hc hl hp h34 with ⟨h1, h2⟩ | ⟨h1, -⟩ | ⟨h1, -⟩
      · simp only [ziter, h2, Option.bind_some, Sum.elim_inl, a_Reader_readChain_25]
      · exact absurd h1 hz
      · exact absurd h1 hz
  | succ d ih =>
    intro F p i l u hd hF hb hc hl hp hi
    obtain ⟨F, rfl⟩ := Nat.exists_eq_succ_of_ne_zero (show F ≠ 0 by omega)
    have hn := hb.1
    by_cases h34 : (120 : Int32) ≤ nI i
    · have hi2 : 120 ≤ i := by rw [show (120 : Int32) = nI 120 from rfl, nI_leI (by decide) (by omega)] at h34; exact h34
      have e : t p = 256 := hb.2.2.1 p (by omega)
      have hz : zlev (t p) ≠ k := by rw [e]; intro q; have : zlev 256 = 9 := rfl; omega
      refine ⟨.inr (p, []), g.2.2.1 k o p hk hz, u, ?_, by rw [List.append_nil]; exact hc, zfr_rf u⟩
      simp only [ziter, b_Reader_readChain_25, h34, if_true, Option.bind_some, Sum.elim_inl, a_Reader_readChain_25]
    · rcases x_round hk hs hb hc hl hp h34 with ⟨h1, h2⟩ | ⟨h1, q, v, h2, h3, h4, h5⟩ | ⟨h1, q, c, v, h2, h3, h4, h5, h6, h7, h8⟩
      · refine ⟨.inr (p, []), g.2.2.1 k o p hk h1, u, ?_, by rw [List.append_nil]; exact hc, zfr_rf u⟩
        simp only [ziter, h2, Option.bind_some, Sum.elim_inl, a_Reader_readChain_25]
      · refine ⟨.inl q, g.2.2.2.1 k o p q hk h1 h2, v, ?_, h4, h5⟩
        simp only [ziter, h3, Option.bind_some, Sum.elim_inr]
      · obtain ⟨r, r1, r2⟩ := ih F q (i + 1) (l ++ (c ++ [(t p, 0)])) v (by omega) (by omega) (hb.fr h5) h4 h8 h7 (by omega)
        refine ⟨zpre (c ++ [(t p, 0)]) r, g.2.2.2.2.2.1 k o p q c r hk hk2 h1 h2 r1, ?_⟩
        simp only [ziter, h3, Option.bind_some]
        rw [nI_1]
        cases r with
        | inl q2 =>
          obtain ⟨w, w1, w2, w3⟩ := r2
          exact ⟨w, w1, w2, h5.tr w3⟩
        | inr x =>
          obtain ⟨q2, c2⟩ := x
          obtain ⟨w, w1, w2, w3⟩ := r2
          exact ⟨w, w1, by rw [← List.append_assoc]; exact w2, h5.tr w3⟩
/-- a comparison: at most one -/
theorem x_rest2 {t : Nat → Nat} {n f o : Nat} (hs : zSc t n f 3 o) {p : Nat} {l : List (Nat × Nat)} {u : ZSt} (hb : zXb u t n) (hc : zDc u p l) (hl : l.length ≤ p) (hp : p ≤ n) :
    ∃ r, zG t true 2 o p r ∧ zXo u l ((ziter (fun s : Int32 × ZSt => b_Reader_readChain_25 (r_Reader_readChain f) (nI 2) (nI o) 1 s.1 s.2) zfu (0, u)).bind (Sum.elim (fun s => a_Reader_readChain_25 (r_Reader_readChain f) s.2) (fun r => some r))) r := by
  have g := zG_r t
  obtain ⟨F, F2⟩ := zfu_2
  rw [F2]
  rcases x_round (by decide) hs hb hc hl hp (l3 := 1) (l4 := 0) (by decide) with ⟨h1, h2⟩ | ⟨h1, q, v, h2, h3, h4, h5⟩ | ⟨h1, q, c, v, h2, h3, h4, h5, h6, h7, h8⟩
  · refine ⟨.inr (p, []), g.2.2.1 2 o p (by decide) h1, u, ?_, by rw [List.append_nil]; exact hc, zfr_rf u⟩
    rw [ziter_r (B := fun s : Int32 × ZSt => b_Reader_readChain_25 (r_Reader_readChain f) (nI 2) (nI o) 1 s.1 s.2) h2]
    rfl
  · refine ⟨.inl q, g.2.2.2.1 2 o p q (by decide) h1 h2, v, ?_, h4, h5⟩
    rw [ziter_r (B := fun s : Int32 × ZSt => b_Reader_readChain_25 (r_Reader_readChain f) (nI 2) (nI o) 1 s.1 s.2) h3]
    rfl
  · refine ⟨.inr (q, c ++ [(t p, 0)]), g.2.2.2.2.1 o p q c h1 h2, v, ?_, h4, h5⟩
    rw [ziter_l (B := fun s : Int32 × ZSt => b_Reader_readChain_25 (r_Reader_readChain f) (nI 2) (nI o) 1 s.1 s.2) h3,
      ziter_r (B := fun s : Int32 × ZSt => b_Reader_readChain_25 (r_Reader_readChain f) (nI 2) (nI o) 1 s.1 s.2) (r := .inl (0 + 1, v)) (by simp only [b_Reader_readChain_25, show (1 : Int32) ≤ 0 + 1 by decide, if_true])]
    rfl
def zSp (t : Nat → Nat) (n f o : Nat) : Prop := ∀ p l u, zXb u t n → zDc u p l → l.length ≤ p → p ≤ n → ∃ r, zG t false 5 o p r ∧ zXo u l (r_Reader_readChain f 2 (nI o) 0 u) r
def zSo (t : Nat → Nat) (n f o : Nat) : Prop := ∀ p l u, zXb u t n → zDc u p l → l.length ≤ p → p ≤ n → (t p = 40 ∨ t p = 33 ∨ t p = 45) → ∃ r, zG t false 5 o p r ∧ zXo u l (r_Reader_readChain f 1 (nI (t p)) (nI (o + 1)) u) r
theorem x_chain {t : Nat → Nat} {n f k o : Nat} (hk : k < 5) (hs : zSc t n f (k + 1) o) : zSc t n (f + 1) k o := by
  intro p l u hb hd hl hp
  have g := zG_r t
  have c10 : ¬ (1 : Int32) = 0 := by decide
  have n1 : nI k < 5 := by rw [show (5 : Int32) = nI 5 from rfl, nI_ltI (by omega) (by decide)]; exact hk
  obtain ⟨r, r1, r2⟩ := hs p l u hb hd hl hp
  have e0 : r_Reader_readChain (f + 1) 0 (nI k) (nI o) u = t_Reader_readChain (r_Reader_readChain f) (nI k) (nI o) u := rfl
  cases r with
  | inl q =>
    obtain ⟨v, v1, v2, v3⟩ := r2
    refine ⟨.inl q, g.1 k o p q hk r1, v, ?_, v2, v3⟩
    rw [e0]
    simp only [t_Reader_readChain, n1, if_true, nI_1, v1, Option.bind_some]
  | inr x =>
    obtain ⟨q, c⟩ := x
    obtain ⟨v, v1, v2, v3⟩ := r2
    obtain ⟨a1, a2, a3⟩ := zG_ok hb.2.2.1 r1 hp
    have := a3 rfl
    have hn := hb.1
    have hlen : (l ++ c).length ≤ q := by rw [List.length_append]; omega
    by_cases hk2 : k = 2
    · subst hk2
      obtain ⟨r, r3, r4⟩ := x_rest2 hs (hb.fr v3) v2 hlen a2
      refine ⟨zpre c r, g.2.1 2 o p q c r hk r1 r3, ?_⟩
      have e3 : t_Reader_readChain (r_Reader_readChain f) (nI 2) (nI o) u = (ziter (fun s : Int32 × ZSt => b_Reader_readChain_25 (r_Reader_readChain f) (nI 2) (nI o) 1 s.1 s.2) zfu (0, v)).bind (Sum.elim (fun s => a_Reader_readChain_25 (r_Reader_readChain f) s.2) (fun r => some r)) := by
        have n2 : nI 2 = 2 := rfl
        simp only [t_Reader_readChain, n1, if_true, nI_1, v1, Option.bind_some, c10, if_false, if_pos n2]
      rw [e0, e3]
      cases r with
      | inl q2 =>
        obtain ⟨w, w1, w2, w3⟩ := r4
        exact ⟨w, w1, w2, v3.tr w3⟩
      | inr x =>
        obtain ⟨q2, c2⟩ := x
        obtain ⟨w, w1, w2, w3⟩ := r4
        exact ⟨w, w1, by rw [← List.append_assoc]; exact w2, v3.tr w3⟩
    · obtain ⟨r, r3, r4⟩ := x_rest hk hk2 hs (n - q) zfu q 0 (l ++ c) v (Nat.le_refl _) (by rw [zfu_eq]; omega) (hb.fr v3) v2 hlen a2 (Nat.zero_le _)
      refine ⟨zpre c r, g.2.1 k o p q c r hk r1 r3, ?_⟩
      have n2 : ¬ nI k = 2 := by rw [show (2 : Int32) = nI 2 from rfl, nI_eq (by omega) (by decide)]; exact hk2
      rw [e0]
      simp only [t_Reader_readChain, n1, if_true, nI_1, v1, Option.bind_some, c10, n2, if_false]
      rw [show nI 0 = (0 : Int32) from rfl] at r4
      cases r with
      | inl q2 =>
        obtain ⟨w, w1, w2, w3⟩ := r4
        exact ⟨w, w1, w2, v3.tr w3⟩
      | inr x =>
        obtain ⟨q2, c2⟩ := x
        obtain ⟨w, w1, w2, w3⟩ := r4
        exact ⟨w, w1, by rw [← List.append_assoc]; exact w2, v3.tr w3⟩
theorem x_chain5 {t : Nat → Nat} {n f o : Nat} (hs : zSp t n f o) : zSc t n (f + 1) 5 o := by
  intro p l u hb hd hl hp
  obtain ⟨r, r1, r2⟩ := hs p l u hb hd hl hp
  refine ⟨r, r1, ?_⟩
  have e0 : r_Reader_readChain (f + 1) 0 (nI 5) (nI o) u = (r_Reader_readChain f 2 (nI o) 0 u).bind (fun q => some (q.1, q.2)) := rfl
  rw [e0]
  cases h : r_Reader_readChain f 2 (nI o) 0 u with
  | none => rw [h] at r2; exact r2
  | some y => rw [h] at r2; exact r2
theorem x_opened {t : Nat → Nat} {n f o : Nat} (ho : o < 6) (hs : zSc t n f 0 (o + 1)) (hp' : zSp t n f (o + 1)) : zSo t n (f + 1) o := by
  intro p l u hb hd hl hp ht
  have g := zG_r t
  have c10 : ¬ (1 : Int32) = 0 := by decide
  have hpn : p < n := hb.lt (by omega)
  have hn := hb.1
  have e0 : r_Reader_readChain (f + 1) 1 (nI (t p)) (nI (o + 1)) u = t_Reader_readOpened (r_Reader_readChain f) (nI (t p)) (nI (o + 1)) u := rfl
  have hb2 : zXb (zs u 903 (nI (p + 1))) t n := hb.fr ((zfr_rf u).s _ (by decide))
  have fr0 : zfr [903, 1103] [12, 13] [] u (zs u 903 (nI (p + 1))) := (zfr_rf u).s _ (by decide)
  rw [e0]
  by_cases h40 : t p = 40
  · obtain ⟨r, r1, r2⟩ := hs (p + 1) l _ hb2 (hd.s (p + 1)) (by omega) (by omega)
    have n1 : nI (t p) = 40 := by rw [h40]; rfl
    cases r with
    | inl q =>
      obtain ⟨v, v1, v2, v3⟩ := r2
      refine ⟨.inl q, g.2.2.2.2.2.2.2.1 o p q h40 ho r1, v, ?_, v2, fr0.tr v3⟩
      rw [show nI 0 = (0 : Int32) from rfl] at v1
      simp only [t_Reader_readOpened, n1, if_true, hd.1, nI_1, v1, Option.bind_some]
    | inr x =>
      obtain ⟨q, c⟩ := x
      obtain ⟨v, v1, v2, v3⟩ := r2
      rw [show nI 0 = (0 : Int32) from rfl] at v1
      obtain ⟨a1, a2, a3⟩ := zG_ok hb.2.2.1 r1 (by omega)
      have hx := x_next (hb.fr (fr0.tr v3)) v2.1 a2
      by_cases h41 : t q = 41
      · refine ⟨.inr (q + 1, c), g.2.2.2.2.2.2.2.2.2.1 o p q c h40 ho r1 h41, zs v 903 (nI (q + 1)), ?_, v2.s (q + 1), (fr0.tr v3).s _ (by decide)⟩
        have : zxc (t q) = 41 := (zxc_eq (hb.le q) (c := 41) (by decide)).mpr h41
        simp only [t_Reader_readOpened, n1, if_true, hd.1, nI_1, v1, Option.bind_some, c10, if_false, hx, this, v2.1]
      · refine ⟨.inl q, g.2.2.2.2.2.2.2.2.1 o p q c h40 ho r1 h41, v, ?_, v2.1, fr0.tr v3⟩
        have : ¬ zxc (t q) = 41 := fun e => h41 ((zxc_eq (hb.le q) (c := 41) (by decide)).mp e)
        simp only [t_Reader_readOpened, n1, if_true, hd.1, nI_1, v1, Option.bind_some, c10, if_false, hx, this]
  · have ht' : t p = 33 ∨ t p = 45 := by omega
    have n1 : ¬ nI (t p) = 40 := by rw [show (40 : Int32) = nI 40 from rfl, nI_eq (by omega) (by decide)]; exact h40
    obtain ⟨r, r1, r2⟩ := hp' (p + 1) l _ hb2 (hd.s (p + 1)) (by omega) (by omega)
    cases r with
    | inl q =>
      obtain ⟨v, v1, v2, v3⟩ := r2
      refine ⟨.inl q, g.2.2.2.2.2.2.2.2.2.2.1 o p q ht' ho r1, v, ?_, v2, fr0.tr v3⟩
      simp only [t_Reader_readOpened, n1, if_false, hd.1, nI_1, v1, Option.bind_some, if_true]
    | inr x =>
      obtain ⟨q, c⟩ := x
      obtain ⟨v, v1, v2, v3⟩ := r2
      obtain ⟨a1, a2, a3⟩ := zG_ok hb.2.2.1 r1 (by omega)
      have := a3 rfl
      obtain ⟨w, w1, w2, w3⟩ := x_addD v2 (by rw [List.length_append]; omega) (if t p = 33 then 33 else 126) 0
      refine ⟨.inr (q, c ++ [(if t p = 33 then 33 else 126, 0)]), g.2.2.2.2.2.2.2.2.2.2.2.1 o p q c ht' ho r1, w, ?_, by rw [← List.append_assoc]; exact w2, (fr0.tr v3).tr w3⟩
      have n2 : (nI (t p) = 33) = (t p = 33) := by rw [show (33 : Int32) = nI 33 from rfl, nI_eq (by omega) (by decide)]
      simp only [t_Reader_readOpened, n1, if_false, hd.1, nI_1, v1, Option.bind_some, c10, n2]
      by_cases h33 : t p = 33
      · rw [if_pos h33] at w1 ⊢
        rw [show f_Code_addD 33 0 v = some w from w1]
        rfl
      · rw [if_neg h33] at w1 ⊢
        rw [show f_Code_addD 126 0 v = some w from w1]
        rfl
theorem x_operand {t : Nat → Nat} {n f o : Nat} (ho : o ≤ 6) (hs : o < 6 → zSo t n f o) : zSp t n (f + 1) o := by
  intro p l u hb hd hl hp
  have g := zG_r t
  have c10 : ¬ (1 : Int32) = 0 := by decide
  have hn := hb.1
  have hle := hb.le p
  have hx := x_next hb hd.1 hp
  have e0 : r_Reader_readChain (f + 1) 2 (nI o) 0 u = t_Reader_readOperand (r_Reader_readChain f) (nI o) u := rfl
  have b40 : zxc (t p) = 40 ↔ t p = 40 := zxc_eq hle (c := 40) (by decide)
  have b33 : zxc (t p) = 33 ↔ t p = 33 := zxc_eq hle (c := 33) (by decide)
  have b45 : zxc (t p) = 45 ↔ t p = 45 := zxc_eq hle (c := 45) (by decide)
  rw [e0]
  by_cases hop : t p = 40 ∨ t p = 33 ∨ t p = 45
  · have e1 : zxc (t p) = nI (t p) := by rw [zxc, if_neg (by omega)]
    have key : t_Reader_readOperand (r_Reader_readChain f) (nI o) u = if 6 ≤ o then some (0, u) else (r_Reader_readChain f 1 (nI (t p)) (nI (o + 1)) u).bind (fun q => if q.1 = 0 then some (0, q.2) else some (1, q.2)) := by
      have n6 : ((6 : Int32) ≤ nI o) = (6 ≤ o) := by rw [show (6 : Int32) = nI 6 from rfl, nI_leI (by decide) (by omega)]
      simp only [t_Reader_readOperand, hx, Option.bind_some, b40, b33, b45, n6, nI_1]
      rw [e1]
      rcases hop with e | e | e <;> simp [e]
    rw [key]
    by_cases h6 : 6 ≤ o
    · have : o = 6 := by omega
      subst this
      exact ⟨.inl p, g.2.2.2.2.2.2.1 p hop, u, by rw [if_pos h6], hd.1, zfr_rf u⟩
    · rw [if_neg h6]
      obtain ⟨r, r1, r2⟩ := hs (by omega) p l u hb hd hl hp hop
      refine ⟨r, r1, ?_⟩
      cases r with
      | inl q =>
        obtain ⟨v, v1, v2, v3⟩ := r2
        exact ⟨v, by rw [v1]; rfl, v2, v3⟩
      | inr x =>
        obtain ⟨q, c⟩ := x
        obtain ⟨v, v1, v2, v3⟩ := r2
        exact ⟨v, by rw [v1]; rfl, v2, v3⟩
  · have h40 : t p ≠ 40 := fun e => hop (Or.inl e)
    have h33 : t p ≠ 33 := fun e => hop (Or.inr (Or.inl e))
    have h45 : t p ≠ 45 := fun e => hop (Or.inr (Or.inr e))
    by_cases hdg : zdig (t p)
    · have hF : (4 : Nat) < zfu := by rw [zfu_eq]; decide
      obtain ⟨v, i, v1, v2, v3⟩ := x_num 4 zfu p 0 u l (Nat.le_refl _) hF hp hb hd
      obtain ⟨w, w1, w2, w3⟩ := x_addD v2 (by omega) 48 (znum t 4 p 0).2
      refine ⟨_, g.2.2.2.2.2.2.2.2.2.2.2.2.1 o p hdg, w, ?_, w2, v3.tr w3⟩
      have v1' : ziter (fun s : Int32 × Int32 × ZSt => b_Reader_readNumber_4 s.1 s.2.1 s.2.2) zfu (0, 0, u) = some (nI (znum t 4 p 0).2, i, v) := v1
      have w1' : f_Code_addD 48 (nI (znum t 4 p 0).2) v = some w := w1
      simp only [t_Reader_readOperand, hx, Option.bind_some, b40, b33, b45, h40, h33, h45, if_false, zxc_dig hle, hdg, if_true, c10, f_Reader_readNumber, v1', a_Reader_readNumber_4, w1']
    · by_cases hnm : znam (t p) < 6
      · obtain ⟨w, w1, w2, w3⟩ := x_addD (hd.s (p + 1)) (by omega) 97 (znam (t p))
        refine ⟨_, g.2.2.2.2.2.2.2.2.2.2.2.2.2.1 o p hnm, w, ?_, w2, ((zfr_rf u).s _ (by decide)).tr w3⟩
        have w1' : f_Code_addD 97 (nI (znam (t p))) (zs u 903 (nI (p + 1))) = some w := w1
        have n9 : ¬ znam (t p) = 9 := by omega
        have n0 : (0 : Int32) ≤ nI (znam (t p)) := nI_pos' (by omega)
        simp only [t_Reader_readOperand, hx, Option.bind_some, b40, b33, b45, h40, h33, h45, if_false, zxc_dig hle, hdg, Bool.false_eq_true, if_true, zxc_nam hle, n9, n0, hd.1, nI_1, w1']
      · refine ⟨.inl p, g.2.2.2.2.2.2.2.2.2.2.2.2.2.2 o p h40 h33 h45 hdg hnm, u, ?_, hd.1, zfr_rf u⟩
        have n9 : znam (t p) = 9 := by
          rcases (znam_lt (b := t p)) with e | e
          · exact e
          · exact absurd e hnm
        have n0 : ¬ (0 : Int32) ≤ -1 := by decide
        simp only [t_Reader_readOperand, hx, Option.bind_some, b40, b33, b45, h40, h33, h45, if_false, zxc_dig hle, hdg, Bool.false_eq_true, if_true, zxc_nam hle, n9, n0]
theorem x_all {t : Nat → Nat} {n : Nat} : ∀ f, (∀ k o, k ≤ 5 → o ≤ 6 → 8 * (6 - o) + (8 - k) ≤ f → zSc t n f k o) ∧ (∀ o, o ≤ 6 → 8 * (6 - o) + 2 ≤ f → zSp t n f o) ∧ (∀ o, o < 6 → 8 * (6 - o) + 1 ≤ f → zSo t n f o) := by
  intro f
  induction f with
  | zero => exact ⟨fun k o h1 h2 h3 => by omega, fun o h1 h2 => by omega, fun o h1 h2 => by omega⟩
  | succ f ih =>
    obtain ⟨i1, i2, i3⟩ := ih
    refine ⟨fun k o h1 h2 h3 => ?_, fun o h1 h2 => ?_, fun o h1 h2 => ?_⟩
    · by_cases h5 : k = 5
      · subst h5; exact x_chain5 (i2 o h2 (by omega))
      · exact x_chain (by omega) (i1 (k + 1) o (by omega) h2 (by omega))
    · exact x_operand h1 (fun h => i3 o h (by omega))
    · exact x_opened h1 (i1 0 (o + 1) (by decide) (by omega) (by omega)) (i2 (o + 1) (by omega) (by omega))
theorem x_expr {t : Nat → Nat} {n : Nat} {p : Nat} {l : List (Nat × Nat)} {u : ZSt} (hb : zXb u t n) (hd : zDc u p l) (hl : l.length ≤ p) (hp : p ≤ n) : ∃ r, zG t false 0 0 p r ∧ zXo u l (f_Reader_readChain 0 0 u) r :=
  (x_all 100).1 0 0 (by decide) (by decide) (by decide) p l u hb hd hl hp
theorem x_line {t : Nat → Nat} {n : Nat} {p : Nat} {l : List (Nat × Nat)} {u : ZSt} (hb : zXb u t n) (hd : zDc u p l) (hl : l.length ≤ p) (hp : p ≤ n) : ∃ r, zLn t p r ∧ zXo u l (f_Reader_readLine u) r := by
  have c10 : ¬ (1 : Int32) = 0 := by decide
  have hn := hb.1
  obtain ⟨r, r1, r2⟩ := x_expr hb hd hl hp
  cases r with
  | inl q =>
    obtain ⟨v, v1, v2, v3⟩ := r2
    refine ⟨.inl q, Or.inl ⟨q, rfl, r1⟩, v, ?_, v2, v3⟩
    simp only [f_Reader_readLine, v1, Option.bind_some, if_true]
  | inr x =>
    obtain ⟨q, c⟩ := x
    obtain ⟨v, v1, v2, v3⟩ := r2
    obtain ⟨a1, a2, a3⟩ := zG_ok hb.2.2.1 r1 hp
    have := a3 rfl
    have hle := hb.le q
    have hx := x_next (hb.fr v3) v2.1 a2
    have b63 : zxc (t q) = 63 ↔ t q = 63 := zxc_eq hle (c := 63) (by decide)
    by_cases h63 : t q = 63
    · have x63 := b63.mpr h63
      have hq : q < n := hb.lt (by omega)
      have fr1 : zfr [903, 1103] [12, 13] [] u (zs v 903 (nI (q + 1))) := v3.s _ (by decide)
      obtain ⟨r', r3, r4⟩ := x_expr (hb.fr fr1) (v2.s (q + 1)) (by rw [List.length_append]; omega) (by omega)
      cases r' with
      | inl q2 =>
        obtain ⟨w, w1, w2, w3⟩ := r4
        refine ⟨.inl q2, Or.inr (Or.inr (Or.inl ⟨q, c, q2, rfl, r1, h63, r3⟩)), w, ?_, w2, fr1.tr w3⟩
        simp only [f_Reader_readLine, v1, Option.bind_some, c10, if_false, hx, x63, if_true, v2.1, nI_1, w1]
      | inr x =>
        obtain ⟨q2, d⟩ := x
        obtain ⟨w, w1, w2, w3⟩ := r4
        obtain ⟨b1, b2, b3⟩ := zG_ok hb.2.2.1 r3 (by omega)
        obtain ⟨y, y1, y2, y3⟩ := x_addD w2 (by simp only [List.length_append]; omega) 63 0
        refine ⟨.inr (q2, c ++ d ++ [(63, 0)]), Or.inr (Or.inr (Or.inr ⟨q, q2, c, d, rfl, r1, h63, r3⟩)), y, ?_, by simpa only [List.append_assoc] using y2, (fr1.tr w3).tr y3⟩
        have y1' : f_Code_addD 63 0 w = some y := y1
        simp only [f_Reader_readLine, v1, Option.bind_some, c10, if_false, hx, x63, if_true, v2.1, nI_1, w1, y1']
    · obtain ⟨y, y1, y2, y3⟩ := x_addD v2 (by simp only [List.length_append]; omega) 59 0
      refine ⟨.inr (q, c ++ [(59, 0)]), Or.inr (Or.inl ⟨q, c, rfl, r1, h63⟩), y, ?_, by simpa only [List.append_assoc] using y2, v3.tr y3⟩
      have y1' : f_Code_addD 59 0 v = some y := y1
      simp only [f_Reader_readLine, v1, Option.bind_some, c10, if_false, hx, mt b63.mp h63, y1']
/-- what is left of the lines -/
theorem x_lines {t : Nat → Nat} {n : Nat} : ∀ (d F p i : Nat) (l : List (Nat × Nat)) (u : ZSt), n - p ≤ d → d + 1 < F → zXb u t n → zDc u p l → l.length ≤ p + 1 → p ≤ n → i ≤ p →
    ∃ a j v, ziter (fun s : Int32 × Int32 × ZSt => b_Reader_read_11 s.1 s.2.1 s.2.2) F (1, nI i, u) = some (a, j, v) ∧ zfr [903, 1103] [12, 13] [] u v ∧
      ((a = 1 ∧ t p ≠ 59 ∧ v = u) ∨ (t p = 59 ∧ ∃ q, zTx t n (p + 1) (.inl q) ∧ v.1 903 = nI q ∧ (a = 0 ∨ a = 1 ∧ q < n)) ∨ (a = 1 ∧ t p = 59 ∧ ∃ c, zTx t n (p + 1) (.inr (n, c)) ∧ zDc v n (l ++ c))) := by
  have g := zTx_r t n
  have c10 : ¬ (1 : Int32) = 0 := by decide
  intro d
  induction d with
  | zero =>
    intro F p i l u hd hF hb hc hl hp hi
    obtain ⟨F, rfl⟩ := Nat.exists_eq_succ_of_ne_zero (show F ≠ 0 by omega)
    have hn := hb.1
    have e : t p = 256 := hb.2.2.1 p (by omega)
    have n59 : t p ≠ 59 := by omega
    refine ⟨1, nI i, u, ?_, zfr_rf u, Or.inl ⟨rfl, n59, rfl⟩⟩
    have hx := x_next hb hc.1 hp
    have b59 : ¬ zxc (t p) = 59 := fun e2 => n59 ((zxc_eq (hb.le p) (c := 59) (by decide)).mp e2)
    by_cases h1 : (120 : Int32) ≤ nI i
    · simp only [ziter, b_Reader_read_11, h1, if_true, Option.bind_some]
    · simp only [ziter, b_Reader_read_11, h1, c10, if_false, hx, Option.bind_some, b59]
  | succ d ih =>
    intro F p i l u hd hF hb hc hl hp hi
    obtain ⟨F, rfl⟩ := Nat.exists_eq_succ_of_ne_zero (show F ≠ 0 by omega)
    have hn := hb.1
    have hx := x_next hb hc.1 hp
    have b59 : zxc (t p) = 59 ↔ t p = 59 := zxc_eq (hb.le p) (c := 59) (by decide)
    by_cases h59 : t p = 59
    · have x59 := b59.mpr h59
      have hpn := hb.lt (show t p ≠ 256 by omega)
      have h1 : ¬ (120 : Int32) ≤ nI i := by rw [show (120 : Int32) = nI 120 from rfl, nI_leI (by decide) (by omega)]; omega
      have fr1 : zfr [903, 1103] [12, 13] [] u (zs u 903 (nI (p + 1))) := (zfr_rf u).s _ (by decide)
      obtain ⟨r, r1, r2⟩ := x_line (hb.fr fr1) (hc.s (p + 1)) hl (by omega)
      have step : ∀ (a : Int32) (v : ZSt), f_Reader_readLine (zs u 903 (nI (p + 1))) = some (a, v) → ziter (fun s : Int32 × Int32 × ZSt => b_Reader_read_11 s.1 s.2.1 s.2.2) (F + 1) (1, nI i, u) = ziter (fun s : Int32 × Int32 × ZSt => b_Reader_read_11 s.1 s.2.1 s.2.2) F (a, nI (i + 1), v) := by
        intro a v hv
        refine ziter_l ?_
        simp only [b_Reader_read_11, h1, c10, if_false, hx, Option.bind_some, x59, if_true, hc.1, nI_1, hv]
      cases r with
      | inl q =>
        obtain ⟨v, v1, v2, v3⟩ := r2
        refine ⟨0, nI (i + 1), v, ?_, fr1.tr v3, Or.inr (Or.inl ⟨h59, q, g.1 (p + 1) q r1, v2, Or.inl rfl⟩)⟩
        rw [step 0 v v1]
        obtain ⟨F, rfl⟩ := Nat.exists_eq_succ_of_ne_zero (show F ≠ 0 by omega)
        simp only [ziter, b_Reader_read_11, if_true, Option.bind_some, ite_self]
      | inr x =>
        obtain ⟨q, c⟩ := x
        obtain ⟨v, v1, v2, v3⟩ := r2
        obtain ⟨a1, a2, a3, a4⟩ := zLn_ok hb.2.2.1 r1 (by omega)
        obtain ⟨a, j, w, w1, w2, w3⟩ := ih F q (i + 1) (l ++ c) v (by omega) (by omega) (hb.fr (fr1.tr v3)) v2 (by rw [List.length_append]; omega) a2 (by omega)
        refine ⟨a, j, w, (step 1 v v1).trans w1, (fr1.tr v3).tr w2, ?_⟩
        rcases w3 with ⟨h1, h2, h3⟩ | ⟨h1, q2, h2, h3, h4⟩ | ⟨h1, h2, c2, h3, h4⟩
        · subst h3
          rcases Nat.lt_or_ge q n with hq | hq
          · exact Or.inr (Or.inl ⟨h59, q, g.2.2.1 (p + 1) q c r1 h2 hq, v2.1, Or.inr ⟨h1, hq⟩⟩)
          · have e : q = n := by omega
            subst e
            exact Or.inr (Or.inr ⟨h1, h59, c, g.2.1 (p + 1) c r1, v2⟩)
        · exact Or.inr (Or.inl ⟨h59, q2, g.2.2.2 (p + 1) q c (.inl q2) r1 h1 h2, h3, h4⟩)
        · exact Or.inr (Or.inr ⟨h1, h59, c ++ c2, g.2.2.2 (p + 1) q c (.inr (n, c2)) r1 h2 h3, by rw [← List.append_assoc]; exact h4⟩)
    · refine ⟨1, nI i, u, ?_, zfr_rf u, Or.inl ⟨rfl, h59, rfl⟩⟩
      by_cases h1 : (120 : Int32) ≤ nI i
      · simp only [ziter, b_Reader_read_11, h1, if_true, Option.bind_some]
      · refine ziter_r ?_
        simp only [b_Reader_read_11, h1, c10, if_false, hx, Option.bind_some, mt b59.mp h59]
/-- read(): -1 and the code, or the fault -/
theorem x_read {t : Nat → Nat} {n : Nat} {u : ZSt} (hb : zXb u t n) :
    (∃ q v, zTx t n 0 (.inl q) ∧ q ≤ n ∧ f_Reader_read u = some (nI q, zs v 902 0) ∧ zfr [903, 1103] [12, 13] [] u v) ∨
    (∃ c v, zTx t n 0 (.inr (n, c)) ∧ c.length ≤ 121 ∧ 0 < c.length ∧ f_Reader_read u = some (-1, zs v 902 0) ∧ zDc v n c ∧ zfr [903, 1103] [12, 13] [] u v) := by
  have g := zTx_r t n
  have c10 : ¬ (1 : Int32) = 0 := by decide
  have hn := hb.1
  have fr0 : zfr [903, 1103] [12, 13] [] u (zs (zs u 903 0) 1103 0) := ((zfr_rf u).s _ (by decide)).s _ (by decide)
  have hd0 : zDc (zs (zs u 903 0) 1103 0) 0 [] := ⟨rfl, rfl, fun i x hx => by simp at hx⟩
  obtain ⟨r, r1, r2⟩ := x_line (hb.fr fr0) hd0 (Nat.zero_le _) (Nat.zero_le _)
  have fin : ∀ (a j : Int32) (v w : ZSt) (x : Int32), f_Reader_readLine (zs (zs u 903 0) 1103 0) = some (x, w) → ziter (fun s : Int32 × Int32 × ZSt => b_Reader_read_11 s.1 s.2.1 s.2.2) zfu (x, 0, w) = some (a, j, v) → f_Reader_read u = a_Reader_read_11 a v := by
    intro a j v w x h1 h2
    simp only [f_Reader_read, f_Code_emptyD, Option.bind_some, h1, h2]
  cases r with
  | inl q =>
    obtain ⟨v, v1, v2, v3⟩ := r2
    have hok := zLn_ok hb.2.2.1 r1 (Nat.zero_le _)
    left
    refine ⟨q, v, g.1 0 q r1, hok.2, ?_, fr0.tr v3⟩
    rw [fin 0 0 v v 0 v1 (by obtain ⟨F, hF⟩ := zfu_2; rw [hF]; exact ziter_r (by simp only [b_Reader_read_11, show ¬ (120 : Int32) ≤ 0 by decide, if_true, if_false]))]
    simp only [a_Reader_read_11, if_true, v2]
  | inr x =>
    obtain ⟨q, c⟩ := x
    obtain ⟨v, v1, v2, v3⟩ := r2
    obtain ⟨a1, a2, a3, a4⟩ := zLn_ok hb.2.2.1 r1 (Nat.zero_le _)
    obtain ⟨a, j, w, w1, w2, w3⟩ := x_lines (n - q) zfu q 0 ([] ++ c) v (Nat.le_refl _) (by rw [zfu_eq]; omega) (hb.fr (fr0.tr v3)) v2 (by rw [List.nil_append]; omega) a2 (Nat.zero_le _)
    rw [List.nil_append] at w3 v2
    have e := fin a j w v 1 v1 w1
    have frw := (fr0.tr v3).tr w2
    have nx : ∀ p, w.1 903 = nI p → p ≤ n → a_Reader_read_11 1 w = if p = n then some (-1, zs w 902 0) else some (nI p, zs w 902 0) := by
      intro p h1 h2
      have hx := x_next (hb.fr frw) h1 h2
      have hm : zxc (t p) = -1 ↔ p = n := by
        rw [zxc_m1 (hb.le p)]
        constructor
        · intro q
          rcases Nat.lt_or_ge p n with q2 | q2
          · have := (hb.2.2.2 p q2).1; omega
          · omega
        · intro q; exact hb.2.2.1 p (by omega)
      simp only [a_Reader_read_11, c10, if_false, hx, Option.bind_some, hm, h1]
    rcases w3 with ⟨h1, h2, h3⟩ | ⟨h1, q2, h2, h3, h4⟩ | ⟨h1, h2, c2, h3, h4⟩
    · subst h3
      subst h1
      rw [nx q v2.1 a2] at e
      rcases Nat.lt_or_ge q n with hq | hq
      · left
        exact ⟨q, w, g.2.2.1 0 q c r1 h2 hq, a2, by rw [e, if_neg (by omega)], frw⟩
      · have e2 : q = n := by omega
        subst e2
        right
        exact ⟨c, w, g.2.1 0 c r1, by omega, a4, by rw [e, if_pos rfl], v2, frw⟩
    · left
      have hT : zTx t n 0 (.inl q2) := g.2.2.2 0 q c (.inl q2) r1 h1 h2
      have hok := zTx_ok hb.2.2.1 hT (Nat.zero_le _)
      refine ⟨q2, w, hT, hok.2, ?_, frw⟩
      rcases h4 with h4 | ⟨h4, h5⟩
      · subst h4
        rw [e]
        simp only [a_Reader_read_11, if_true, h3]
      · subst h4
        rw [e, nx q2 h3 hok.2, if_neg (by omega)]
    · right
      subst h1
      have hT : zTx t n 0 (.inr (n, c ++ c2)) := g.2.2.2 0 q c (.inr (n, c2)) r1 h2 h3
      obtain ⟨b1, b2, b3, b4⟩ := zTx_ok hb.2.2.1 hT (Nat.zero_le _)
      exact ⟨c ++ c2, w, hT, by omega, b4, by rw [e, nx n h4.1 (Nat.le_refl _), if_pos rfl], h4, frw⟩
