/-! voters and their acts -/
def zxb (v : ZSt) (t : Nat) : ZSt := zs (if (v.1 3603).toNatClampNeg < 24 then za v 38 (v.1 3603).toNatClampNeg (nI t) else v) 3603 (v.1 3603 + 1)
def zmb (v : ZSt) (t : Nat) : ZSt := zs (if (v.1 3935).toNatClampNeg < 24 then za v 57 (v.1 3935).toNatClampNeg (nI t) else v) 3935 (v.1 3935 + 1)
theorem zxb_1 (v : ZSt) (t : Nat) (i : Nat) : (zxb v t).1 i = if i = 3603 then v.1 3603 + 1 else v.1 i := by
  unfold zxb; rw [zs1]; split
  · rfl
  · split <;> rfl
theorem zmb_1 (v : ZSt) (t : Nat) (i : Nat) : (zmb v t).1 i = if i = 3935 then v.1 3935 + 1 else v.1 i := by
  unfold zmb; rw [zs1]; split
  · rfl
  · split <;> rfl
theorem x_begin {v : ZSt} {r : Nat} (hr : r < 1000) (h : v.1 3603 = nI r) (t : Nat) : f_Voters_begin (nI t) v = some (zxb v t) := by
  simp only [f_Voters_begin, zxb, h]
  by_cases h2 : r < 24
  · have : ¬ 24 ≤ r := by omega
    simp (disch := omega) [fa_lit, nI_ltI, nI_leI, nI_eq, nI_add, pk_sub, zn_cl, zn_zin, h2, this]
  · have : 24 ≤ r := by omega
    simp (disch := omega) [fa_lit, nI_ltI, nI_leI, nI_eq, nI_add, pk_sub, zn_cl, zn_zin, h2, this]
theorem m_begins {v : ZSt} {r : Nat} (hr : r < 1000) (h : v.1 3935 = nI r) (t : Nat) : f_M_begins (nI t) v = some (zmb v t) := by
  simp only [f_M_begins, zmb, h]
  by_cases h2 : r < 24
  · have : ¬ 24 ≤ r := by omega
    simp (disch := omega) [fa_lit, nI_ltI, nI_leI, nI_eq, nI_add, pk_sub, zn_cl, zn_zin, h2, this]
  · have : 24 ≤ r := by omega
    simp (disch := omega) [fa_lit, nI_ltI, nI_leI, nI_eq, nI_add, pk_sub, zn_cl, zn_zin, h2, this]
def zxs (l : List Nat) (u : ZSt) : ZSt := l.foldl zxb u
def zms (l : List Nat) (u : ZSt) : ZSt := l.foldl zmb u
theorem zxs_app (a b : List Nat) (u : ZSt) : zxs b (zxs a u) = zxs (a ++ b) u := by simp [zxs]
theorem zms_app (a b : List Nat) (u : ZSt) : zms b (zms a u) = zms (a ++ b) u := by simp [zms]
theorem zxs_1 (l : List Nat) : ∀ (u : ZSt) (i : Nat), i ≠ 3603 → (zxs l u).1 i = u.1 i := by
  induction l with
  | nil => intro u i _; rfl
  | cons t l ih => intro u i hi; show (zxs l (zxb u t)).1 i = _; rw [ih _ i hi, zxb_1, if_neg hi]
theorem zms_1 (l : List Nat) : ∀ (u : ZSt) (i : Nat), i ≠ 3935 → (zms l u).1 i = u.1 i := by
  induction l with
  | nil => intro u i _; rfl
  | cons t l ih => intro u i hi; show (zms l (zmb u t)).1 i = _; rw [ih _ i hi, zmb_1, if_neg hi]
theorem zxb_2 (v : ZSt) (t k : Nat) (hk : k ≠ 38) : (zxb v t).2.1 k = v.2.1 k := by
  unfold zxb; rw [zs2]; split
  · rw [za2, if_neg hk]
  · rfl
theorem zmb_2 (v : ZSt) (t k : Nat) (hk : k ≠ 57) : (zmb v t).2.1 k = v.2.1 k := by
  unfold zmb; rw [zs2]; split
  · rw [za2, if_neg hk]
  · rfl
theorem zxs_2 (l : List Nat) : ∀ (u : ZSt) (k : Nat), k ≠ 38 → (zxs l u).2.1 k = u.2.1 k := by
  induction l with
  | nil => intro u k _; rfl
  | cons t l ih => intro u k hk; show (zxs l (zxb u t)).2.1 k = _; rw [ih _ k hk, zxb_2 _ _ _ hk]
theorem zms_2 (l : List Nat) : ∀ (u : ZSt) (k : Nat), k ≠ 57 → (zms l u).2.1 k = u.2.1 k := by
  induction l with
  | nil => intro u k _; rfl
  | cons t l ih => intro u k hk; show (zms l (zmb u t)).2.1 k = _; rw [ih _ k hk, zmb_2 _ _ _ hk]
theorem zxs_3 (l : List Nat) : ∀ (u : ZSt), (zxs l u).2.2 = u.2.2 := by
  induction l with
  | nil => intro u; rfl
  | cons t l ih => intro u; show (zxs l (zxb u t)).2.2 = _; rw [ih]; unfold zxb; rw [zs2]; split <;> rfl
theorem zms_3 (l : List Nat) : ∀ (u : ZSt), (zms l u).2.2 = u.2.2 := by
  induction l with
  | nil => intro u; rfl
  | cons t l ih => intro u; show (zms l (zmb u t)).2.2 = _; rw [ih]; unfold zmb; rw [zs2]; split <;> rfl
theorem zxs_r (l : List Nat) : ∀ (u : ZSt) (r : Nat), u.1 3603 = nI r → (zxs l u).1 3603 = nI (r + l.length) := by
  induction l with
  | nil => intro u r h; exact h
  | cons t l ih =>
    intro u r h
    show (zxs l (zxb u t)).1 3603 = _
    rw [ih (zxb u t) (r + 1) (by rw [zxb_1, if_pos rfl, h]; exact nI_1 r), List.length_cons]
    congr 1; omega
theorem zms_r (l : List Nat) : ∀ (u : ZSt) (r : Nat), u.1 3935 = nI r → (zms l u).1 3935 = nI (r + l.length) := by
  induction l with
  | nil => intro u r h; exact h
  | cons t l ih =>
    intro u r h
    show (zms l (zmb u t)).1 3935 = _
    rw [ih (zmb u t) (r + 1) (by rw [zmb_1, if_pos rfl, h]; exact nI_1 r), List.length_cons]
    congr 1; omega
theorem zxs_t (l : List Nat) : ∀ (u : ZSt) (r : Nat), r + l.length < 1000 → u.1 3603 = nI r → ∀ k, k < 24 → (zxs l u).2.1 38 k = if r ≤ k ∧ k < r + l.length then nI (l.getD (k - r) 0) else u.2.1 38 k := by
  induction l with
  | nil => intro u r _ h k _; rw [if_neg (by simp only [List.length_nil]; omega)]; rfl
  | cons t l ih =>
    intro u r hl h k hk
    simp only [List.length_cons] at hl ⊢
    show (zxs l (zxb u t)).2.1 38 k = _
    rw [ih (zxb u t) (r + 1) (by omega) (by rw [zxb_1, if_pos rfl, h]; exact nI_1 r) k hk]
    by_cases h1 : r + 1 ≤ k ∧ k < r + 1 + l.length
    · rw [if_pos h1, if_pos (by omega), show k - r = (k - (r + 1)) + 1 by omega, List.getD_cons_succ]
    · rw [if_neg h1]
      have e : (zxb u t).2.1 38 k = if k = r then nI t else u.2.1 38 k := by
        unfold zxb
        rw [zs2, h, zn_cl (by omega)]
        by_cases h2 : r < 24
        · rw [if_pos h2, za2, if_pos rfl, upd1]
        · rw [if_neg h2, if_neg (by omega)]
      rw [e]
      by_cases h2 : k = r
      · subst h2
        rw [if_pos rfl, if_pos (by omega), Nat.sub_self]
        rfl
      · rw [if_neg h2, if_neg (by omega)]
theorem zms_t (l : List Nat) : ∀ (u : ZSt) (r : Nat), r + l.length < 1000 → u.1 3935 = nI r → ∀ k, k < 24 → (zms l u).2.1 57 k = if r ≤ k ∧ k < r + l.length then nI (l.getD (k - r) 0) else u.2.1 57 k := by
  induction l with
  | nil => intro u r _ h k _; rw [if_neg (by simp only [List.length_nil]; omega)]; rfl
  | cons t l ih =>
    intro u r hl h k hk
    simp only [List.length_cons] at hl ⊢
    show (zms l (zmb u t)).2.1 57 k = _
    rw [ih (zmb u t) (r + 1) (by omega) (by rw [zmb_1, if_pos rfl, h]; exact nI_1 r) k hk]
    by_cases h1 : r + 1 ≤ k ∧ k < r + 1 + l.length
    · rw [if_pos h1, if_pos (by omega), show k - r = (k - (r + 1)) + 1 by omega, List.getD_cons_succ]
    · rw [if_neg h1]
      have e : (zmb u t).2.1 57 k = if k = r then nI t else u.2.1 57 k := by
        unfold zmb
        rw [zs2, h, zn_cl (by omega)]
        by_cases h2 : r < 24
        · rw [if_pos h2, za2, if_pos rfl, upd1]
        · rw [if_neg h2, if_neg (by omega)]
      rw [e]
      by_cases h2 : k = r
      · subst h2
        rw [if_pos rfl, if_pos (by omega), Nat.sub_self]
        rfl
      · rw [if_neg h2, if_neg (by omega)]
/-! what an act answers, which bodies run -/
def vV (a : Int32) (k : Nat) (x : Int32) : Int32 := if k = 1 ∨ k = 4 ∨ k = 7 then (x + a) + 3 else if k = 6 then (x + a) * 2 else x + a
def tV (k : Nat) : List Nat := if k = 1 ∨ k = 4 ∨ k = 7 then [20, 1] else if k = 6 then [70, 1] else [1]
def vG (a : Int32) (K k : Nat) (x : Int32) : Int32 := if k = 3 ∨ k = 5 then (x ^^^ a) * 3 else if k = 4 ∨ k = 7 then (x ^^^ a) - vV a K 2 else x ^^^ a
def tG (K k : Nat) : List Nat := if k = 3 ∨ k = 5 then [40, 11] else if k = 4 ∨ k = 7 then [50, 11] ++ tV K else [11]
def vO (a : Int32) (K k : Nat) (x : Int32) : Int32 := if k = 3 ∨ k = 5 then -(vV a K (x + 1) * 2) else if k = 2 then -(vV a K x * 2) else if k = 7 then vV a K x * 2 + vG a K K 2 else vV a K x * 2
def tO (K k : Nat) : List Nat := if k = 3 ∨ k = 5 then [41, 30, 10] ++ tV K else if k = 2 then [30, 10] ++ tV K else if k = 7 then [80, 10] ++ tV K ++ tG K K else [10] ++ tV K
def vT (a : Int32) (K k : Nat) (x : Int32) : Int32 := if k = 5 then (vO a K K x - vG a K K 1) ^^^ 5 else if k = 7 then (vO a K K x - vG a K K 1) - 1 else vO a K K x - vG a K K 1
def tT (K k : Nat) : List Nat := if k = 5 then [60, 2] ++ tO K K ++ tG K K else if k = 7 then [81, 2] ++ tO K K ++ tG K K else [2] ++ tO K K ++ tG K K
theorem t_len : ∀ K, K < 8 → (tV K).length ≤ 2 ∧ (tG K K).length ≤ 4 ∧ (tO K K).length ≤ 8 ∧ (tT K K).length ≤ 14 := by decide
/-! the reference -/
def zMK (u : ZSt) (a : Int32) (K r : Nat) : Prop := u.1 3936 = nI K ∧ u.1 3937 = a ∧ u.1 3935 = nI r ∧ r < 900
theorem zMK.b {u : ZSt} {a : Int32} {K r : Nat} (h : zMK u a K r) (hr : r < 800) (l : List Nat) (hl : l.length ≤ 20) : zMK (zms l u) a K (r + l.length) :=
  ⟨by rw [zms_1 _ _ _ (by decide)]; exact h.1, by rw [zms_1 _ _ _ (by decide)]; exact h.2.1, zms_r l u r h.2.2.1, by omega⟩
theorem mr_V (n : Nat) (t : Nat) (a b : Int32) (u : ZSt) : r_M_votesAs (n + 1) t a b u = t_M_votesAs (r_M_votesAs n) a b u := rfl
theorem mr_G (n : Nat) (t : Nat) (a b : Int32) (u : ZSt) : r_M_givesAs (n + 1) t a b u = t_M_givesAs (r_M_givesAs n) a b u := rfl
theorem mr_O (n : Nat) (t : Nat) (a b : Int32) (u : ZSt) : r_M_ownsAs (n + 1) t a b u = t_M_ownsAs (r_M_ownsAs n) a b u := rfl
theorem mr_T (n : Nat) (t : Nat) (a b : Int32) (u : ZSt) : r_M_tellsAs (n + 1) t a b u = t_M_tellsAs (r_M_tellsAs n) a b u := rfl
theorem zms_c (t : Nat) (l : List Nat) (u : ZSt) : zms l (zmb u t) = zms (t :: l) u := rfl
theorem zxs_c (t : Nat) (l : List Nat) (u : ZSt) : zxs l (zxb u t) = zxs (t :: l) u := rfl
theorem m_V {u : ZSt} {a : Int32} {K r : Nat} (h : zMK u a K r) (hr : r < 700) {k : Nat} (hk : k < 8) (x : Int32) : f_M_votesAs (nI k) x u = some (vV a k x, zms (tV k) u) := by
  have base : ∀ (n : Nat) (v : ZSt) (r' : Nat), zMK v a K r' → r' < 800 → r_M_votesAs (n + 1) 0 0 x v = some (x + a, zms [1] v) := by
    intro n v r' hv hr'
    have hb := m_begins (v := v) (r := r') (by omega) hv.2.2.1 1
    rw [mr_V, t_M_votesAs]
    simp (disch := omega) [fa_lit, nI_ltI, nI_leI, nI_eq, nI_add, pk_sub, zn_cl, zn_zin, hb]
    exact ⟨by rw [zmb_1, if_neg (by decide), hv.2.1], rfl⟩
  have hb : ∀ t, zMK (zmb u t) a K (r + 1) := fun t => h.b (by omega) [t] (by simp)
  have b20 := m_begins (v := u) (r := r) (by omega) h.2.2.1 20
  have b70 := m_begins (v := u) (r := r) (by omega) h.2.2.1 70
  have b1 := m_begins (v := u) (r := r) (by omega) h.2.2.1 1
  have r20 := base 98 (zmb u 20) _ (hb 20) (by omega)
  have r70 := base 98 (zmb u 70) _ (hb 70) (by omega)
  rw [fa_lit] at r20 r70
  rw [f_M_votesAs, show (100 : Nat) = 99 + 1 from rfl, mr_V, t_M_votesAs]
  rcases (show k = 0 ∨ k = 1 ∨ k = 2 ∨ k = 3 ∨ k = 4 ∨ k = 5 ∨ k = 6 ∨ k = 7 by omega) with rfl | rfl | rfl | rfl | rfl | rfl | rfl | rfl
  · simp (disch := omega) [fa_lit, nI_ltI, nI_leI, nI_eq, nI_add, pk_sub, zn_cl, zn_zin, b1, vV, tV]; exact ⟨by rw [zmb_1, if_neg (by decide), h.2.1], rfl⟩
  · simp (disch := omega) [fa_lit, nI_ltI, nI_leI, nI_eq, nI_add, pk_sub, zn_cl, zn_zin, b20, r20, vV, tV]; exact rfl
  · simp (disch := omega) [fa_lit, nI_ltI, nI_leI, nI_eq, nI_add, pk_sub, zn_cl, zn_zin, b1, vV, tV]; exact ⟨by rw [zmb_1, if_neg (by decide), h.2.1], rfl⟩
  · simp (disch := omega) [fa_lit, nI_ltI, nI_leI, nI_eq, nI_add, pk_sub, zn_cl, zn_zin, b1, vV, tV]; exact ⟨by rw [zmb_1, if_neg (by decide), h.2.1], rfl⟩
  · simp (disch := omega) [fa_lit, nI_ltI, nI_leI, nI_eq, nI_add, pk_sub, zn_cl, zn_zin, b20, r20, vV, tV]; exact rfl
  · simp (disch := omega) [fa_lit, nI_ltI, nI_leI, nI_eq, nI_add, pk_sub, zn_cl, zn_zin, b1, vV, tV]; exact ⟨by rw [zmb_1, if_neg (by decide), h.2.1], rfl⟩
  · simp (disch := omega) [fa_lit, nI_ltI, nI_leI, nI_eq, nI_add, pk_sub, zn_cl, zn_zin, b70, r70, vV, tV]; exact rfl
  · simp (disch := omega) [fa_lit, nI_ltI, nI_leI, nI_eq, nI_add, pk_sub, zn_cl, zn_zin, b20, r20, vV, tV]; exact rfl
theorem tV_len (k : Nat) : (tV k).length ≤ 2 := by unfold tV; split <;> (try split) <;> simp
theorem tG_len (K k : Nat) : (tG K k).length ≤ 4 := by
  have := tV_len K
  unfold tG; split
  · simp
  · split
    · simp; omega
    · simp
theorem tO_len (K k : Nat) : (tO K k).length ≤ 8 := by
  have := tV_len K
  have := tG_len K K
  unfold tO; split
  · simp; omega
  · split
    · simp; omega
    · split <;> simp <;> omega
theorem m_G {u : ZSt} {a : Int32} {K r : Nat} (hK : K < 8) (h : zMK u a K r) (hr : r < 600) {k : Nat} (hk : k < 8) (x : Int32) : f_M_givesAs (nI k) x u = some (vG a K k x, zms (tG K k) u) := by
  have base : ∀ (n : Nat) (v : ZSt) (r' : Nat), zMK v a K r' → r' < 800 → ∀ q, q = 1 ∨ q = 2 → r_M_givesAs (n + 1) 0 (nI q) x v = some (x ^^^ a, zms [11] v) := by
    intro n v r' hv hr' q hq
    have hb := m_begins (v := v) (r := r') (by omega) hv.2.2.1 11
    rw [mr_G, t_M_givesAs]
    rcases hq with rfl | rfl
    · simp (disch := omega) [fa_lit, nI_ltI, nI_leI, nI_eq, nI_add, pk_sub, zn_cl, zn_zin, hb]
      exact ⟨by rw [zmb_1, if_neg (by decide), hv.2.1], rfl⟩
    · simp (disch := omega) [fa_lit, nI_ltI, nI_leI, nI_eq, nI_add, pk_sub, zn_cl, zn_zin, hb]
      exact ⟨by rw [zmb_1, if_neg (by decide), hv.2.1], rfl⟩
  have hb : ∀ t, zMK (zmb u t) a K (r + 1) := fun t => h.b (by omega) [t] (by simp)
  have b40 := m_begins (v := u) (r := r) (by omega) h.2.2.1 40
  have b50 := m_begins (v := u) (r := r) (by omega) h.2.2.1 50
  have b11 := m_begins (v := u) (r := r) (by omega) h.2.2.1 11
  have r40 := base 98 (zmb u 40) _ (hb 40) (by omega) 2 (Or.inr rfl)
  have r50 := base 98 (zmb u 50) _ (hb 50) (by omega) 1 (Or.inl rfl)
  have s50 : zMK (zms [50, 11] u) a K (r + 2) := h.b (by omega) [50, 11] (by simp)
  have v50 := m_V s50 (by omega) hK 2
  have k50 : (zms [11] (zmb u 50)).1 3936 = nI K := s50.1
  have e50 : zms (tV K) (zms [11] (zmb u 50)) = zms ([50, 11] ++ tV K) u := zms_app [50, 11] (tV K) u
  rw [f_M_givesAs, show (100 : Nat) = 99 + 1 from rfl, mr_G, t_M_givesAs]
  rw [show zms [50, 11] u = zms [11] (zmb u 50) from rfl] at v50
  rw [fa_lit] at v50
  rcases (show k = 0 ∨ k = 1 ∨ k = 2 ∨ k = 3 ∨ k = 4 ∨ k = 5 ∨ k = 6 ∨ k = 7 by omega) with rfl | rfl | rfl | rfl | rfl | rfl | rfl | rfl
  · simp (disch := omega) [fa_lit, nI_ltI, nI_leI, nI_eq, nI_add, pk_sub, zn_cl, zn_zin, b11, vG, tG]; exact ⟨by rw [zmb_1, if_neg (by decide), h.2.1], rfl⟩
  · simp (disch := omega) [fa_lit, nI_ltI, nI_leI, nI_eq, nI_add, pk_sub, zn_cl, zn_zin, b11, vG, tG]; exact ⟨by rw [zmb_1, if_neg (by decide), h.2.1], rfl⟩
  · simp (disch := omega) [fa_lit, nI_ltI, nI_leI, nI_eq, nI_add, pk_sub, zn_cl, zn_zin, b11, vG, tG]; exact ⟨by rw [zmb_1, if_neg (by decide), h.2.1], rfl⟩
  · simp (disch := omega) [fa_lit, nI_ltI, nI_leI, nI_eq, nI_add, pk_sub, zn_cl, zn_zin, b40, r40, vG, tG]; exact rfl
  · simp (disch := omega) [fa_lit, nI_ltI, nI_leI, nI_eq, nI_add, pk_sub, zn_cl, zn_zin, b50, r50, vG, tG, k50, v50, e50]
  · simp (disch := omega) [fa_lit, nI_ltI, nI_leI, nI_eq, nI_add, pk_sub, zn_cl, zn_zin, b40, r40, vG, tG]; exact rfl
  · simp (disch := omega) [fa_lit, nI_ltI, nI_leI, nI_eq, nI_add, pk_sub, zn_cl, zn_zin, b11, vG, tG]; exact ⟨by rw [zmb_1, if_neg (by decide), h.2.1], rfl⟩
  · simp (disch := omega) [fa_lit, nI_ltI, nI_leI, nI_eq, nI_add, pk_sub, zn_cl, zn_zin, b50, r50, vG, tG, k50, v50, e50]
theorem m_O {u : ZSt} {a : Int32} {K r : Nat} (hK : K < 8) (h : zMK u a K r) (hr : r < 500) {k : Nat} (hk : k < 8) (x : Int32) : f_M_ownsAs (nI k) x u = some (vO a K k x, zms (tO K k) u) := by
  have base : ∀ (n : Nat) (v : ZSt) (r' : Nat), zMK v a K r' → r' < 600 → ∀ q, q = 0 ∨ q = 4 ∨ q = 1 ∨ q = 6 → ∀ y, r_M_ownsAs (n + 1) 0 (nI q) y v = some (vV a K y * 2, zms ([10] ++ tV K) v) := by
    intro n v r' hv hr' q hq y
    have hb := m_begins (v := v) (r := r') (by omega) hv.2.2.1 10
    have hv2 : zMK (zmb v 10) a K (r' + 1) := hv.b (by omega) [10] (by simp)
    have hV := m_V hv2 (by omega) hK y
    rw [mr_O, t_M_ownsAs]
    rcases hq with rfl | rfl | rfl | rfl
    · simp (disch := omega) [fa_lit, nI_ltI, nI_leI, nI_eq, nI_add, pk_sub, zn_cl, zn_zin, hb, hv2.1, hV]; exact rfl
    · simp (disch := omega) [fa_lit, nI_ltI, nI_leI, nI_eq, nI_add, pk_sub, zn_cl, zn_zin, hb, hv2.1, hV]; exact rfl
    · simp (disch := omega) [fa_lit, nI_ltI, nI_leI, nI_eq, nI_add, pk_sub, zn_cl, zn_zin, hb, hv2.1, hV]; exact rfl
    · simp (disch := omega) [fa_lit, nI_ltI, nI_leI, nI_eq, nI_add, pk_sub, zn_cl, zn_zin, hb, hv2.1, hV]; exact rfl
  have base2 : ∀ (n : Nat) (v : ZSt) (r' : Nat), zMK v a K r' → r' < 550 → ∀ y, r_M_ownsAs (n + 2) 0 (nI 2) y v = some (-(vV a K y * 2), zms ([30, 10] ++ tV K) v) := by
    intro n v r' hv hr' y
    have hb := m_begins (v := v) (r := r') (by omega) hv.2.2.1 30
    have hv2 : zMK (zmb v 30) a K (r' + 1) := hv.b (by omega) [30] (by simp)
    have hB := base n (zmb v 30) _ hv2 (by omega) 0 (Or.inl rfl) y
    rw [mr_O, t_M_ownsAs]
    simp (disch := omega) [fa_lit, nI_ltI, nI_leI, nI_eq, nI_add, pk_sub, zn_cl, zn_zin, hb, hB]; exact rfl
  have hb : ∀ t, zMK (zmb u t) a K (r + 1) := fun t => h.b (by omega) [t] (by simp)
  have b41 := m_begins (v := u) (r := r) (by omega) h.2.2.1 41
  have b30 := m_begins (v := u) (r := r) (by omega) h.2.2.1 30
  have b80 := m_begins (v := u) (r := r) (by omega) h.2.2.1 80
  have r41 := base2 97 (zmb u 41) _ (hb 41) (by omega) (x + 1)
  have l10 := tV_len K
  have s80 : zMK (zms ([80] ++ ([10] ++ tV K)) u) a K _ := h.b (by omega) ([80] ++ ([10] ++ tV K)) (by simp; omega)
  have r80 := base 98 (zmb u 80) _ (hb 80) (by omega) 4 (Or.inr (Or.inl rfl)) x
  have v80 := m_G hK s80 (by simp; omega) hK 2
  have k80 : (zms ([10] ++ tV K) (zmb u 80)).1 3936 = nI K := s80.1
  have e80 : zms (tG K K) (zms ([10] ++ tV K) (zmb u 80)) = zms ([80, 10] ++ tV K ++ tG K K) u := by
    rw [show zms ([10] ++ tV K) (zmb u 80) = zms ([80, 10] ++ tV K) u from rfl, zms_app]
  rw [show zms ([80] ++ ([10] ++ tV K)) u = zms ([10] ++ tV K) (zmb u 80) from rfl, e80] at v80
  have b10 := fun q hq => base 99 u r h (by omega) q hq x
  have b2 := base2 98 u r h (by omega) x
  rw [fa_lit] at v80 r41 b2
  simp only [zms_c, List.cons_append, List.nil_append, List.append_assoc] at v80 r41 b2 k80 r80 e80
  rcases (show k = 0 ∨ k = 1 ∨ k = 2 ∨ k = 3 ∨ k = 4 ∨ k = 5 ∨ k = 6 ∨ k = 7 by omega) with rfl | rfl | rfl | rfl | rfl | rfl | rfl | rfl
  · exact b10 0 (Or.inl rfl)
  · exact b10 1 (Or.inr (Or.inr (Or.inl rfl)))
  · rw [f_M_ownsAs, b2]
    simp [vO, tO, fa_lit]
  · rw [f_M_ownsAs, show (100 : Nat) = 99 + 1 from rfl, mr_O, t_M_ownsAs]
    simp (disch := omega) [fa_lit, nI_ltI, nI_leI, nI_eq, nI_add, pk_sub, zn_cl, zn_zin, b41, r41, vO, tO, zms_c]
  · exact b10 4 (Or.inr (Or.inl rfl))
  · rw [f_M_ownsAs, show (100 : Nat) = 99 + 1 from rfl, mr_O, t_M_ownsAs]
    simp (disch := omega) [fa_lit, nI_ltI, nI_leI, nI_eq, nI_add, pk_sub, zn_cl, zn_zin, b41, r41, vO, tO, zms_c]
  · exact b10 6 (Or.inr (Or.inr (Or.inr rfl)))
  · rw [f_M_ownsAs, show (100 : Nat) = 99 + 1 from rfl, mr_O, t_M_ownsAs]
    simp (disch := omega) [fa_lit, nI_ltI, nI_leI, nI_eq, nI_add, pk_sub, zn_cl, zn_zin, b80, zms_c, r80, k80, v80, vO, tO]
theorem m_T {u : ZSt} {a : Int32} {K r : Nat} (hK : K < 8) (h : zMK u a K r) (hr : r < 400) (x : Int32) : f_M_tellsAs (nI K) x u = some (vT a K K x, zms (tT K K) u) := by
  have lO := tO_len K K
  have base : ∀ (n : Nat) (v : ZSt) (r' : Nat), zMK v a K r' → r' < 450 → ∀ q, q ≠ 5 → q ≠ 7 → q < 8 → r_M_tellsAs (n + 1) 0 (nI q) x v = some (vO a K K x - vG a K K 1, zms ([2] ++ tO K K ++ tG K K) v) := by
    intro n v r' hv hr' q q5 q7 q8
    have hb := m_begins (v := v) (r := r') (by omega) hv.2.2.1 2
    have hv2 : zMK (zmb v 2) a K (r' + 1) := hv.b (by omega) [2] (by simp)
    have hO := m_O hK hv2 (by omega) hK x
    have hv3 : zMK (zms (tO K K) (zmb v 2)) a K _ := hv2.b (by omega) (tO K K) (by omega)
    have hG := m_G hK hv3 (by omega) hK 1
    have e : zms (tG K K) (zms (tO K K) (zmb v 2)) = zms ([2] ++ tO K K ++ tG K K) v := by
      rw [show zms (tO K K) (zmb v 2) = zms ([2] ++ tO K K) v from rfl, zms_app]
    rw [mr_T, t_M_tellsAs]
    rw [e, fa_lit] at hG
    simp (disch := omega) [fa_lit, nI_ltI, nI_leI, nI_eq, nI_add, pk_sub, zn_cl, zn_zin, q5, q7, hb, hv2.1, hO, hv3.1, hG]
  have hb : ∀ t, zMK (zmb u t) a K (r + 1) := fun t => h.b (by omega) [t] (by simp)
  have b60 := m_begins (v := u) (r := r) (by omega) h.2.2.1 60
  have b81 := m_begins (v := u) (r := r) (by omega) h.2.2.1 81
  have r60 := base 98 (zmb u 60) _ (hb 60) (by omega) 3 (by decide) (by decide) (by decide)
  have r81 := base 98 (zmb u 81) _ (hb 81) (by omega) 4 (by decide) (by decide) (by decide)
  simp only [zms_c, List.cons_append, List.nil_append, List.append_assoc] at r60 r81
  by_cases h5 : K = 5
  · subst h5
    rw [f_M_tellsAs, show (100 : Nat) = 99 + 1 from rfl, mr_T, t_M_tellsAs]
    simp (disch := omega) [fa_lit, nI_ltI, nI_leI, nI_eq, nI_add, pk_sub, zn_cl, zn_zin, b60, r60, vT, tT]
  · by_cases h7 : K = 7
    · subst h7
      rw [f_M_tellsAs, show (100 : Nat) = 99 + 1 from rfl, mr_T, t_M_tellsAs]
      simp (disch := omega) [fa_lit, nI_ltI, nI_leI, nI_eq, nI_add, pk_sub, zn_cl, zn_zin, b81, r81, vT, tT]
    · have := base 99 u r h (by omega) K h5 h7 hK
      rw [f_M_tellsAs, show (100 : Nat) = 99 + 1 from rfl, this, vT, tT, if_neg h5, if_neg h7, if_neg h5, if_neg h7]
