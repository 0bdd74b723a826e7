/-! voters and their acts -/
def zxb (v : ZSt) (t : Nat) : ZSt := zs (if (v.1 3603).toNatClampNeg < 24 then za v 38 (v.1 3603).toNatClampNeg (nI t) else v) 3603 (v.1 3603 + 1)
def zmb (v : ZSt) (t : Nat) : ZSt := zs (if (v.1 3935).toNatClampNeg < 24 then za v 57 (v.1 3935).toNatClampNeg (nI t) else v) 3935 (v.1 3935 + 1)
theorem zxb_1 (v : ZSt) (t : Nat) (i : Nat) : (zxb v t).1 i = if i = 3603 then v.1 3603 + 1 else v.1 i := by
  unfold zxb; rw [zs1]; split
  · rfl
  · split <;> rfl
theorem zmb_1 (v : ZSt) (t : Nat) (i : Nat) : (zmb v t).1 i = if i = 3935 then v.1 3935 + 1 else v.1 i := by
  unfold zmb; rw [zs1]; split
  · rfl
  · split <;> rfl
theorem x_begin {v : ZSt} {r : Nat} (hr : r < 1000) (h : v.1 3603 = nI r) (t : Nat) : f_Voters_begin (nI t) v = some (zxb v t) := by
  simp only [f_Voters_begin, zxb, h]
  by_cases h2 : r < 24
  · have : ¬ 24 ≤ r := by omega
    simp (disch := omega) [fa_lit, nI_ltI, nI_leI, nI_eq, nI_add, pk_sub, zn_cl, zn_zin, h2, this]
  · have : 24 ≤ r := by omega
    simp (disch := omega) [fa_lit, nI_ltI, nI_leI, nI_eq, nI_add, pk_sub, zn_cl, zn_zin, h2, this]
theorem m_begins {v : ZSt} {r : Nat} (hr : r < 1000) (h : v.1 3935 = nI r) (t : Nat) : f_M_begins (nI t) v = some (zmb v t) := by
  simp only [f_M_begins, zmb, h]
  by_cases h2 : r < 24
  · have : ¬ 24 ≤ r := by omega
    simp (disch := omega) [fa_lit, nI_ltI, nI_leI, nI_eq, nI_add, pk_sub, zn_cl, zn_zin, h2, this]
  · have : 24 ≤ r := by omega
    simp (disch := omega) [fa_lit, nI_ltI, nI_leI, nI_eq, nI_add, pk_sub, zn_cl, zn_zin, h2, this]
def zxs (l : List Nat) (u : ZSt) : ZSt := l.foldl zxb u
def zms (l : List Nat) (u : ZSt) : ZSt := l.foldl zmb u
theorem zxs_app (a b : List Nat) (u : ZSt) : zxs b (zxs a u) = zxs (a ++ b) u := by simp [zxs]
theorem zms_app (a b : List Nat) (u : ZSt) : zms b (zms a u) = zms (a ++ b) u := by simp [zms]
theorem zxs_1 (l : List Nat) : ∀ (u : ZSt) (i : Nat), i ≠ 3603 → (zxs l u).1 i = u.1 i := by
  induction l with
  | nil => intro u i _; rfl
  | cons t l ih => intro u i hi; show (zxs l (zxb u t)).1 i = _; rw [ih _ i hi, zxb_1, if_neg hi]
theorem zms_1 (l : List Nat) : ∀ (u : ZSt) (i : Nat), i ≠ 3935 → (zms l u).1 i = u.1 i := by
  induction l with
  | nil => intro u i _; rfl
  | cons t l ih => intro u i hi; show (zms l (zmb u t)).1 i = _; rw [ih _ i hi, zmb_1, if_neg hi]
theorem zxb_2 (v : ZSt) (t k : Nat) (hk : k ≠ 38) : (zxb v t).2.1 k = v.2.1 k := by
  unfold zxb; rw [zs2]; split
  · rw [za2, if_neg hk]
  · rfl
theorem zmb_2 (v : ZSt) (t k : Nat) (hk : k ≠ 57) : (zmb v t).2.1 k = v.2.1 k := by
  unfold zmb; rw [zs2]; split
  · rw [za2, if_neg hk]
  · rfl
theorem zxs_2 (l : List Nat) : ∀ (u : ZSt) (k : Nat), k ≠ 38 → (zxs l u).2.1 k = u.2.1 k := by
  induction l with
  | nil => intro u k _; rfl
  | cons t l ih => intro u k hk; show (zxs l (zxb u t)).2.1 k = _; rw [ih _ k hk, zxb_2 _ _ _ hk]
theorem zms_2 (l : List Nat) : ∀ (u : ZSt) (k : Nat), k ≠ 57 → (zms l u).2.1 k = u.2.1 k := by
  induction l with
  | nil => intro u k _; rfl
  | cons t l ih => intro u k hk; show (zms l (zmb u t)).2.1 k = _; rw [ih _ k hk, zmb_2 _ _ _ hk]
theorem zxs_3 (l : List Nat) : ∀ (u : ZSt), (zxs l u).2.2 = u.2.2 := by
  induction l with
  | nil => intro u; rfl
  | cons t l ih => intro u; show (zxs l (zxb u t)).2.2 = _; rw [ih]; unfold zxb; rw [zs2]; split <;> rfl
theorem zms_3 (l : List Nat) : ∀ (u : ZSt), (zms l u).2.2 = u.2.2 := by
  induction l with
  | nil => intro u; rfl
  | cons t l ih => intro u; show (zms l (zmb u t)).2.2 = _; rw [ih]; unfold zmb; rw [zs2]; split <;> rfl
theorem zxs_r (l : List Nat) : ∀ (u : ZSt) (r : Nat), u.1 3603 = nI r → (zxs l u).1 3603 = nI (r + l.length) := by
  induction l with
  | nil => intro u r h; exact h
  | cons t l ih =>
    intro u r h
    show (zxs l (zxb u t)).1 3603 = _
    rw [ih (zxb u t) (r + 1) (by rw [zxb_1, if_pos rfl, h]; exact nI_1 r), List.length_cons]
    congr 1; omega
theorem zms_r (l : List Nat) : ∀ (u : ZSt) (r : Nat), u.1 3935 = nI r → (zms l u).1 3935 = nI (r + l.length) := by
  induction l with
  | nil => intro u r h; exact h
  | cons t l ih =>
    intro u r h
    show (zms l (zmb u t)).1 3935 = _
    rw [ih (zmb u t) (r + 1) (by rw [zmb_1, if_pos rfl, h]; exact nI_1 r), List.length_cons]
    congr 1; omega
theorem zxs_t (l : List Nat) : ∀ (u : ZSt) (r : Nat), r + l.length < 1000 → u.1 3603 = nI r → ∀ k, k < 24 → (zxs l u).2.1 38 k = if r ≤ k ∧ k < r + l.length then nI (l.getD (k - r) 0) else u.2.1 38 k := by
  induction l with
  | nil => intro u r _ h k _; rw [if_neg (by simp only [List.length_nil]; omega)]; rfl
  | cons t l ih =>
    intro u r hl h k hk
    simp only [List.length_cons] at hl ⊢
    show (zxs l (zxb u t)).2.1 38 k = _
    rw [ih (zxb u t) (r + 1) (by omega) (by rw [zxb_1, if_pos rfl, h]; exact nI_1 r) k hk]
    by_cases h1 : r + 1 ≤ k ∧ k < r + 1 + l.length
    · rw [if_pos h1, if_pos (by omega), show k - r = (k - (r + 1)) + 1 by omega, List.getD_cons_succ]
    · rw [if_neg h1]
      have e : (zxb u t).2.1 38 k = if k = r then nI t else u.2.1 38 k := by
        unfold zxb
        rw [zs2, h, zn_cl (by omega)]
        by_cases h2 : r < 24
        · rw [if_pos h2, za2, if_pos rfl, upd1]
        · rw [if_neg h2, if_neg (by omega)]
      rw [e]
      by_cases h2 : k = r
      · subst h2
        rw [if_pos rfl, if_pos (by omega), Nat.sub_self]
        rfl
      · rw [if_neg h2, if_neg (by omega)]
theorem zms_t (l : List Nat) : ∀ (u : ZSt) (r : Nat), r + l.length < 1000 → u.1 3935 = nI r → ∀ k, k < 24 → (zms l u).2.1 57 k = if r ≤ k ∧ k < r + l.length then nI (l.getD (k - r) 0) else u.2.1 57 k := by
  induction l with
  | nil => intro u r _ h k _; rw [if_neg (by simp only [List.length_nil]; omega)]; rfl
  | cons t l ih =>
    intro u r hl h k hk
    simp only [List.length_cons] at hl ⊢
    show (zms l (zmb u t)).2.1 57 k = _
    rw [ih (zmb u t) (r + 1) (by omega) (by rw [zmb_1, if_pos rfl, h]; exact nI_1 r) k hk]
    by_cases h1 : r + 1 ≤ k ∧ k < r + 1 + l.length
    · rw [if_pos h1, if_pos (by omega), show k - r = (k - (r + 1)) + 1 by omega, List.getD_cons_succ]
    · rw [if_neg h1]
      have e : (zmb u t).2.1 57 k = if k = r then nI t else u.2.1 57 k := by
        unfold zmb
        rw [zs2, h, zn_cl (by omega)]
        by_cases h2 : r < 24
        · rw [if_pos h2, za2, if_pos rfl, upd1]
        · rw [if_neg h2, if_neg (by omega)]
      rw [e]
      by_cases h2 : k = r
      · subst h2
        rw [if_pos rfl, if_pos (by omega), Nat.sub_self]
        rfl
      · rw [if_neg h2, if_neg (by omega)]
/-! what an act answers, which bodies run -/
def vV (a : Int32) (k : Nat) (x : Int32) : Int32 := if k = 1 ∨ k = 4 ∨ k = 7 then (x + a) + 3 else if k = 6 then (x + a) * 2 else x + a
def tV (k : Nat) : List Nat := if k = 1 ∨ k = 4 ∨ k = 7 then [20, 1] else if k = 6 then [70, 1] else [1]
def vG (a : Int32) (K k : Nat) (x : Int32) : Int32 := if k = 3 ∨ k = 5 then (x ^^^ a) * 3 else if k = 4 ∨ k = 7 then (x ^^^ a) - vV a K 2 else x ^^^ a
def tG (K k : Nat) : List Nat := if k = 3 ∨ k = 5 then [40, 11] else if k = 4 ∨ k = 7 then [50, 11] ++ tV K else [11]
def vO (a : Int32) (K k : Nat) (x : Int32) : Int32 := if k = 3 ∨ k = 5 then -(vV a K (x + 1) * 2) else if k = 2 then -(vV a K x * 2) else if k = 7 then vV a K x * 2 + vG a K K 2 else vV a K x * 2
def tO (K k : Nat) : List Nat := if k = 3 ∨ k = 5 then [41, 30, 10] ++ tV K else if k = 2 then [30, 10] ++ tV K else if k = 7 then [80, 10] ++ tV K ++ tG K K else [10] ++ tV K
def vT (a : Int32) (K k : Nat) (x : Int32) : Int32 := if k = 5 then (vO a K K x - vG a K K 1) ^^^ 5 else if k = 7 then (vO a K K x - vG a K K 1) - 1 else vO a K K x - vG a K K 1
def tT (K k : Nat) : List Nat := if k = 5 then [60, 2] ++ tO K K ++ tG K K else if k = 7 then [81, 2] ++ tO K K ++ tG K K else [2] ++ tO K K ++ tG K K
theorem t_len : ∀ K, K < 8 → (tV K).length ≤ 2 ∧ (tG K K).length ≤ 4 ∧ (tO K K).length ≤ 8 ∧ (tT K K).length ≤ 14 := by decide
/-! the reference -/
def zMK (u : ZSt) (a : Int32) (K r : Nat) : Prop := u.1 3936 = nI K ∧ u.1 3937 = a ∧ u.1 3935 = nI r ∧ r < 900
theorem zMK.b {u : ZSt} {a : Int32} {K r : Nat} (h : zMK u a K r) (hr : r < 800) (l : List Nat) (hl : l.length ≤ 20) : zMK (zms l u) a K (r + l.length) :=
  ⟨by rw [zms_1 _ _ _ (by decide)]; exact h.1, by rw [zms_1 _ _ _ (by decide)]; exact h.2.1, zms_r l u r h.2.2.1, by omega⟩
theorem mr_V (n : Nat) (t : Nat) (a b : Int32) (u : ZSt) : r_M_votesAs (n + 1) t a b u = t_M_votesAs (r_M_votesAs n) a b u := rfl
theorem mr_G (n : Nat) (t : Nat) (a b : Int32) (u : ZSt) : r_M_givesAs (n + 1) t a b u = t_M_givesAs (r_M_givesAs n) a b u := rfl
theorem mr_O (n : Nat) (t : Nat) (a b : Int32) (u : ZSt) : r_M_ownsAs (n + 1) t a b u = t_M_ownsAs (r_M_ownsAs n) a b u := rfl
theorem mr_T (n : Nat) (t : Nat) (a b : Int32) (u : ZSt) : r_M_tellsAs (n + 1) t a b u = t_M_tellsAs (r_M_tellsAs n) a b u := rfl
theorem zms_c (t : Nat) (l : List Nat) (u : ZSt) : zms l (zmb u t) = zms (t :: l) u := rfl
theorem zxs_c (t : Nat) (l : List Nat) (u : ZSt) : zxs l (zxb u t) = zxs (t :: l) u := rfl
theorem m_V {u : ZSt} {a : Int32} {K r : Nat} (h : zMK u a K r) (hr : r < 700) {k : Nat} (hk : k < 8) (x : Int32) : f_M_votesAs (nI k) x u = some (vV a k x, zms (tV k) u) := by
  have base : ∀ (n : Nat) (v : ZSt) (r' : Nat), zMK v a K r' → r' < 800 → r_M_votesAs (n + 1) 0 0 x v = some (x + a, zms [1] v) := by
    intro n v r' hv hr'
    have hb := m_begins (v := v) (r := r') (by omega) hv.2.2.1 1
    rw [mr_V, t_M_votesAs]
    simp (disch := omega) [fa_lit, nI_ltI, nI_leI, nI_eq, nI_add, pk_sub, zn_cl, zn_zin, hb]
    exact ⟨by rw [zmb_1, if_neg (by decide), hv.2.1], rfl⟩
  have hb : ∀ t, zMK (zmb u t) a K (r + 1) := fun t => h.b (by omega) [t] (by simp)
  have b20 := m_begins (v := u) (r := r) (by omega) h.2.2.1 20
  have b70 := m_begins (v := u) (r := r) (by omega) h.2.2.1 70
  have b1 := m_begins (v := u) (r := r) (by omega) h.2.2.1 1
  have r20 := base 98 (zmb u 20) _ (hb 20) (by omega)
  have r70 := base 98 (zmb u 70) _ (hb 70) (by omega)
  rw [fa_lit] at r20 r70
  rw [f_M_votesAs, show (100 : Nat) = 99 + 1 from rfl, mr_V, t_M_votesAs]
  rcases (show k = 0 ∨ k = 1 ∨ k = 2 ∨ k = 3 ∨ k = 4 ∨ k = 5 ∨ k = 6 ∨ k = 7 by omega) with rfl | rfl | rfl | rfl | rfl | rfl | rfl | rfl
  · simp (disch := omega) [fa_lit, nI_ltI, nI_leI, nI_eq, nI_add, pk_sub, zn_cl, zn_zin, b1, vV, tV]; exact ⟨by rw [zmb_1, if_neg (by decide), h.2.1], rfl⟩
  · simp (disch := omega) [fa_lit, nI_ltI, nI_leI, nI_eq, nI_add, pk_sub, zn_cl, zn_zin, b20, r20, vV, tV]; exact rfl
  · simp (disch := omega) [fa_lit, nI_ltI, nI_leI, nI_eq, nI_add, pk_sub, zn_cl, zn_zin, b1, vV, tV]; exact ⟨by rw [zmb_1, if_neg (by decide), h.2.1], rfl⟩
  · simp (disch := omega) [fa_lit, nI_ltI, nI_leI, nI_eq, nI_add, pk_sub, zn_cl, zn_zin, b1, vV, tV]; exact ⟨by rw [zmb_1, if_neg (by decide), h.2.1], rfl⟩
  · simp (disch := omega) [fa_lit, nI_ltI, nI_leI, nI_eq, nI_add, pk_sub, zn_cl, zn_zin, b20, r20, vV, tV]; exact rfl
  · simp (disch := omega) [fa_lit, nI_ltI, nI_leI, nI_eq, nI_add, pk_sub, zn_cl, zn_zin, b1, vV, tV]; exact ⟨by rw [zmb_1, if_neg (by decide), h.2.1], rfl⟩
  · simp (disch := omega) [fa_lit, nI_ltI, nI_leI, nI_eq, nI_add, pk_sub, zn_cl, zn_zin, b70, r70, vV, tV]; exact rfl
  · simp (disch := omega) [fa_lit, nI_ltI, nI_leI, nI_eq, nI_add, pk_sub, zn_cl, zn_zin, b20, r20, vV, tV]; exact rfl
theorem tV_len (k : Nat) : (tV k).length ≤ 2 := by unfold tV; split <;> (try split) <;> simp
theorem tG_len (K k : Nat) : (tG K k).length ≤ 4 := by
  have := tV_len K
  unfold tG; split
  · simp
  · split
    · simp; omega
    · simp
theorem tO_len (K k : Nat) : (tO K k).length ≤ 8 := by
  have := tV_len K
  have := tG_len K K
  unfold tO; split
  · simp; omega
  · split
    · simp; omega
    · split <;> simp <;> omega
theorem m_G {u : ZSt} {a : Int32} {K r : Nat} (hK : K < 8) (h : zMK u a K r) (hr : r < 600) {k : Nat} (hk : k < 8) (x : Int32) : f_M_givesAs (nI k) x u = some (vG a K k x, zms (tG K k) u) := by
  have base : ∀ (n : Nat) (v : ZSt) (r' : Nat), zMK v a K r' → r' < 800 → ∀ q, q = 1 ∨ q = 2 → r_M_givesAs (n + 1) 0 (nI q) x v = some (x ^^^ a, zms [11] v) := by
    intro n v r' hv hr' q hq
    have hb := m_begins (v := v) (r := r') (by omega) hv.2.2.1 11
    rw [mr_G, t_M_givesAs]
    rcases hq with rfl | rfl
    · simp (disch := omega) [fa_lit, nI_ltI, nI_leI, nI_eq, nI_add, pk_sub, zn_cl, zn_zin, hb]
      exact ⟨by rw [zmb_1, if_neg (by decide), hv.2.1], rfl⟩
    · simp (disch := omega) [fa_lit, nI_ltI, nI_leI, nI_eq, nI_add, pk_sub, zn_cl, zn_zin, hb]
      exact ⟨by rw [zmb_1, if_neg (by decide), hv.2.1], rfl⟩
  have hb : ∀ t, zMK (zmb u t) a K (r + 1) := fun t => h.b (by omega) [t] (by simp)
  have b40 := m_begins (v := u) (r := r) (by omega) h.2.2.1 40
  have b50 := m_begins (v := u) (r := r) (by omega) h.2.2.1 50
  have b11 := m_begins (v := u) (r := r) (by omega) h.2.2.1 11
  have r40 := base 98 (zmb u 40) _ (hb 40) (by omega) 2 (Or.inr rfl)
  have r50 := base 98 (zmb u 50) _ (hb 50) (by omega) 1 (Or.inl rfl)
  have s50 : zMK (zms [50, 11] u) a K (r + 2) := h.b (by omega) [50, 11] (by simp)
  have v50 := m_V s50 (by omega) hK 2
  have k50 : (zms [11] (zmb u 50)).1 3936 = nI K := s50.1
  have e50 : zms (tV K) (zms [11] (zmb u 50)) = zms ([50, 11] ++ tV K) u := zms_app [50, 11] (tV K) u
  rw [f_M_givesAs, show (100 : Nat) = 99 + 1 from rfl, mr_G, t_M_givesAs]
  rw [show zms [50, 11] u = zms [11] (zmb u 50) from rfl] at v50
  rw [fa_lit] at v50
  rcases (show k = 0 ∨ k = 1 ∨ k = 2 ∨ k = 3 ∨ k = 4 ∨ k = 5 ∨ k = 6 ∨ k = 7 by omega) with rfl | rfl | rfl | rfl | rfl | rfl | rfl | rfl
  · simp (disch := omega) [fa_lit, nI_ltI, nI_leI, nI_eq, nI_add, pk_sub, zn_cl, zn_zin, b11, vG, tG]; exact ⟨by rw [zmb_1, if_neg (by decide), h.2.1], rfl⟩
  · simp (disch := omega) [fa_lit, nI_ltI, nI_leI, nI_eq, nI_add, pk_sub, zn_cl, zn_zin, b11, vG, tG]; exact ⟨by rw [zmb_1, if_neg (by decide), h.2.1], rfl⟩
  · simp (disch := omega) [fa_lit, nI_ltI, nI_leI, nI_eq, nI_add, pk_sub, zn_cl, zn_zin, b11, vG, tG]; exact ⟨by rw [zmb_1, if_neg (by decide), h.2.1], rfl⟩
  · simp (disch := omega) [fa_lit, nI_ltI, nI_leI, nI_eq, nI_add, pk_sub, zn_cl, zn_zin, b40, r40, vG, tG]; exact rfl
  · simp (disch := omega) [fa_lit, nI_ltI, nI_leI, nI_eq, nI_add, pk_sub, zn_cl, zn_zin, b50, r50, vG, tG, k50, v50, e50]
  · simp (disch := omega) [fa_lit, nI_ltI, nI_leI, nI_eq, nI_add, pk_sub, zn_cl, zn_zin, b40, r40, vG, tG]; exact rfl
  · simp (disch := omega) [fa_lit, nI_ltI, nI_leI, nI_eq, nI_add, pk_sub, zn_cl, zn_zin, b11, vG, tG]; exact ⟨by rw [zmb_1, if_neg (by decide), h.2.1], rfl⟩
  · simp (disch := omega) [fa_lit, nI_ltI, nI_leI, nI_eq, nI_add, pk_sub, zn_cl, zn_zin, b50, r50, vG, tG, k50, v50, e50]
theorem m_O {u : ZSt} {a : Int32} {K r : Nat} (hK : K < 8) (h : zMK u a K r) (hr : r < 500) {k : Nat} (hk : k < 8) (x : Int32) : f_M_ownsAs (nI k) x u = some (vO a K k x, zms (tO K k) u) := by
  have base : ∀ (n : Nat) (v : ZSt) (r' : Nat), zMK v a K r' → r' < 600 → ∀ q, q = 0 ∨ q = 4 ∨ q = 1 ∨ q = 6 → ∀ y, r_M_ownsAs (n + 1) 0 (nI q) y v = some (vV a K y * 2, zms ([10] ++ tV K) v) := by
    intro n v r' hv hr' q hq y
    have hb := m_begins (v := v) (r := r') (by omega) hv.2.2.1 10
    have hv2 : zMK (zmb v 10) a K (r' + 1) := hv.b (by omega) [10] (by simp)
    have hV := m_V hv2 (by omega) hK y
    rw [mr_O, t_M_ownsAs]
    rcases hq with rfl | rfl | rfl | rfl
    · simp (disch := omega) [fa_lit, nI_ltI, nI_leI, nI_eq, nI_add, pk_sub, zn_cl, zn_zin, hb, hv2.1, hV]; exact rfl
    · simp (disch := omega) [fa_lit, nI_ltI, nI_leI, nI_eq, nI_add, pk_sub, zn_cl, zn_zin, hb, hv2.1, hV]; exact rfl
    · simp (disch := omega) [fa_lit, nI_ltI, nI_leI, nI_eq, nI_add, pk_sub, zn_cl, zn_zin, hb, hv2.1, hV]; exact rfl
    · simp (disch := omega) [fa_lit, nI_ltI, nI_leI, nI_eq, nI_add, pk_sub, zn_cl, zn_zin, hb, hv2.1, hV]; exact rfl
  have base2 : ∀ (n : Nat) (v : ZSt) (r' : Nat), zMK v a K r' → r' < 550 → ∀ y, r_M_ownsAs (n + 2) 0 (nI 2) y v = some (-(vV a K y * 2), zms ([30, 10] ++ tV K) v) := by
    intro n v r' hv hr' y
    have hb := m_begins (v := v) (r := r') (by omega) hv.2.2.1 30
    have hv2 : zMK (zmb v 30) a K (r' + 1) := hv.b (by omega) [30] (by simp)
    have hB := base n (zmb v 30) _ hv2 (by omega) 0 (Or.inl rfl) y
    rw [mr_O, t_M_ownsAs]
    simp (disch := omega) [fa_lit, nI_ltI, nI_leI, nI_eq, nI_add, pk_sub, zn_cl, zn_zin, hb, hB]; exact rfl
  have hb : ∀ t, zMK (zmb u t) a K (r + 1) := fun t => h.b (by omega) [t] (by simp)
  have b41 := m_begins (v := u) (r := r) (by omega) h.2.2.1 41
  have b30 := m_begins (v := u) (r := r) (by omega) h.2.2.1 30
  have b80 := m_begins (v := u) (r := r) (by omega) h.2.2.1 80
  have r41 := base2 97 (zmb u 41) _ (hb 41) (by omega) (x + 1)
  have l10 := tV_len K
  have s80 : zMK (zms ([80] ++ ([10] ++ tV K)) u) a K _ := h.b (by omega) ([80] ++ ([10] ++ tV K)) (by simp; omega)
  have r80 := base 98 (zmb u 80) _ (hb 80) (by omega) 4 (Or.inr (Or.inl rfl)) x
  have v80 := m_G hK s80 (by simp; omega) hK 2
  have k80 : (zms ([10] ++ tV K) (zmb u 80)).1 3936 = nI K := s80.1
  have e80 : zms (tG K K) (zms ([10] ++ tV K) (zmb u 80)) = zms ([80, 10] ++ tV K ++ tG K K) u := by
    rw [show zms ([10] ++ tV K) (zmb u 80) = zms ([80, 10] ++ tV K) u from rfl, zms_app]
  rw [show zms ([80] ++ ([10] ++ tV K)) u = zms ([10] ++ tV K) (zmb u 80) from rfl, e80] at v80
  have b10 := fun q hq => base 99 u r h (by omega) q hq x
  have b2 := base2 98 u r h (by omega) x
  rw [fa_lit] at v80 r41 b2
  simp only [zms_c, List.cons_append, List.nil_append, List.append_assoc] at v80 r41 b2 k80 r80 e80
  rcases (show k = 0 ∨ k = 1 ∨ k = 2 ∨ k = 3 ∨ k = 4 ∨ k = 5 ∨ k = 6 ∨ k = 7 by omega) with rfl | rfl | rfl | rfl | rfl | rfl | rfl | rfl
  · exact b10 0 (Or.inl rfl)
  · exact b10 1 (Or.inr (Or.inr (Or.inl rfl)))
  · rw [f_M_ownsAs, b2]
    simp [vO, tO, fa_lit]
  · rw [f_M_ownsAs, show (100 : Nat) = 99 + 1 from rfl, mr_O, t_M_ownsAs]
    simp (disch := omega) [fa_lit, nI_ltI, nI_leI, nI_eq, nI_add, pk_sub, zn_cl, zn_zin, b41, r41, vO, tO, zms_c]
  · exact b10 4 (Or.inr (Or.inl rfl))
  · rw [f_M_ownsAs, show (100 : Nat) = 99 + 1 from rfl, mr_O, t_M_ownsAs]
    simp (disch := omega) [fa_lit, nI_ltI, nI_leI, nI_eq, nI_add, pk_sub, zn_cl, zn_zin, b41, r41, vO, tO, zms_c]
  · exact b10 6 (Or.inr (Or.inr (Or.inr rfl)))
  · rw [f_M_ownsAs, show (100 : Nat) = 99 + 1 from rfl, mr_O, t_M_ownsAs]
    simp (disch := omega) [fa_lit, nI_ltI, nI_leI, nI_eq, nI_add, pk_sub, zn_cl, zn_zin, b80, zms_c, r80, k80, v80, vO, tO]
theorem m_T {u : ZSt} {a : Int32} {K r : Nat} (hK : K < 8) (h : zMK u a K r) (hr : r < 400) (x : Int32) : f_M_tellsAs (nI K) x u = some (vT a K K x, zms (tT K K) u) := by
  have lO := tO_len K K
  have base : ∀ (n : Nat) (v : ZSt) (r' : Nat), zMK v a K r' → r' < 450 → ∀ q, q ≠ 5 → q ≠ 7 → q < 8 → r_M_tellsAs (n + 1) 0 (nI q) x v = some (vO a K K x - vG a K K 1, zms ([2] ++ tO K K ++ tG K K) v) := by
    intro n v r' hv hr' q q5 q7 q8
    have hb := m_begins (v := v) (r := r') (by omega) hv.2.2.1 2
    have hv2 : zMK (zmb v 2) a K (r' + 1) := hv.b (by omega) [2] (by simp)
    have hO := m_O hK hv2 (by omega) hK x
    have hv3 : zMK (zms (tO K K) (zmb v 2)) a K _ := hv2.b (by omega) (tO K K) (by omega)
    have hG := m_G hK hv3 (by omega) hK 1
    have e : zms (tG K K) (zms (tO K K) (zmb v 2)) = zms ([2] ++ tO K K ++ tG K K) v := by
      rw [show zms (tO K K) (zmb v 2) = zms ([2] ++ tO K K) v from rfl, zms_app]
    rw [mr_T, t_M_tellsAs]
    rw [e, fa_lit] at hG
    simp (disch := omega) [fa_lit, nI_ltI, nI_leI, nI_eq, nI_add, pk_sub, zn_cl, zn_zin, q5, q7, hb, hv2.1, hO, hv3.1, hG]
  have hb : ∀ t, zMK (zmb u t) a K (r + 1) := fun t => h.b (by omega) [t] (by simp)
  have b60 := m_begins (v := u) (r := r) (by omega) h.2.2.1 60
  have b81 := m_begins (v := u) (r := r) (by omega) h.2.2.1 81
  have r60 := base 98 (zmb u 60) _ (hb 60) (by omega) 3 (by decide) (by decide) (by decide)
  have r81 := base 98 (zmb u 81) _ (hb 81) (by omega) 4 (by decide) (by decide) (by decide)
  simp only [zms_c, List.cons_append, List.nil_append, List.append_assoc] at r60 r81
  by_cases h5 : K = 5
  · subst h5
    rw [f_M_tellsAs, show (100 : Nat) = 99 + 1 from rfl, mr_T, t_M_tellsAs]
    simp (disch := omega) [fa_lit, nI_ltI, nI_leI, nI_eq, nI_add, pk_sub, zn_cl, zn_zin, b60, r60, vT, tT]
  · by_cases h7 : K = 7
    · subst h7
      rw [f_M_tellsAs, show (100 : Nat) = 99 + 1 from rfl, mr_T, t_M_tellsAs]
      simp (disch := omega) [fa_lit, nI_ltI, nI_leI, nI_eq, nI_add, pk_sub, zn_cl, zn_zin, b81, r81, vT, tT]
    · have := base 99 u r h (by omega) K h5 h7 hK
      rw [f_M_tellsAs, show (100 : Nat) = 99 + 1 from rfl, this, vT, tT, if_neg h5, if_neg h7, if_neg h5, if_neg h7]
/-! the class -/
def zXK (u : ZSt) (v K B r : Nat) : Prop := u.1 3602 = nI B ∧ v < B ∧ B ≤ 50 ∧ u.2.1 37 v = nI K ∧ u.1 3603 = nI r ∧ r < 900
theorem zXK.b {u : ZSt} {v K B r : Nat} (h : zXK u v K B r) (hr : r < 800) (l : List Nat) (hl : l.length ≤ 20) : zXK (zxs l u) v K B (r + l.length) :=
  ⟨by rw [zxs_1 _ _ _ (by decide)]; exact h.1, h.2.1, h.2.2.1, by rw [zxs_2 _ _ _ (by decide)]; exact h.2.2.2.1, zxs_r l u r h.2.2.2.2.1, by omega⟩
def vfd (t k : Nat) : Nat := (([[0, 1, 0, 0, 1, 0, 6, 1], [0, 0, 2, 3, 0, 3, 0, 7], [0, 0, 0, 3, 4, 3, 0, 4], [0, 0, 0, 0, 0, 5, 0, 7]] : List (List Nat)).getD t []).getD k 0
def vbd (t k : Nat) : Nat := (([[1, 20, 1, 1, 20, 1, 70, 20], [10, 10, 30, 41, 10, 41, 10, 80], [11, 11, 11, 40, 50, 40, 11, 50], [2, 2, 2, 2, 2, 60, 2, 81]] : List (List Nat)).getD t []).getD k 0
theorem x_find0 : ∀ t, t < 4 → ∀ k, k < 8 → (ziter (fun s => b_Voters_runFrom_4 (fun _ _ _ _ _ _ _ => none) 0 (nI t) 0 0 s.1 s.2 (fun _ => 0, fun _ _ => 0, fun _ _ => 0)) 1048576 (nI k, 0)).map (fun s => s.1) = some (nI (vfd t k)) := by decide +kernel
theorem x_find1 : ∀ t, t < 4 → ∀ k, k < 8 → f_Voters_bodyAt (nI (vfd t k)) (nI t) = some (nI (vbd t k)) ∧ f_Voters_aboveOf (nI (vfd t k)) = some (zABV (vfd t k)) ∧ ¬ nI (vbd t k) ≤ 0 := by decide +kernel
theorem xr_0 (n : Nat) (a b c e f : Int32) (u : ZSt) : r_Voters_own (n + 1) 0 a b c e f u = t_Voters_own (r_Voters_own n) a b c e u := rfl
theorem xr_1 (n : Nat) (a b c e f : Int32) (u : ZSt) : r_Voters_own (n + 1) 1 a b c e f u = t_Voters_run (r_Voters_own n) a b c e f u := rfl
theorem xr_2 (n : Nat) (a b c e f : Int32) (u : ZSt) : r_Voters_own (n + 1) 2 a b c e f u = t_Voters_runFrom (r_Voters_own n) a b c e f u := rfl
theorem x_rf {u : ZSt} {r e : Nat} (hr : r < 900) (hu : u.1 3603 = nI r) (he : e ≤ 30) {t k : Nat} (ht : t < 4) (hk : k < 8) (n : Nat) (a x : Int32) {w : Int32 × ZSt}
    (h : r_Voters_own n 1 (nI (vbd t k)) (zABV (vfd t k)) a x (nI (e + 1)) (zxb u (vbd t k)) = some w) : r_Voters_own (n + 1) 2 (nI k) a (nI t) x (nI e) u = some w := by
  obtain ⟨f1, f2, f3⟩ := x_find1 t ht k hk
  have f0 := x_find0 t ht k hk
  rw [← zfu_eq] at f0
  have e0 : ziter (fun s : Int32 × Int32 => b_Voters_runFrom_4 (r_Voters_own n) a (nI t) x (nI e) s.1 s.2 u) zfu (nI k, 0) = ziter (fun s => b_Voters_runFrom_4 (fun _ _ _ _ _ _ _ => none) 0 (nI t) 0 0 s.1 s.2 (fun _ => 0, fun _ _ => 0, fun _ _ => 0)) zfu (nI k, 0) := rfl
  rw [xr_2, t_Voters_runFrom, e0]
  cases hz : ziter (fun s => b_Voters_runFrom_4 (fun _ _ _ _ _ _ _ => none) 0 (nI t) 0 0 s.1 s.2 (fun _ => 0, fun _ _ => 0, fun _ _ => 0)) zfu (nI k, 0) with
  | none => rw [hz] at f0; cases f0
  | some s =>
    rw [hz] at f0
    have f4 : s.1 = nI (vfd t k) := by simpa using f0
    have f5 : nI e ≤ 30 := by rw [show (30 : Int32) = nI 30 from rfl, nI_leI (by omega) (by decide)]; exact he
    have f6 : nI e + 1 = nI (e + 1) := nI_1 e
    simp only [Option.bind_some, a_Voters_runFrom_4, f4, f1, f2, f3, if_false, f5, if_true, x_begin (show r < 1000 by omega) hu, f6, h]
theorem x_own {u : ZSt} {v K B r : Nat} (h : zXK u v K B r) (n : Nat) (t x e f : Int32) {w : Int32 × ZSt} (hw : r_Voters_own n 2 (nI K) (nI v) t x e u = some w) : r_Voters_own (n + 1) 0 (nI v) t x e f u = some w := by
  obtain ⟨h1, h2, h3, h4, h5, h6⟩ := h
  have n1 : ¬ B ≤ v := by omega
  have n2 : v < 50 := by omega
  have hk : f_Voters_kindOf (nI v) u = some (nI K) := by
    simp only [f_Voters_kindOf, f_Voters_isVoter, h1]
    simp (disch := omega) [fa_lit, nI_ltI, nI_leI, nI_eq, nI_add, pk_sub, zn_cl, zn_zin, n1, n2, h4]
  rw [xr_0, t_Voters_own, hk, Option.bind_some, hw]
  rfl
theorem x_V {u : ZSt} {r e : Nat} (hr : r < 700) (hu : u.1 3603 = nI r) (he : e ≤ 20) {k : Nat} (hk : k < 8) (n : Nat) (a x : Int32) : r_Voters_own (n + 4) 2 (nI k) a (nI 0) x (nI e) u = some (vV a k x, zxs (tV k) u) := by
  have base : ∀ (n : Nat) (w : ZSt) (r' e' : Nat), r' < 800 → w.1 3603 = nI r' → e' ≤ 25 → r_Voters_own (n + 2) 2 (nI 0) a (nI 0) x (nI e') w = some (x + a, zxs [1] w) := by
    intro n w r' e' hr' hw he'
    refine x_rf (r := r') (by omega) hw (by omega) (t := 0) (k := 0) (by decide) (by decide) (n + 1) a x ?_
    rw [xr_1, t_Voters_run]
    rfl
  have hb : ∀ t, (zxb u t).1 3603 = nI (r + 1) := fun t => zxs_r [t] u r hu
  have key : r_Voters_own (n + 3) 1 (nI (vbd 0 k)) (zABV (vfd 0 k)) a x (nI (e + 1)) (zxb u (vbd 0 k)) = some (vV a k x, zxs (tV k) u) := by
    have b1 := fun t => base n (zxb u t) (r + 1) (e + 1) (by omega) (hb t) (by omega)
    simp only [zxs_c] at b1
    rw [show n + 3 = (n + 2) + 1 from rfl, xr_1, t_Voters_run]
    rcases (show k = 0 ∨ k = 1 ∨ k = 2 ∨ k = 3 ∨ k = 4 ∨ k = 5 ∨ k = 6 ∨ k = 7 by omega) with rfl | rfl | rfl | rfl | rfl | rfl | rfl | rfl
    · rfl
    · rw [show zABV (vfd 0 1) = nI 0 from rfl]; simp only [vbd, List.getD_cons_zero, List.getD_cons_succ]; simp (disch := omega) [fa_lit, nI_ltI, nI_leI, nI_eq, nI_add, pk_sub, zn_cl, zn_zin, b1, vV, tV]
    · rfl
    · rfl
    · rw [show zABV (vfd 0 4) = nI 0 from rfl]; simp only [vbd, List.getD_cons_zero, List.getD_cons_succ]; simp (disch := omega) [fa_lit, nI_ltI, nI_leI, nI_eq, nI_add, pk_sub, zn_cl, zn_zin, b1, vV, tV]
    · rfl
    · rw [show zABV (vfd 0 6) = nI 0 from rfl]; simp only [vbd, List.getD_cons_zero, List.getD_cons_succ]; simp (disch := omega) [fa_lit, nI_ltI, nI_leI, nI_eq, nI_add, pk_sub, zn_cl, zn_zin, b1, vV, tV]
    · rw [show zABV (vfd 0 7) = nI 0 from rfl]; simp only [vbd, List.getD_cons_zero, List.getD_cons_succ]; simp (disch := omega) [fa_lit, nI_ltI, nI_leI, nI_eq, nI_add, pk_sub, zn_cl, zn_zin, b1, vV, tV]
  exact x_rf (by omega) hu (by omega) (by decide) hk (n + 3) a x key
theorem x_G {u : ZSt} {v K B r e : Nat} (hK : K < 8) (h : zXK u v K B r) (hr : r < 600) (he : e ≤ 15) {k : Nat} (hk : k < 8) (n : Nat) (x : Int32) : r_Voters_own (n + 8) 2 (nI k) (nI v) (nI 2) x (nI e) u = some (vG (nI v) K k x, zxs (tG K k) u) := by
  have base : ∀ (n : Nat) (w : ZSt) (r' e' : Nat) (q : Nat), q = 0 ∨ q = 1 ∨ q = 2 ∨ q = 6 → r' < 800 → w.1 3603 = nI r' → e' ≤ 25 → r_Voters_own (n + 2) 2 (nI q) (nI v) (nI 2) x (nI e') w = some (x ^^^ nI v, zxs [11] w) := by
    intro n w r' e' q hq hr' hw he'
    refine x_rf (r := r') (by omega) hw (by omega) (t := 2) (k := q) (by decide) (by omega) (n + 1) (nI v) x ?_
    rcases hq with rfl | rfl | rfl | rfl <;> rfl
  have hb : ∀ t, zXK (zxb u t) v K B (r + 1) := fun t => h.b (by omega) [t] (by simp)
  have b1 : ∀ t q, q = 0 ∨ q = 1 ∨ q = 2 ∨ q = 6 → r_Voters_own (n + 6) 2 (nI q) (nI v) (nI 2) x (nI (e + 1)) (zxb u t) = some (x ^^^ nI v, zxs (t :: [11]) u) := fun t q hq => base (n + 4) (zxb u t) (r + 1) (e + 1) q hq (by omega) (hb t).2.2.2.2.1 (by omega)
  have s50 : zXK (zxs [50, 11] u) v K B (r + 2) := h.b (by omega) [50, 11] (by simp)
  have v50 := x_own s50 (n + 5) (nI 0) (nI 2) (nI (e + 1)) (nI 0) (x_V (by omega) s50.2.2.2.2.1 (by omega) hK (n + 1) (nI v) (nI 2))
  rw [zxs_app] at v50
  refine x_rf (r := r) (by omega) h.2.2.2.2.1 (by omega) (t := 2) (k := k) (by decide) hk (n + 7) (nI v) x ?_
  rw [show n + 7 = (n + 6) + 1 from rfl, xr_1, t_Voters_run]
  have c50 : ∀ k, k = 4 ∨ k = 7 → (if nI (vbd 2 k) = (50 : Int32) then true else false) = true := by rintro k (rfl | rfl) <;> decide
  rcases (show k = 0 ∨ k = 1 ∨ k = 2 ∨ k = 3 ∨ k = 4 ∨ k = 5 ∨ k = 6 ∨ k = 7 by omega) with rfl | rfl | rfl | rfl | rfl | rfl | rfl | rfl
  · rfl
  · rfl
  · rfl
  · have g := b1 40 2 (by omega)
    rw [show zABV (vfd 2 3) = nI 2 from rfl]; simp only [vbd, List.getD_cons_zero, List.getD_cons_succ]; simp (disch := omega) [fa_lit, nI_ltI, nI_leI, nI_eq, nI_add, pk_sub, zn_cl, zn_zin, g, vG, tG]
  · have g := b1 50 1 (by omega)
    rw [show zABV (vfd 2 4) = nI 1 from rfl]; simp only [vbd, List.getD_cons_zero, List.getD_cons_succ]; simp (disch := omega) [fa_lit, nI_ltI, nI_leI, nI_eq, nI_add, pk_sub, zn_cl, zn_zin, g, v50, vG, tG]
  · have g := b1 40 2 (by omega)
    rw [show zABV (vfd 2 5) = nI 2 from rfl]; simp only [vbd, List.getD_cons_zero, List.getD_cons_succ]; simp (disch := omega) [fa_lit, nI_ltI, nI_leI, nI_eq, nI_add, pk_sub, zn_cl, zn_zin, g, vG, tG]
  · rfl
  · have g := b1 50 1 (by omega)
    rw [show zABV (vfd 2 7) = nI 1 from rfl]; simp only [vbd, List.getD_cons_zero, List.getD_cons_succ]; simp (disch := omega) [fa_lit, nI_ltI, nI_leI, nI_eq, nI_add, pk_sub, zn_cl, zn_zin, g, v50, vG, tG]
theorem x_O {u : ZSt} {v K B r e : Nat} (hK : K < 8) (h : zXK u v K B r) (hr : r < 500) (he : e ≤ 10) {k : Nat} (hk : k < 8) (n : Nat) (x : Int32) : r_Voters_own (n + 14) 2 (nI k) (nI v) (nI 1) x (nI e) u = some (vO (nI v) K k x, zxs (tO K k) u) := by
  have lV := tV_len K
  have base : ∀ (n : Nat) (w : ZSt) (r' e' : Nat) (q : Nat) (y : Int32), q = 0 ∨ q = 1 ∨ q = 4 ∨ q = 6 → zXK w v K B r' → r' < 600 → e' ≤ 15 → r_Voters_own (n + 7) 2 (nI q) (nI v) (nI 1) y (nI e') w = some (vV (nI v) K y * 2, zxs ([10] ++ tV K) w) := by
    intro n w r' e' q y hq hw hr' he'
    refine x_rf (r := r') (by omega) hw.2.2.2.2.1 (by omega) (t := 1) (k := q) (by decide) (by omega) (n + 6) (nI v) y ?_
    have s10 : zXK (zxs [10] w) v K B (r' + 1) := hw.b (by omega) [10] (by simp)
    have v10 := x_own s10 (n + 4) (nI 0) y (nI (e' + 1)) (nI 0) (x_V (by omega) s10.2.2.2.2.1 (by omega) hK n (nI v) y)
    rw [zxs_app] at v10
    have e10 : ∀ q, q = 0 ∨ q = 1 ∨ q = 4 ∨ q = 6 → nI (vbd 1 q) = nI 10 ∧ vbd 1 q = 10 := by rintro q (rfl | rfl | rfl | rfl) <;> decide
    rw [show n + 6 = (n + 5) + 1 from rfl, xr_1, t_Voters_run, (e10 q hq).2]
    rw [show zxb w 10 = zxs [10] w from rfl]
    simp (disch := omega) [fa_lit, nI_ltI, nI_leI, nI_eq, nI_add, pk_sub, zn_cl, zn_zin, v10]
  have base2 : ∀ (n : Nat) (w : ZSt) (r' e' : Nat) (y : Int32), zXK w v K B r' → r' < 550 → e' ≤ 12 → r_Voters_own (n + 9) 2 (nI 2) (nI v) (nI 1) y (nI e') w = some (-(vV (nI v) K y * 2), zxs ([30, 10] ++ tV K) w) := by
    intro n w r' e' y hw hr' he'
    refine x_rf (r := r') (by omega) hw.2.2.2.2.1 (by omega) (t := 1) (k := 2) (by decide) (by omega) (n + 8) (nI v) y ?_
    have s30 : zXK (zxs [30] w) v K B (r' + 1) := hw.b (by omega) [30] (by simp)
    have v30 := base n (zxs [30] w) (r' + 1) (e' + 1) 0 y (by omega) s30 (by omega) (by omega)
    rw [zxs_app] at v30
    rw [show n + 8 = (n + 7) + 1 from rfl, xr_1, t_Voters_run, show vbd 1 2 = 30 from rfl, show zABV (vfd 1 2) = nI 0 from rfl, show zxb w 30 = zxs [30] w from rfl]
    simp (disch := omega) [fa_lit, nI_ltI, nI_leI, nI_eq, nI_add, pk_sub, zn_cl, zn_zin, v30]
  by_cases hk3 : k = 3 ∨ k = 5
  · refine x_rf (r := r) (by omega) h.2.2.2.2.1 (by omega) (t := 1) (k := k) (by decide) hk (n + 13) (nI v) x ?_
    have e41 : vbd 1 k = 41 ∧ zABV (vfd 1 k) = nI 2 := by rcases hk3 with rfl | rfl <;> exact ⟨rfl, rfl⟩
    have s41 : zXK (zxs [41] u) v K B (r + 1) := h.b (by omega) [41] (by simp)
    have v41 := base2 (n + 3) (zxs [41] u) (r + 1) (e + 1) (x + 1) s41 (by omega) (by omega)
    rw [zxs_app] at v41
    rw [show n + 13 = (n + 12) + 1 from rfl, xr_1, t_Voters_run, e41.1, e41.2, show zxb u 41 = zxs [41] u from rfl]
    rw [fa_lit] at v41
    simp (disch := omega) [fa_lit, nI_ltI, nI_leI, nI_eq, nI_add, pk_sub, zn_cl, zn_zin, v41, vO, tO, hk3]
  · by_cases hk2 : k = 2
    · subst hk2
      have := base2 (n + 5) u r e x h (by omega) (by omega)
      rw [this]
      simp [vO, tO]
    · by_cases hk7 : k = 7
      · subst hk7
        refine x_rf (r := r) (by omega) h.2.2.2.2.1 (by omega) (t := 1) (k := 7) (by decide) hk (n + 13) (nI v) x ?_
        have s80 : zXK (zxs [80] u) v K B (r + 1) := h.b (by omega) [80] (by simp)
        have v80 := base (n + 5) (zxs [80] u) (r + 1) (e + 1) 4 x (by omega) s80 (by omega) (by omega)
        rw [zxs_app] at v80
        have s81 : zXK (zxs ([80] ++ ([10] ++ tV K)) u) v K B _ := h.b (by omega) _ (by simp; omega)
        have v81 := x_own s81 (n + 11) (nI 2) (nI 2) (nI (e + 1)) (nI 0) (x_G hK s81 (by simp; omega) (by omega) hK (n + 3) (nI 2))
        rw [zxs_app] at v81
        simp only [List.cons_append, List.nil_append, List.append_assoc] at v80 v81
        rw [show n + 13 = (n + 12) + 1 from rfl, xr_1, t_Voters_run, show vbd 1 7 = 80 from rfl, show zABV (vfd 1 7) = nI 4 from rfl, show zxb u 80 = zxs [80] u from rfl]
        simp (disch := omega) [fa_lit, nI_ltI, nI_leI, nI_eq, nI_add, pk_sub, zn_cl, zn_zin, v80, v81, vO, tO]
      · have := base (n + 7) u r e k x (by omega) h (by omega) (by omega)
        rw [this, vO, tO, if_neg hk3, if_neg hk2, if_neg hk7, if_neg hk3, if_neg hk2, if_neg hk7]
theorem x_T {u : ZSt} {v K B r e : Nat} (hK : K < 8) (h : zXK u v K B r) (hr : r < 400) (he : e ≤ 5) (n : Nat) (x : Int32) : r_Voters_own (n + 19) 2 (nI K) (nI v) (nI 3) x (nI e) u = some (vT (nI v) K K x, zxs (tT K K) u) := by
  have lO := tO_len K K
  have base : ∀ (n : Nat) (w : ZSt) (r' e' : Nat) (q : Nat), q < 8 → q ≠ 5 → q ≠ 7 → zXK w v K B r' → r' < 450 → e' ≤ 8 → r_Voters_own (n + 17) 2 (nI q) (nI v) (nI 3) x (nI e') w = some (vO (nI v) K K x - vG (nI v) K K 1, zxs ([2] ++ tO K K ++ tG K K) w) := by
    intro n w r' e' q q8 q5 q7 hw hr' he'
    refine x_rf (r := r') (by omega) hw.2.2.2.2.1 (by omega) (t := 3) (k := q) (by decide) (by omega) (n + 16) (nI v) x ?_
    have e2 : vbd 3 q = 2 := by
      rcases (show q = 0 ∨ q = 1 ∨ q = 2 ∨ q = 3 ∨ q = 4 ∨ q = 6 by omega) with rfl | rfl | rfl | rfl | rfl | rfl <;> rfl
    have s2 : zXK (zxs [2] w) v K B (r' + 1) := hw.b (by omega) [2] (by simp)
    have v2 := x_own s2 (n + 14) (nI 1) x (nI (e' + 1)) (nI 0) (x_O hK s2 (by omega) (by omega) hK n x)
    rw [zxs_app] at v2
    have s3 : zXK (zxs ([2] ++ tO K K) w) v K B _ := hw.b (by omega) _ (by simp; omega)
    have v3 := x_own s3 (n + 14) (nI 2) (nI 1) (nI (e' + 1)) (nI 0) (x_G hK s3 (by simp; omega) (by omega) hK (n + 6) (nI 1))
    rw [zxs_app] at v3
    simp only [List.cons_append, List.nil_append, List.append_assoc] at v2 v3
    rw [show n + 16 = (n + 15) + 1 from rfl, xr_1, t_Voters_run, e2, show zxb w 2 = zxs [2] w from rfl]
    simp (disch := omega) [fa_lit, nI_ltI, nI_leI, nI_eq, nI_add, pk_sub, zn_cl, zn_zin, v2, v3]
  by_cases h5 : K = 5
  · subst h5
    refine x_rf (r := r) (by omega) h.2.2.2.2.1 (by omega) (t := 3) (k := 5) (by decide) hK (n + 18) (nI v) x ?_
    have s60 : zXK (zxs [60] u) v 5 B (r + 1) := h.b (by omega) [60] (by simp)
    have v60 := base n (zxs [60] u) (r + 1) (e + 1) 3 (by decide) (by decide) (by decide) s60 (by omega) (by omega)
    rw [zxs_app] at v60
    simp only [List.cons_append, List.nil_append, List.append_assoc] at v60
    rw [show n + 18 = (n + 17) + 1 from rfl, xr_1, t_Voters_run, show vbd 3 5 = 60 from rfl, show zABV (vfd 3 5) = nI 3 from rfl, show zxb u 60 = zxs [60] u from rfl]
    simp (disch := omega) [fa_lit, nI_ltI, nI_leI, nI_eq, nI_add, pk_sub, zn_cl, zn_zin, v60, vT, tT]
  · by_cases h7 : K = 7
    · subst h7
      refine x_rf (r := r) (by omega) h.2.2.2.2.1 (by omega) (t := 3) (k := 7) (by decide) hK (n + 18) (nI v) x ?_
      have s81 : zXK (zxs [81] u) v 7 B (r + 1) := h.b (by omega) [81] (by simp)
      have v81 := base n (zxs [81] u) (r + 1) (e + 1) 4 (by decide) (by decide) (by decide) s81 (by omega) (by omega)
      rw [zxs_app] at v81
      simp only [List.cons_append, List.nil_append, List.append_assoc] at v81
      rw [show n + 18 = (n + 17) + 1 from rfl, xr_1, t_Voters_run, show vbd 3 7 = 81 from rfl, show zABV (vfd 3 7) = nI 4 from rfl, show zxb u 81 = zxs [81] u from rfl]
      simp (disch := omega) [fa_lit, nI_ltI, nI_leI, nI_eq, nI_add, pk_sub, zn_cl, zn_zin, v81, vT, tT]
    · have := base (n + 2) u r e K hK h5 h7 h (by omega) (by omega)
      rw [this, vT, tT, if_neg h5, if_neg h7, if_neg h5, if_neg h7]

def zR10 (u : ZSt) (B : Nat) : Prop := B ≤ 50 ∧ u.1 3602 = nI B ∧ u.1 3932 = nI B ∧ (∀ k, k < B → ∃ K, K < 8 ∧ u.2.1 37 k = nI K ∧ u.2.1 56 k = nI K) ∧
  ∃ r, r ≤ 100 ∧ u.1 3603 = nI r ∧ u.1 3935 = nI r ∧ ∀ k, k < 24 → k < r → u.2.1 38 k = u.2.1 57 k
theorem o_body {u : ZSt} {B : Nat} (h : zR10 u B) (a : Int32) : ∃ r u1 u2 B2, f_X_body a u = some (r, u1) ∧ f_M_body a u1 = some (r, u2) ∧ zR10 u2 B2 ∧ B ≤ B2 ∧ zfr [3602, 3932] [37, 56] [] u u2 := by
  obtain ⟨hB, h1, h2, h3, h4⟩ := id h
  simp only [f_X_body, f_Voters_isKind, f_Voters_add, f_M_body, z_within, Option.bind_some, z_it, Int32.toInt_toInt64, show (0 : Int64).toInt = 0 from rfl, show (7 : Int64).toInt = 7 from rfl]
  by_cases hC : 0 ≤ a.toInt ∧ a.toInt ≤ 7
  · obtain ⟨f, hf, rfl⟩ := z_le99 (n := 7) hC
    have hf8 : ¬ 8 ≤ f := by omega
    by_cases hB2 : B < 50
    · have hB3 : ¬ B = 50 := by omega
      refine ⟨nI B, zs (za u 37 B (nI f)) 3602 (nI (B + 1)), zs (za (zs (za u 37 B (nI f)) 3602 (nI (B + 1))) 56 B (nI f)) 3932 (nI (B + 1)), B + 1, ?_, ?_, ?_, by omega, ?_⟩
      · simp (disch := omega) [fa_lit, nI_ltI, nI_leI, nI_eq, nI_add, pk_sub, zn_cl, zn_zin, hf8, h1, hB2]
      · simp (disch := omega) [fa_lit, nI_ltI, nI_leI, nI_eq, nI_add, pk_sub, zn_cl, zn_zin, hC, zs1, za1, h2, hB2, hB3]
      · refine ⟨by omega, rfl, rfl, fun p hp => ?_, h4⟩
        by_cases hpP : p = B
        · exact ⟨f, by omega, by simp [zs1, zs2, za1, za2, za3, zl1, zl2, zl3, zc1, zc2, zc3, zd1, zd2, zd3, upd1, hpP], by simp [zs1, zs2, za1, za2, za3, zl1, zl2, zl3, zc1, zc2, zc3, zd1, zd2, zd3, upd1, hpP]⟩
        · obtain ⟨g, g1, g2, g3⟩ := h3 p (by omega)
          exact ⟨g, g1, by simp [zs1, zs2, za1, za2, za3, zl1, zl2, zl3, zc1, zc2, zc3, zd1, zd2, zd3, upd1, hpP, g2], by simp [zs1, zs2, za1, za2, za3, zl1, zl2, zl3, zc1, zc2, zc3, zd1, zd2, zd3, upd1, hpP, g3]⟩
      · exact ((((zfr_rf u).a _ (by decide)).s _ (by decide)).a _ (by decide)).s _ (by decide)
    · have hB3 : B = 50 := by omega
      subst hB3
      refine ⟨-3, u, u, 50, ?_, ?_, h, Nat.le_refl _, zfr_rf u⟩
      · simp (disch := omega) [fa_lit, nI_ltI, nI_leI, nI_eq, nI_add, pk_sub, zn_cl, zn_zin, hf8, h1]
      · simp (disch := omega) [fa_lit, nI_ltI, nI_leI, nI_eq, nI_add, pk_sub, zn_cl, zn_zin, hC, h2]
  · refine ⟨-1, u, u, B, ?_, ?_, h, Nat.le_refl _, zfr_rf u⟩
    · rcases z_int a with ha | ⟨j, hj, rfl⟩
      · have := zm_lt ha (n := 0) (by decide)
        simp (disch := omega) [fa_lit, nI_ltI, nI_leI, nI_eq, nI_add, pk_sub, zn_cl, zn_zin, this]
      · rw [nI_toInt hj] at hC
        have : 8 ≤ j := by omega
        simp (disch := omega) [fa_lit, nI_ltI, nI_leI, nI_eq, nI_add, pk_sub, zn_cl, zn_zin, this]
    · simp [hC]
theorem o_trace {u : ZSt} {B : Nat} (h : zR10 u B) (a : Int32) : ∃ r, f_X_trace a u = some r ∧ f_M_trace a u = some r := by
  obtain ⟨hB, h1, h2, h3, r, hr, h4, h5, h6⟩ := h
  simp only [f_X_trace, f_Voters_ranAt, f_M_trace, h4, h5]
  rcases z_int a with ha | ⟨j, hj, rfl⟩
  · have := zm_lt ha (n := 0) (by decide)
    exact ⟨-1, by simp (disch := omega) [fa_lit, nI_ltI, nI_leI, nI_eq, nI_add, pk_sub, zn_cl, zn_zin, this], by simp (disch := omega) [fa_lit, nI_ltI, nI_leI, nI_eq, nI_add, pk_sub, zn_cl, zn_zin, this]⟩
  · by_cases g1 : r ≤ j
    · exact ⟨-1, by simp (disch := omega) [fa_lit, nI_ltI, nI_leI, nI_eq, nI_add, pk_sub, zn_cl, zn_zin, g1], by simp (disch := omega) [fa_lit, nI_ltI, nI_leI, nI_eq, nI_add, pk_sub, zn_cl, zn_zin, g1]⟩
    · by_cases g2 : 24 ≤ j
      · exact ⟨-1, by simp (disch := omega) [fa_lit, nI_ltI, nI_leI, nI_eq, nI_add, pk_sub, zn_cl, zn_zin, g2], by simp (disch := omega) [fa_lit, nI_ltI, nI_leI, nI_eq, nI_add, pk_sub, zn_cl, zn_zin, g2]⟩
      · have g3 : j < 24 := by omega
        exact ⟨u.2.1 57 j, by simp (disch := omega) [fa_lit, nI_ltI, nI_leI, nI_eq, nI_add, pk_sub, zn_cl, zn_zin, g1, g2, g3, h6 j g3 (by omega)], by simp (disch := omega) [fa_lit, nI_ltI, nI_leI, nI_eq, nI_add, pk_sub, zn_cl, zn_zin, g1, g2, g3]⟩
theorem x_isVoter {u : ZSt} {B : Nat} (hB : B ≤ 50) (h : u.1 3602 = nI B) (a : Int32) : f_Voters_isVoter a u = some (if 0 ≤ a.toInt ∧ a.toInt < B then 1 else 0) := by
  simp only [f_Voters_isVoter, h, fa_lt, fa_le, nI_toInt (show B < 2 ^ 31 by omega), show (0 : Int32).toInt = 0 from rfl]
  by_cases h1 : a.toInt < 0
  · have : ¬ 0 ≤ a.toInt := by omega
    simp [h1, this]
  · by_cases h2 : (B : Int) ≤ a.toInt
    · have : ¬ a.toInt < B := by omega
      simp [h1, h2, this]
    · have h3 : a.toInt < B := by omega
      have h4 : 0 ≤ a.toInt := by omega
      simp [h1, h2, h3, h4]
theorem m_isBody {u : ZSt} {B : Nat} (hB : B ≤ 50) (h : u.1 3932 = nI B) (a : Int32) : f_M_isBody a u = some (if 0 ≤ a.toInt ∧ a.toInt < B then 1 else 0) := by
  rw [f_M_isBody, h, z_within, Int32.toInt_toInt64, Int32.toInt_toInt64, z_sub1 (by omega)]
  have e : ((0 : Int64).toInt ≤ a.toInt ∧ a.toInt ≤ (B : Int) - 1) ↔ (0 ≤ a.toInt ∧ a.toInt < B) := by
    rw [show (0 : Int64).toInt = 0 from rfl]; omega
  simp only [e, Option.bind_some]
def vA (a : Int32) (K t : Nat) (x : Int32) : Int32 := if t = 0 then vV a K x else if t = 1 then vO a K K x else if t = 2 then vG a K K x else vT a K K x
def tA (K t : Nat) : List Nat := if t = 0 then tV K else if t = 1 then tO K K else if t = 2 then tG K K else tT K K
theorem tA_len (K t : Nat) : (tA K t).length ≤ 14 := by
  have := tV_len K
  have := tG_len K K
  have := tO_len K K
  unfold tA; split
  · omega
  · split
    · omega
    · split
      · omega
      · unfold tT; split
        · simp; omega
        · split <;> simp <;> omega
theorem o_act {u : ZSt} {B : Nat} (h : zR10 u B) (a b c : Int32) : ∃ r u1 u2, f_X_act a b c u = some (r, u1) ∧ f_M_act a b c u1 = some (r, u2) ∧ zR10 u2 B ∧ zfr [3603, 3935, 3936, 3937] [38, 57] [] u u2 := by
  obtain ⟨hB, h1, h2, h3, h4⟩ := id h
  have z1 : (zs u 3603 0).1 3602 = nI B := h1
  have hx := x_isVoter hB z1 a
  have hm : ∀ v : ZSt, v.1 3932 = nI B → f_M_isBody a v = some (if 0 ≤ a.toInt ∧ a.toInt < B then 1 else 0) := fun v hv => m_isBody hB hv a
  by_cases ha : 0 ≤ a.toInt ∧ a.toInt < B
  · obtain ⟨v, hv, rfl⟩ := z_pos ha
    obtain ⟨K, hK, k1, k2⟩ := h3 v hv
    by_cases hb : 0 ≤ b.toInt ∧ b.toInt < 4
    · obtain ⟨t, ht, rfl⟩ := z_pos (n := 4) hb
      have sx : zXK (zs u 3603 0) v K B 0 := ⟨z1, hv, hB, k1, rfl, by decide⟩
      have run : r_Voters_own 100 0 (nI v) (nI t) c 0 0 (zs u 3603 0) = some (vA (nI v) K t c, zxs (tA K t) (zs u 3603 0)) := by
        refine x_own sx 99 (nI t) c 0 0 ?_
        rcases (show t = 0 ∨ t = 1 ∨ t = 2 ∨ t = 3 by omega) with rfl | rfl | rfl | rfl
        · exact x_V (r := 0) (e := 0) (by decide) rfl (by decide) hK 95 (nI v) c
        · exact x_O (e := 0) hK sx (by decide) (by decide) hK 85 c
        · exact x_G (e := 0) hK sx (by decide) (by decide) hK 91 c
        · exact x_T (e := 0) hK sx (by decide) (by decide) 80 c
      have hlen := tA_len K t
      let u1 := zxs (tA K t) (zs u 3603 0)
      have w1 : u1.1 3932 = nI B := by show (zxs _ _).1 3932 = _; rw [zxs_1 _ _ _ (by decide)]; exact h2
      have w2 : u1.2.1 56 v = nI K := by show (zxs _ _).2.1 56 v = _; rw [zxs_2 _ _ _ (by decide)]; exact k2
      have sm : zMK (zs (zs (zs u1 3935 0) 3936 (nI K)) 3937 (nI v)) (nI v) K 0 := ⟨rfl, rfl, rfl, by decide⟩
      have runm : f_M_act (nI v) (nI t) c u1 = some (vA (nI v) K t c, zms (tA K t) (zs (zs (zs u1 3935 0) 3936 (nI K)) 3937 (nI v))) := by
        have q1 := hm (zs u1 3935 0) w1
        have v50 : v < 50 := by omega
        simp only [f_M_act, q1, ha, and_self, if_true, Option.bind_some, show ¬ (1 : Int32) = 0 by decide, if_false, zn_zin v50 (by decide), zn_cl (show v < 2 ^ 31 by omega)]
        rw [if_pos (zn_zin v50 (by decide)), w2]
        rcases (show t = 0 ∨ t = 1 ∨ t = 2 ∨ t = 3 by omega) with rfl | rfl | rfl | rfl
        · have := m_V sm (by decide) hK c
          simp only [fa_lit] at this
          simp (disch := omega) [fa_lit, nI_ltI, nI_leI, nI_eq, nI_add, pk_sub, zn_cl, zn_zin, this, vA, tA, zs1, w2]
        · have := m_O hK sm (by decide) hK c
          simp only [fa_lit] at this
          simp (disch := omega) [fa_lit, nI_ltI, nI_leI, nI_eq, nI_add, pk_sub, zn_cl, zn_zin, this, vA, tA, zs1, w2]
        · have := m_G hK sm (by decide) hK c
          simp only [fa_lit] at this
          simp (disch := omega) [fa_lit, nI_ltI, nI_leI, nI_eq, nI_add, pk_sub, zn_cl, zn_zin, this, vA, tA, zs1, w2]
        · have := m_T hK sm (by decide) c
          simp only [fa_lit] at this
          simp (disch := omega) [fa_lit, nI_ltI, nI_leI, nI_eq, nI_add, pk_sub, zn_cl, zn_zin, this, vA, tA, zs1, w2]
      refine ⟨_, u1, _, ?_, runm, ?_, ?_⟩
      · simp only [f_X_act, f_Voters_perform, hx, ha, and_self, if_true, Option.bind_some, show ¬ (1 : Int32) = 0 by decide, if_false, f_Voters_own]
        have n1 : ¬ nI t < 0 := by rw [show (0 : Int32) = nI 0 from rfl, nI_ltI (by omega) (by decide)]; omega
        have n2 : nI t < 4 := by rw [show (4 : Int32) = nI 4 from rfl, nI_ltI (by omega) (by decide)]; omega
        rw [if_neg n1, if_pos n2, run]
        rfl
      · have e1 : ∀ i, i ≠ 3935 → i ≠ 3603 → i ≠ 3936 → i ≠ 3937 → (zms (tA K t) (zs (zs (zs u1 3935 0) 3936 (nI K)) 3937 (nI v))).1 i = u.1 i := by
          intro i i1 i2 i3 i4
          rw [zms_1 _ _ _ i1, zs1, if_neg i4, zs1, if_neg i3, zs1, if_neg i1]
          show (zxs _ _).1 i = _
          rw [zxs_1 _ _ _ i2, zs1, if_neg i2]
        have e2 : ∀ k, k ≠ 38 → k ≠ 57 → (zms (tA K t) (zs (zs (zs u1 3935 0) 3936 (nI K)) 3937 (nI v))).2.1 k = u.2.1 k := by
          intro k j1 j2
          rw [zms_2 _ _ _ j2]
          show (zxs _ _).2.1 k = _
          rw [zxs_2 _ _ _ j1]
          rfl
        refine ⟨hB, by rw [e1 _ (by decide) (by decide) (by decide) (by decide)]; exact h1, by rw [e1 _ (by decide) (by decide) (by decide) (by decide)]; exact h2, fun k hk => by rw [e2 37 (by decide) (by decide), e2 56 (by decide) (by decide)]; exact h3 k hk, (tA K t).length, by omega, ?_, ?_, ?_⟩
        · rw [zms_1 _ _ _ (by decide)]
          show (zxs _ _).1 3603 = _
          rw [zxs_r _ _ 0 rfl, Nat.zero_add]
        · rw [zms_r _ _ 0 rfl, Nat.zero_add]
        · intro k hk hkl
          rw [zms_t _ _ 0 (by omega) rfl k hk, if_pos (by omega), zms_2 _ _ _ (by decide)]
          show (zxs _ _).2.1 38 k = _
          rw [zxs_t _ _ 0 (by omega) rfl k hk, if_pos (by omega)]
      · refine ⟨fun i hi => ?_, fun k hk => ?_, fun k hk => ?_⟩
        · simp at hi
          rw [zms_1 _ _ _ hi.2.1, zs1, if_neg hi.2.2.2, zs1, if_neg hi.2.2.1, zs1, if_neg hi.2.1]
          show (zxs _ _).1 i = _
          rw [zxs_1 _ _ _ hi.1, zs1, if_neg hi.1]
        · simp at hk
          rw [zms_2 _ _ _ hk.2]
          show (zxs _ _).2.1 k = _
          rw [zxs_2 _ _ _ hk.1]
          rfl
        · rw [zms_3]
          show (zxs _ _).2.2 k = _
          rw [zxs_3]
          rfl
    · have hb2 : b < 0 ∨ ¬ b < 4 := by
        rw [fa_lt, fa_lt, show (0 : Int32).toInt = 0 from rfl, show (4 : Int32).toInt = 4 from rfl]; omega
      have hn : ¬ b = 0 ∧ ¬ b = 1 ∧ ¬ b = 2 ∧ ¬ b = 3 := by
        refine ⟨?_, ?_, ?_, ?_⟩ <;> rintro rfl <;> exact hb (by decide)
      have q1 := hm (zs (zs u 3603 0) 3935 0) h2
      have v50 : v < 50 := by omega
      refine ⟨0, zs u 3603 0, zs (zs (zs (zs u 3603 0) 3935 0) 3936 (nI K)) 3937 (nI v), ?_, ?_, ?_, ?_⟩
      · simp only [f_X_act, f_Voters_perform, hx, ha, and_self, if_true, Option.bind_some, show ¬ (1 : Int32) = 0 by decide, if_false]
        rcases hb2 with hb2 | hb2
        · simp [hb2]
        · simp [hb2]
      · simp only [f_M_act, q1, ha, and_self, if_true, Option.bind_some, show ¬ (1 : Int32) = 0 by decide, if_false, zn_zin v50 (by decide), zn_cl (show v < 2 ^ 31 by omega), hn.1, hn.2.1, hn.2.2.1, hn.2.2.2]
        rw [if_pos (zn_zin v50 (by decide)), show (zs u 3603 0).2.1 56 v = nI K from k2]
      · exact ⟨hB, h1, h2, h3, 0, by decide, rfl, rfl, fun k _ hk => by omega⟩
      · exact ((((zfr_rf u).s _ (by decide)).s _ (by decide)).s _ (by decide)).s _ (by decide)
  · have q1 := hm (zs (zs u 3603 0) 3935 0) h2
    refine ⟨0, zs u 3603 0, zs (zs u 3603 0) 3935 0, ?_, ?_, ?_, ?_⟩
    · simp only [f_X_act, f_Voters_perform, hx, ha, if_false, Option.bind_some, if_true]
    · simp only [f_M_act, q1, ha, if_false, Option.bind_some, if_true]
    · exact ⟨hB, h1, h2, h3, 0, by decide, rfl, rfl, fun k _ hk => by omega⟩
    · exact ((zfr_rf u).s _ (by decide)).s _ (by decide)
