/-! the reference reads and works out -/
def zbin (a : Nat) (b c : Int32) : Int32 := if a = 37 then (if c = 0 then 0 else zrem b c) else if a = 38 then (if b = 0 then 0 else if c = 0 then 0 else 1) else if a = 42 then b * c else if a = 43 then b + c else if a = 45 then b - c else if a = 47 then (if c = 0 then 0 else b / c) else if a = 60 then (if c ≤ b then 0 else 1) else if a = 61 then (if b = c then 1 else 0) else if a = 62 then (if b ≤ c then 0 else 1) else if a = 124 then (if b = 0 then (if c = 0 then 0 else 1) else 1) else 0
def zstep (nm : Nat → Int32) (x : Nat × Nat) (s : List Int32) : List Int32 :=
  if x.1 = 48 then nI x.2 :: s else if x.1 = 97 then nm x.2 :: s else if x.1 = 33 then (match s with | a :: s => (if a = 0 then 1 else 0) :: s | [] => [])
  else if x.1 = 126 then (match s with | a :: s => (-a) :: s | [] => []) else (match s with | c :: b :: s => zbin x.1 b c :: s | _ => [])
def zrun (nm : Nat → Int32) (l : List (Nat × Nat)) (s : List Int32) : List Int32 := l.foldl (fun s x => zstep nm x s) s
theorem zrun_app (nm : Nat → Int32) (a b : List (Nat × Nat)) (s : List Int32) : zrun nm (a ++ b) s = zrun nm b (zrun nm a s) := by simp only [zrun, List.foldl_append]
theorem zrun_1 (nm : Nat → Int32) (x : Nat × Nat) (s : List Int32) : zrun nm [x] s = zstep nm x s := rfl
theorem zlev_ops {b : Nat} (h : zlev b < 5) : b = 37 ∨ b = 38 ∨ b = 42 ∨ b = 43 ∨ b = 45 ∨ b = 47 ∨ b = 60 ∨ b = 61 ∨ b = 62 ∨ b = 124 := by
  unfold zlev at h
  (repeat' split at h) <;> omega
theorem zstep_bin (nm : Nat → Int32) {a : Nat} (h : zlev a < 5) (b c : Int32) (s : List Int32) (y : Nat) : zstep nm (a, y) (c :: b :: s) = zbin a b c :: s := by
  have := zlev_ops h
  have h1 : a ≠ 48 ∧ a ≠ 97 ∧ a ≠ 33 ∧ a ≠ 126 := by omega
  simp only [zstep, h1.1, h1.2.1, h1.2.2.1, h1.2.2.2, if_false]
def zMb (u : ZSt) (t : Nat → Nat) (n : Nat) : Prop := n ≤ 120 ∧ (∀ p, n ≤ p → t p = 256) ∧ (∀ p, p < n → t p ≤ 255) ∧ u.1 3919 = nI n ∧ ((u.1 3917 = -1 ∧ ∀ p, p < n → u.2.1 46 p = nI (t p)) ∨ (u.1 3917 = 0 ∧ ∀ p, p < n → u.2.1 47 p = nI (t p)))
def zNm (u : ZSt) (nm : Nat → Int32) : Prop := ∀ k, k < 6 → u.2.1 48 k = nm k
theorem zMb.fr {u v : ZSt} {t : Nat → Nat} {n : Nat} (h : zMb u t n) (f : zfr [3918, 3920, 3921] [] [] u v) : zMb v t n := by
  obtain ⟨h1, h2, h3, h4, h5⟩ := h
  refine ⟨h1, h2, h3, (f.g 3919).trans h4, ?_⟩
  rw [f.g 3917, f.ga 46, f.ga 47]
  exact h5
theorem zNm.fr {u v : ZSt} {nm : Nat → Int32} (h : zNm u nm) (f : zfr [3918, 3920, 3921] [] [] u v) : zNm v nm := by
  intro k hk; rw [f.ga 48]; exact h k hk
theorem zMb.le {u : ZSt} {t : Nat → Nat} {n : Nat} (h : zMb u t n) (p : Nat) : t p ≤ 256 := by
  rcases Nat.lt_or_ge p n with q | q
  · have := h.2.2.1 p q; omega
  · rw [h.2.1 p q]; exact Nat.le_refl _
theorem zMb.lt {u : ZSt} {t : Nat → Nat} {n : Nat} (h : zMb u t n) {p : Nat} (hp : t p ≠ 256) : p < n := by
  rcases Nat.lt_or_ge p n with q | q
  · exact q
  · exact absurd (h.2.1 p q) hp
theorem m_byteAt {u : ZSt} {t : Nat → Nat} {n p : Nat} (h : zMb u t n) (hp : u.1 3918 = nI p) (hpn : p ≤ n) : f_M_byteAt u = some (zmc (t p)) := by
  obtain ⟨h1, h2, h3, h4, h5⟩ := h
  simp only [f_M_byteAt, hp, h4, nI_leI (show n < 2 ^ 31 by omega) (show p < 2 ^ 31 by omega)]
  by_cases e : p < n
  · have n2 : ¬ n ≤ p := by omega
    have := h3 p e
    have ez : zmc (t p) = nI (t p) := by rw [zmc, if_neg (by omega)]
    rw [if_neg n2, ez]
    rcases h5 with ⟨q1, q2⟩ | ⟨q1, q2⟩
    · rw [q1, if_neg (by decide), if_pos (zn_zin (show p < 120 by omega) (by decide)), zn_cl (show p < 2 ^ 31 by omega), q2 p e]
    · rw [q1, if_pos (by decide), show (0 : Int32) + nI p = nI p by rw [show (0 : Int32) = nI 0 from rfl, nI_add, Nat.zero_add], if_pos (zn_zin (show p < 120 by omega) (by decide)), zn_cl (show p < 2 ^ 31 by omega), q2 p e]
  · rw [if_pos (by omega), h2 p (by omega)]; rfl
theorem m_pos0 {n : Nat} (h : n < 2 ^ 31) : (0 : Int32) ≤ nI n := nI_pos' h
theorem m_takes {u : ZSt} {t : Nat → Nat} {n p c : Nat} (h : zMb u t n) (hp : u.1 3918 = nI p) (hpn : p ≤ n) (hf : u.1 3920 = -1) (hc : c < 256) (h0 : 0 < c) : f_M_takes (nI c) u = some (if t p = c then (1, zs u 3918 (nI (p + 1))) else (0, u)) := by
  have n1 : ¬ (0 : Int32) ≤ -1 := by decide
  simp only [f_M_takes, hf, n1, if_false, m_byteAt h hp hpn, Option.bind_some, zmc_eq (h.le p) hc h0, hp, nI_1]
  split <;> rfl
theorem m_takes_f {u : ZSt} {q : Nat} (hq : q < 2 ^ 31) (hf : u.1 3920 = nI q) (c : Int32) : f_M_takes c u = some (0, u) := by
  simp only [f_M_takes, hf, m_pos0 hq, if_true]
noncomputable def zlp (k : Nat) (rc : Nat → ZSt → Option (Int32 × ZSt)) (F : Nat) (x : Int32) (u : ZSt) : Option (Int32 × ZSt) :=
  if k = 0 then (ziter (fun s => b_M_either_3 rc s.1 s.2) F (x, u)).bind (fun s => a_M_either_3 rc s.1 s.2)
  else if k = 1 then (ziter (fun s => b_M_both_3 rc s.1 s.2) F (x, u)).bind (fun s => a_M_both_3 rc s.1 s.2)
  else if k = 2 then (f_M_byteAt u).bind (fun q698 => if 0 ≤ u.1 3920 then some (x, u) else if q698 = 60 then (rc 5 (zs u 3918 (u.1 3918 + 1))).bind (fun q => some (zbin 60 x q.1, q.2)) else if q698 = 61 then (rc 5 (zs u 3918 (u.1 3918 + 1))).bind (fun q => some (zbin 61 x q.1, q.2)) else if q698 = 62 then (rc 5 (zs u 3918 (u.1 3918 + 1))).bind (fun q => some (zbin 62 x q.1, q.2)) else some (x, u))
  else if k = 3 then (ziter (fun s => b_M_sums_3 rc s.1 s.2) F (x, u)).bind (fun s => a_M_sums_3 rc s.1 s.2)
  else (f_M_byteAt u).bind (fun b => (ziter (fun s => b_M_product_6 rc s.1 s.2.1 s.2.2) F (x, b, u)).bind (fun s => a_M_product_6 rc s.1 s.2.2))
def ztag (k : Nat) : Nat := if k = 0 then 2 else if k = 1 then 0 else if k = 2 then 1 else if k = 3 then 5 else if k = 4 then 4 else 3
theorem m_chain (f : Nat) {k : Nat} (hk : k < 5) (u : ZSt) : r_M_both (f + 1) (ztag k) u = (r_M_both f (ztag (k + 1)) u).bind (fun q => zlp k (r_M_both f) zfu q.1 q.2) := by
  rcases (show k = 0 ∨ k = 1 ∨ k = 2 ∨ k = 3 ∨ k = 4 by omega) with rfl | rfl | rfl | rfl | rfl
  · rfl
  · rfl
  · have c1 : ¬ (61 : Int32) = 60 := by decide
    have c2 : ¬ (62 : Int32) = 60 := by decide
    have c3 : ¬ (62 : Int32) = 61 := by decide
    show t_M_compared (r_M_both f) u = (r_M_both f 5 u).bind _
    unfold t_M_compared
    congr 1
    funext q
    simp only [zlp, if_true, if_false, show ¬ (2 : Nat) = 0 by decide, show ¬ (2 : Nat) = 1 by decide]
    congr 1
    funext b
    split
    · rfl
    · split
      · rename_i h; subst h
        congr 1; funext y
        simp only [if_true, zbin, show ¬ (60 : Nat) = 37 by decide, show ¬ (60 : Nat) = 38 by decide, show ¬ (60 : Nat) = 42 by decide, show ¬ (60 : Nat) = 43 by decide, show ¬ (60 : Nat) = 45 by decide, show ¬ (60 : Nat) = 47 by decide, if_false]
        split <;> rfl
      · split
        · rename_i h; subst h
          congr 1; funext y
          simp only [if_true, c1, zbin, show ¬ (61 : Nat) = 37 by decide, show ¬ (61 : Nat) = 38 by decide, show ¬ (61 : Nat) = 42 by decide, show ¬ (61 : Nat) = 43 by decide, show ¬ (61 : Nat) = 45 by decide, show ¬ (61 : Nat) = 47 by decide, show ¬ (61 : Nat) = 60 by decide, if_false]
          split <;> rfl
        · split
          · rename_i h; subst h
            congr 1; funext y
            simp only [if_true, c2, c3, zbin, show ¬ (62 : Nat) = 37 by decide, show ¬ (62 : Nat) = 38 by decide, show ¬ (62 : Nat) = 42 by decide, show ¬ (62 : Nat) = 43 by decide, show ¬ (62 : Nat) = 45 by decide, show ¬ (62 : Nat) = 47 by decide, show ¬ (62 : Nat) = 60 by decide, show ¬ (62 : Nat) = 61 by decide, if_false]
            split <;> rfl
          · rfl
  · rfl
  · show t_M_product (r_M_both f) u = (r_M_both f 3 u).bind _
    rfl
/-- once something is wrong, nothing more is read -/
theorem m_lp_f {t : Nat → Nat} {n : Nat} {k : Nat} (rc : Nat → ZSt → Option (Int32 × ZSt)) (F : Nat) (x : Int32) {u : ZSt} {q p : Nat} (h : zMb u t n) (hp : u.1 3918 = nI p) (hpn : p ≤ n) (hq : q < 2 ^ 31) (hf : u.1 3920 = nI q) : zlp k rc (F + 1) x u = some (x, u) := by
  have hb := m_byteAt h hp hpn
  unfold zlp
  split
  · rw [ziter_r (r := (x, u)) (by simp only [b_M_either_3, m_takes_f hq hf, Option.bind_some, if_true])]; rfl
  · split
    · rw [ziter_r (r := (x, u)) (by simp only [b_M_both_3, m_takes_f hq hf, Option.bind_some, if_true])]; rfl
    · split
      · simp only [hb, Option.bind_some, hf, m_pos0 hq, if_true]
      · split
        · rw [ziter_r (r := (x, u)) (by simp only [b_M_sums_3, hf, m_pos0 hq, if_true])]; rfl
        · simp only [hb, Option.bind_some]
          rw [ziter_r (r := (x, zmc (t p), u)) (by simp only [b_M_product_6, hf, m_pos0 hq, if_true])]; rfl
theorem m_eq {u : ZSt} {t : Nat → Nat} {n : Nat} (h : zMb u t n) (p c : Nat) (hc : c < 256) (h0 : 0 < c) : (zmc (t p) = nI c) = (t p = c) := propext (zmc_eq (h.le p) hc h0)
/-- no such sign: the chain is at its end -/
theorem m_lp_no {t : Nat → Nat} {n : Nat} {k : Nat} (hk : k < 5) (rc : Nat → ZSt → Option (Int32 × ZSt)) (F : Nat) (x : Int32) {u : ZSt} {p : Nat} (h : zMb u t n) (hp : u.1 3918 = nI p) (hpn : p ≤ n) (hf : u.1 3920 = -1) (hz : zlev (t p) ≠ k) : zlp k rc (F + 1) x u = some (x, u) := by
  have hb := m_byteAt h hp hpn
  have n1 : ¬ (0 : Int32) ≤ -1 := by decide
  have ne : ∀ c, zlev c = k → t p ≠ c := fun c hc e => hz (e ▸ hc)
  rcases (show k = 0 ∨ k = 1 ∨ k = 2 ∨ k = 3 ∨ k = 4 by omega) with rfl | rfl | rfl | rfl | rfl
  · show (ziter (fun s => b_M_either_3 rc s.1 s.2) (F + 1) (x, u)).bind _ = _
    have ht := m_takes h hp hpn hf (c := 124) (by decide) (by decide)
    rw [if_neg (ne 124 rfl)] at ht
    have ht' : f_M_takes 124 u = some (0, u) := ht
    rw [ziter_r (r := (x, u)) (by simp only [b_M_either_3, ht', Option.bind_some, if_true])]; rfl
  · show (ziter (fun s => b_M_both_3 rc s.1 s.2) (F + 1) (x, u)).bind _ = _
    have ht := m_takes h hp hpn hf (c := 38) (by decide) (by decide)
    rw [if_neg (ne 38 rfl)] at ht
    have ht' : f_M_takes 38 u = some (0, u) := ht
    rw [ziter_r (r := (x, u)) (by simp only [b_M_both_3, ht', Option.bind_some, if_true])]; rfl
  · have e1 : ¬ zmc (t p) = 60 := fun e => ne 60 rfl ((zmc_eq (h.le p) (c := 60) (by decide) (by decide)).mp e)
    have e2 : ¬ zmc (t p) = 61 := fun e => ne 61 rfl ((zmc_eq (h.le p) (c := 61) (by decide) (by decide)).mp e)
    have e3 : ¬ zmc (t p) = 62 := fun e => ne 62 rfl ((zmc_eq (h.le p) (c := 62) (by decide) (by decide)).mp e)
    simp only [zlp, show ¬ (2 : Nat) = 0 by decide, show ¬ (2 : Nat) = 1 by decide, if_false, if_true, hb, Option.bind_some, hf, n1, e1, e2, e3]
  · have e1 : ¬ zmc (t p) = 43 := fun e => ne 43 rfl ((zmc_eq (h.le p) (c := 43) (by decide) (by decide)).mp e)
    have e2 : ¬ zmc (t p) = 45 := fun e => ne 45 rfl ((zmc_eq (h.le p) (c := 45) (by decide) (by decide)).mp e)
    show (ziter (fun s => b_M_sums_3 rc s.1 s.2) (F + 1) (x, u)).bind _ = _
    rw [ziter_r (r := (x, u)) (by simp only [b_M_sums_3, hf, n1, if_false, hb, Option.bind_some, e1, e2])]; rfl
  · have e1 : ¬ zmc (t p) = 42 := fun e => ne 42 rfl ((zmc_eq (h.le p) (c := 42) (by decide) (by decide)).mp e)
    have e2 : ¬ zmc (t p) = 47 := fun e => ne 47 rfl ((zmc_eq (h.le p) (c := 47) (by decide) (by decide)).mp e)
    have e3 : ¬ zmc (t p) = 37 := fun e => ne 37 rfl ((zmc_eq (h.le p) (c := 37) (by decide) (by decide)).mp e)
    show (f_M_byteAt u).bind (fun b => (ziter (fun s => b_M_product_6 rc s.1 s.2.1 s.2.2) (F + 1) (x, b, u)).bind (fun s => a_M_product_6 rc s.1 s.2.2)) = _
    simp only [hb, Option.bind_some]
    rw [ziter_r (r := (x, zmc (t p), u)) (by simp only [b_M_product_6, hf, n1, if_false, e1, e2, e3])]; rfl
theorem m_bind_if {α : Type} (a : Option (Int32 × ZSt)) (f g : Int32 × ZSt → Option α) (h : ∀ q, a = some q → f q = g q) : a.bind f = a.bind g := by
  cases a with
  | none => rfl
  | some q => exact h q rfl
theorem ziter_b {σ ρ α : Type} {B : σ → Option (σ ⊕ ρ)} {F : Nat} {s : σ} {a : Option α} {g : α → Option (σ ⊕ ρ)} (h : B s = a.bind g) : ziter B (F + 1) s = a.bind (fun q => (g q).bind fun x => match x with | .inl s' => ziter B F s' | .inr r => some r) := by
  simp only [ziter, h]
  cases a <;> rfl
/-- a sign: what comes behind it is worked out, and both are joined -/
theorem m_lp_op {t : Nat → Nat} {n : Nat} {k : Nat} (hk : k < 5) (hk2 : k ≠ 2) (rc : Nat → ZSt → Option (Int32 × ZSt)) (F : Nat) (x : Int32) {u : ZSt} {p : Nat} (h : zMb u t n) (hp : u.1 3918 = nI p) (hpn : p ≤ n) (hf : u.1 3920 = -1) (hz : zlev (t p) = k) {y : Int32} {v : ZSt} (hr : rc (ztag (k + 1)) (zs u 3918 (nI (p + 1))) = some (y, v)) : zlp k rc (F + 1) x u = zlp k rc F (zbin (t p) x y) v := by
  have hb := m_byteAt h hp hpn
  have n1 : ¬ (0 : Int32) ≤ -1 := by decide
  have ops := zlev_ops (show zlev (t p) < 5 by omega)
  rcases (show k = 0 ∨ k = 1 ∨ k = 3 ∨ k = 4 by omega) with rfl | rfl | rfl | rfl
  · have e : t p = 124 := by
      rcases ops with e | e | e | e | e | e | e | e | e | e <;> rw [e] at hz <;> first | exact e | (exact absurd hz (by decide))
    have ht := m_takes h hp hpn hf (c := 124) (by decide) (by decide)
    rw [if_pos e] at ht
    have ht' : f_M_takes 124 u = some (1, zs u 3918 (nI (p + 1))) := ht
    have hr' : rc 0 (zs u 3918 (nI (p + 1))) = some (y, v) := hr
    have c10 : ¬ (1 : Int32) = 0 := by decide
    show (ziter (fun s => b_M_either_3 rc s.1 s.2) (F + 1) (x, u)).bind _ = (ziter (fun s => b_M_either_3 rc s.1 s.2) F (zbin (t p) x y, v)).bind _
    rw [ziter_l (s' := (zbin (t p) x y, v)) (by
      simp only [b_M_either_3, ht', Option.bind_some, c10, if_false, hr', e]
      by_cases h1 : x = 0 <;> by_cases h2 : y = 0 <;> simp [zbin, h1, h2])]
  · have e : t p = 38 := by
      rcases ops with e | e | e | e | e | e | e | e | e | e <;> rw [e] at hz <;> first | exact e | (exact absurd hz (by decide))
    have ht := m_takes h hp hpn hf (c := 38) (by decide) (by decide)
    rw [if_pos e] at ht
    have ht' : f_M_takes 38 u = some (1, zs u 3918 (nI (p + 1))) := ht
    have hr' : rc 1 (zs u 3918 (nI (p + 1))) = some (y, v) := hr
    have c10 : ¬ (1 : Int32) = 0 := by decide
    show (ziter (fun s => b_M_both_3 rc s.1 s.2) (F + 1) (x, u)).bind _ = (ziter (fun s => b_M_both_3 rc s.1 s.2) F (zbin (t p) x y, v)).bind _
    rw [ziter_l (s' := (zbin (t p) x y, v)) (by
      simp only [b_M_both_3, ht', Option.bind_some, c10, if_false, hr', e]
      by_cases h1 : x = 0 <;> by_cases h2 : y = 0 <;> simp [zbin, h1, h2])]
  · have e : t p = 43 ∨ t p = 45 := by
      rcases ops with e | e | e | e | e | e | e | e | e | e <;> rw [e] at hz <;> first | exact Or.inl e | exact Or.inr e | (exact absurd hz (by decide))
    have hr' : rc 4 (zs u 3918 (nI (p + 1))) = some (y, v) := hr
    show (ziter (fun s => b_M_sums_3 rc s.1 s.2) (F + 1) (x, u)).bind _ = (ziter (fun s => b_M_sums_3 rc s.1 s.2) F (zbin (t p) x y, v)).bind _
    rw [ziter_l (s' := (zbin (t p) x y, v)) (by
      rcases e with e | e
      · have e1 : zmc 43 = (43 : Int32) := rfl
        simp only [b_M_sums_3, hf, n1, if_false, hb, Option.bind_some, e1, if_true, hp, nI_1, hr', e, zbin]
        simp
      · have e1 : zmc 45 = (45 : Int32) := rfl
        simp only [b_M_sums_3, hf, n1, if_false, hb, Option.bind_some, e1, if_true, hp, nI_1, hr', e, zbin, show ¬ (45 : Int32) = 43 by decide]
        simp)]
  · have e : t p = 42 ∨ t p = 47 ∨ t p = 37 := by
      rcases ops with e | e | e | e | e | e | e | e | e | e <;> rw [e] at hz <;> first | exact Or.inl e | exact Or.inr (Or.inl e) | exact Or.inr (Or.inr e) | (exact absurd hz (by decide))
    have hr' : rc 3 (zs u 3918 (nI (p + 1))) = some (y, v) := hr
    show (f_M_byteAt u).bind (fun b => (ziter (fun s => b_M_product_6 rc s.1 s.2.1 s.2.2) (F + 1) (x, b, u)).bind (fun s => a_M_product_6 rc s.1 s.2.2)) = (f_M_byteAt v).bind (fun b => (ziter (fun s => b_M_product_6 rc s.1 s.2.1 s.2.2) F (zbin (t p) x y, b, v)).bind (fun s => a_M_product_6 rc s.1 s.2.2))
    simp only [hb, Option.bind_some]
    have key : b_M_product_6 rc x (zmc (t p)) u = (f_M_byteAt v).bind (fun b => some (.inl (zbin (t p) x y, b, v))) := by
      rcases e with e | e | e
      · have e1 : zmc 42 = (42 : Int32) := rfl
        simp only [b_M_product_6, hf, n1, if_false, e1, if_true, hp, nI_1, hr', Option.bind_some, e, zbin]
        simp
      · have e1 : zmc 47 = (47 : Int32) := rfl
        simp only [b_M_product_6, hf, n1, if_false, e1, if_true, hp, nI_1, hr', Option.bind_some, e, zbin, show ¬ (47 : Int32) = 42 by decide]
        by_cases h2 : y = 0 <;> simp [h2]
      · have e1 : zmc 37 = (37 : Int32) := rfl
        simp only [b_M_product_6, hf, n1, if_false, e1, if_true, hp, nI_1, hr', Option.bind_some, e, zbin, show ¬ (37 : Int32) = 42 by decide, show ¬ (37 : Int32) = 47 by decide]
        by_cases h2 : y = 0 <;> simp [h2]
    rw [ziter_b (B := fun s : Int32 × Int32 × ZSt => b_M_product_6 rc s.1 s.2.1 s.2.2) (s := (x, zmc (t p), u)) key]
    cases f_M_byteAt v <;> rfl
/-- a comparison -/
theorem m_lp_2 {t : Nat → Nat} {n : Nat} (rc : Nat → ZSt → Option (Int32 × ZSt)) (F : Nat) (x : Int32) {u : ZSt} {p : Nat} (h : zMb u t n) (hp : u.1 3918 = nI p) (hpn : p ≤ n) (hf : u.1 3920 = -1) (hz : zlev (t p) = 2) {y : Int32} {v : ZSt} (hr : rc 5 (zs u 3918 (nI (p + 1))) = some (y, v)) : zlp 2 rc F x u = some (zbin (t p) x y, v) := by
  have hb := m_byteAt h hp hpn
  have n1 : ¬ (0 : Int32) ≤ -1 := by decide
  have ops := zlev_ops (show zlev (t p) < 5 by omega)
  have e : t p = 60 ∨ t p = 61 ∨ t p = 62 := by
    rcases ops with e | e | e | e | e | e | e | e | e | e <;> rw [e] at hz <;> first | exact Or.inl e | exact Or.inr (Or.inl e) | exact Or.inr (Or.inr e) | (exact absurd hz (by decide))
  simp only [zlp, show ¬ (2 : Nat) = 0 by decide, show ¬ (2 : Nat) = 1 by decide, if_false, if_true, hb, Option.bind_some, hf, n1, hp, nI_1, hr]
  rcases e with e | e | e
  · have e1 : zmc (t p) = 60 := by rw [e]; rfl
    rw [if_pos e1, e]
  · have e1 : zmc (t p) = 61 := by rw [e]; rfl
    rw [e1, if_neg (by decide), if_pos rfl, e]
  · have e1 : zmc (t p) = 62 := by rw [e]; rfl
    rw [e1, if_neg (by decide), if_neg (by decide), if_pos rfl, e]
