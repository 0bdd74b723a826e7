/-! all that holds between class and reference, over every call -/
theorem zR1.fr {S A L : List Nat} {u v : ZSt} {P : Nat} (h : zR1 u P) (f : zfr S A L u v) (s103 : 103 ∉ S := by decide) (s3906 : 3906 ∉ S := by decide) (a2 : 2 ∉ A := by decide) (a44 : 44 ∉ A := by decide) : zR1 v P := by
  unfold zR1 at h ⊢
  simp only [f.1 103 s103, f.1 3906 s3906, f.2.1 2 a2, f.2.1 44 a44]
  exact h
theorem zR2.fr {S A L : List Nat} {u v : ZSt} {M : Nat} (h : zR2 u M) (f : zfr S A L u v) (s105 : 105 ∉ S := by decide) (s3907 : 3907 ∉ S := by decide) : zR2 v M := by
  unfold zR2 at h ⊢
  simp only [f.1 105 s105, f.1 3907 s3907]
  exact h
theorem zR3.fr {S A L : List Nat} {u v : ZSt} (h : zR3 u) (f : zfr S A L u v) (a4 : 4 ∉ A := by decide) (a40 : 40 ∉ A := by decide) : zR3 v := by
  unfold zR3 at h ⊢
  simp only [f.2.1 4 a4, f.2.1 40 a40]
  exact h
theorem zR4.fr {S A L : List Nat} {u v : ZSt} (h : zR4 u) (f : zfr S A L u v) (s504 : 504 ∉ S := by decide) (s505 : 505 ∉ S := by decide) (s3904 : 3904 ∉ S := by decide) (s3905 : 3905 ∉ S := by decide) (a6 : 6 ∉ A := by decide) (a7 : 7 ∉ A := by decide) (a8 : 8 ∉ A := by decide) (a41 : 41 ∉ A := by decide) (a42 : 42 ∉ A := by decide) (a43 : 43 ∉ A := by decide) : zR4 v := by
  unfold zR4 at h ⊢
  simp only [f.1 504 s504, f.1 505 s505, f.1 3904 s3904, f.1 3905 s3905, f.2.1 6 a6, f.2.1 7 a7, f.2.1 8 a8, f.2.1 41 a41, f.2.1 42 a42, f.2.1 43 a43]
  exact h
theorem zR6.fr {S A L : List Nat} {u v : ZSt} (h : zR6 u) (f : zfr S A L u v) (s106 : 106 ∉ S := by decide) (s107 : 107 ∉ S := by decide) (s3911 : 3911 ∉ S := by decide) (s3912 : 3912 ∉ S := by decide) : zR6 v := by
  unfold zR6 at h ⊢
  simp only [f.1 106 s106, f.1 107 s107, f.1 3911 s3911, f.1 3912 s3912]
  exact h
theorem zR7.fr {S A L : List Nat} {u v : ZSt} (h : zR7 u) (f : zfr S A L u v) (s902 : 902 ∉ S := by decide) (s3914 : 3914 ∉ S := by decide) (a10 : 10 ∉ A := by decide) (a46 : 46 ∉ A := by decide) : zR7 v := by
  unfold zR7 at h ⊢
  simp only [f.1 902 s902, f.1 3914 s3914, f.2.1 10 a10, f.2.1 46 a46]
  exact h
theorem zR8.fr {S A L : List Nat} {u v : ZSt} (h : zR8 u) (f : zfr S A L u v) (s1503 : 1503 ∉ S := by decide) (s3916 : 3916 ∉ S := by decide) (a16 : 16 ∉ A := by decide) (a17 : 17 ∉ A := by decide) (a47 : 47 ∉ A := by decide) : zR8 v := by
  unfold zR8 at h ⊢
  simp only [f.1 1503 s1503, f.1 3916 s3916, f.2.1 16 a16, f.2.1 17 a17, f.2.1 47 a47]
  exact h
theorem zR9.fr {S A L : List Nat} {u v : ZSt} (h : zR9 u) (f : zfr S A L u v) (s3302 : 3302 ∉ S := by decide) (s3931 : 3931 ∉ S := by decide) (a34 : 34 ∉ A := by decide) (a35 : 35 ∉ A := by decide) (a54 : 54 ∉ A := by decide) (a55 : 55 ∉ A := by decide) : zR9 v := by
  unfold zR9 at h ⊢
  simp only [f.1 3302 s3302, f.1 3931 s3931, f.2.1 34 a34, f.2.1 35 a35, f.2.1 54 a54, f.2.1 55 a55]
  exact h
theorem zR10.fr {S A L : List Nat} {u v : ZSt} {B : Nat} (h : zR10 u B) (f : zfr S A L u v) (s3602 : 3602 ∉ S := by decide) (s3932 : 3932 ∉ S := by decide) (s3603 : 3603 ∉ S := by decide) (s3935 : 3935 ∉ S := by decide) (a37 : 37 ∉ A := by decide) (a38 : 38 ∉ A := by decide) (a56 : 56 ∉ A := by decide) (a57 : 57 ∉ A := by decide) : zR10 v B := by
  unfold zR10 at h ⊢
  simp only [f.1 3602 s3602, f.1 3932 s3932, f.1 3603 s3603, f.1 3935 s3935, f.2.1 37 a37, f.2.1 38 a38, f.2.1 56 a56, f.2.1 57 a57]
  exact h
theorem zR11.fr {S A L : List Nat} {u v : ZSt} {B : Nat} (h : zR11 u B) (f : zfr S A L u v) (a28 : 28 ∉ A := by decide) (a29 : 29 ∉ A := by decide) (a30 : 30 ∉ A := by decide) (a58 : 58 ∉ A := by decide) (a59 : 59 ∉ A := by decide) (l31 : 31 ∉ L := by decide) (l60 : 60 ∉ L := by decide) : zR11 v B := by
  intro d hd
  refine (h d hd).of (Nat.le_refl _) hd ?_ ?_ ?_ ?_ ?_ ?_ ?_
  · rw [f.2.1 28 a28]
  · rw [f.2.1 29 a29]
  · rw [f.2.1 30 a30]
  · rw [f.2.1 58 a58]
  · rw [f.2.1 59 a59]
  · intro i _; rw [f.2.2 31 l31]
  · intro i _; rw [f.2.2 60 l60]
theorem zR5.fr {S A L : List Nat} {u v : ZSt} {P : Nat} {adj : Nat → Nat} (h : zR5 u P adj) (f : zfr S A L u v) (s104 : 104 ∉ S := by decide) (s3909 : 3909 ∉ S := by decide) (a3 : 3 ∉ A := by decide) (a45 : 45 ∉ A := by decide) : zR5 v P adj := by
  unfold zR5 at h ⊢
  simp only [f.1 104 s104, f.1 3909 s3909, f.2.1 3 a3, f.2.1 45 a45]
  exact h
theorem zR5.up {u : ZSt} {P Q : Nat} {adj : Nat → Nat} (h : zR5 u P adj) (hPQ : P ≤ Q) : zR5 u Q adj :=
  ⟨fun p => ⟨(h.1 p).1, fun q hq => by have := (h.1 p).2 q hq; exact ⟨by omega, by omega, this.2.2⟩⟩, h.2⟩
theorem zR11.up {u : ZSt} {B C : Nat} (h : zR11 u B) (hBC : B ≤ C) : zR11 u C := fun d hd => (h d hd).of hBC hd rfl rfl rfl rfl rfl (fun _ _ => rfl) (fun _ _ => rfl)
def zINV (u : ZSt) : Prop := ∃ P M B adj, zR1 u P ∧ zR2 u M ∧ zR3 u ∧ zR4 u ∧ zR5 u P adj ∧ zR6 u ∧ zR7 u ∧ zR8 u ∧ zR9 u ∧ zR10 u B ∧ zR11 u B
theorem zINV.sc {u v : ZSt} (h : zINV u) (f : zsc u v) : zINV v := by
  obtain ⟨P, M, B, adj, h1, h2, h3, h4, h5, h6, h7, h8, h9, h10, h11⟩ := h
  unfold zsc at f
  exact ⟨P, M, B, adj, h1.fr f, h2.fr f, h3.fr f, h4.fr f, h5.fr f, h6.fr f, h7.fr f, h8.fr f, h9.fr f, h10.fr f, h11.fr f⟩
theorem z_cmp (x : Int64) : lg_cmp x x = 0 := by
  unfold lg_cmp
  simp only [fa_lt64, fa_eq64, gt_iff_lt, Int.lt_irrefl, if_false, if_true]
theorem zl_end {xL k : Nat} (hL : xL ≤ 3072) (hk : k ≤ 600) : (Int32.ofNat xL - (6 : Int32) < nI (6 * k)) = (xL < 6 * k + 6) := by
  have e := pk_sub_toInt (a := xL) (b := 6) (by omega) (by decide)
  have e' : (Int32.ofNat xL - (6 : Int32)).toInt = (xL : Int) - 6 := e
  rw [fa_lt, e', nI_toInt (by omega)]
  exact propext (by omega)
theorem z_round {xL : Nat} {xs : Nat → Int32} {u : ZSt} {k : Nat} (hL : xL ≤ 3072) (hk : 6 * k + 6 ≤ xL) (h : zINV u) : ∃ u2, b_L_law_10 xL xs (nI (6 * k)) u = some (.inl (nI (6 * (k + 1)), u2)) ∧ zINV u2 := by
  have n1 : ¬ Int32.ofNat xL - (6 : Int32) < nI (6 * k) := by rw [zl_end hL (by omega)]; omega
  have z0 : zin (nI (6 * k)) xL := zn_zin (by omega) (by omega)
  have z1 : zin (nI (6 * k) + 1) xL := by rw [show nI (6 * k) + (1 : Int32) = nI (6 * k + 1) from nI_add (6 * k) 1]; exact zn_zin (by omega) (by omega)
  have z2 : zin (nI (6 * k) + 2) xL := by rw [show nI (6 * k) + (2 : Int32) = nI (6 * k + 2) from nI_add (6 * k) 2]; exact zn_zin (by omega) (by omega)
  have z3 : zin (nI (6 * k) + 3) xL := by rw [show nI (6 * k) + (3 : Int32) = nI (6 * k + 3) from nI_add (6 * k) 3]; exact zn_zin (by omega) (by omega)
  have z4 : zin (nI (6 * k) + 4) xL := by rw [show nI (6 * k) + (4 : Int32) = nI (6 * k + 4) from nI_add (6 * k) 4]; exact zn_zin (by omega) (by omega)
  have z5 : zin (nI (6 * k) + 5) xL := by rw [show nI (6 * k) + (5 : Int32) = nI (6 * k + 5) from nI_add (6 * k) 5]; exact zn_zin (by omega) (by omega)
  have e6 : nI (6 * k) + (6 : Int32) = nI (6 * (k + 1)) := nI_add (6 * k) 6
  unfold b_L_law_10
  rw [if_neg n1, zif z0]
  simp only [zif z1, zif z2, zif z3, zif z4, zif z5, e6]
  generalize xs (nI (6 * k)).toNatClampNeg &&& 63 = op
  generalize xs (nI (6 * k) + 1).toNatClampNeg = A1
  generalize xs (nI (6 * k) + 2).toNatClampNeg = A2
  generalize xs (nI (6 * k) + 3).toNatClampNeg = A3
  generalize xs (nI (6 * k) + 4).toNatClampNeg = A4
  generalize xs (nI (6 * k) + 5).toNatClampNeg = A5
  have hall := h
  obtain ⟨P, M, B, adj, h1, h2, h3, h4, h5, h6, h7, h8, h9, h10, h11⟩ := h
  have hRB : zRB u P M adj := ⟨h1, h2, h3, h5, h6, h8⟩
  by_cases c0 : op = 0
  · rw [if_pos c0]
    obtain ⟨r, u1, u2, P2, e1, e2, g, hle, f⟩ := o_person h1 A1
    exact ⟨u2, by simp only [e1, Option.bind_some, e2, if_true], ⟨P2, M, B, adj, g, h2.fr f, h3.fr f, h4.fr f, (h5.fr f).up hle, h6.fr f, h7.fr f, h8.fr f, h9.fr f, h10.fr f, h11.fr f⟩⟩
  rw [if_neg c0]
  by_cases c1 : op = 1
  · rw [if_pos c1]
    obtain ⟨r, u1, u2, P2, e1, e2, g, hle, f⟩ := o_people h1 h11 A1 A2 A3
    exact ⟨u2, by simp only [e1, Option.bind_some, e2, if_true], ⟨P2, M, B, adj, g, h2.fr f, h3.fr f, h4.fr f, (h5.fr f).up hle, h6.fr f, h7.fr f, h8.fr f, h9.fr f, h10.fr f, h11.fr f⟩⟩
  rw [if_neg c1]
  by_cases c2 : op = 2
  · rw [if_pos c2]
    obtain ⟨r, u1, u2, adj2, e1, e2, g, f⟩ := o_cousins h1 h5 A1
    exact ⟨u2, by simp only [e1, Option.bind_some, e2, if_true], ⟨P, M, B, adj2, h1.fr f, h2.fr f, h3.fr f, h4.fr f, g, h6.fr f, h7.fr f, h8.fr f, h9.fr f, h10.fr f, h11.fr f⟩⟩
  rw [if_neg c2]
  by_cases c3 : op = 3
  · rw [if_pos c3]
    obtain ⟨r, u1, u2, M2, e1, e2, g, g3, hle, f⟩ := o_matter h2 h3
    exact ⟨u2, by simp only [e1, Option.bind_some, e2, if_true], ⟨P, M2, B, adj, h1.fr f, g, g3, h4.fr f, h5.fr f, h6.fr f, h7.fr f, h8.fr f, h9.fr f, h10.fr f, h11.fr f⟩⟩
  rw [if_neg c3]
  by_cases c4 : op = 4
  · rw [if_pos c4]
    obtain ⟨r, u1, u2, e1, e2, g3, g4, f⟩ := o_mend h1 h2 h3 h4 A1 A2 A3
    exact ⟨u2, by simp only [e1, Option.bind_some, e2, if_true], ⟨P, M, B, adj, h1.fr f, h2.fr f, g3, g4, h5.fr f, h6.fr f, h7.fr f, h8.fr f, h9.fr f, h10.fr f, h11.fr f⟩⟩
  rw [if_neg c4]
  by_cases c5 : op = 5
  · rw [if_pos c5]
    obtain ⟨r, u1, u2, e1, e2, g, f⟩ := o_rule h6 A1 A2
    exact ⟨u2, by simp only [e1, Option.bind_some, e2, if_true], ⟨P, M, B, adj, h1.fr f, h2.fr f, h3.fr f, h4.fr f, h5.fr f, g, h7.fr f, h8.fr f, h9.fr f, h10.fr f, h11.fr f⟩⟩
  rw [if_neg c5]
  by_cases c6 : op = 6
  · rw [if_pos c6]
    obtain ⟨r, e1, e2⟩ := o_of h1 h2 h3 h5 A1 A2
    exact ⟨u, by simp only [e1, Option.bind_some, e2, if_true], hall⟩
  rw [if_neg c6]
  by_cases c7 : op = 7
  · rw [if_pos c7]
    obtain ⟨r, u1, u2, e1, e2, g, f⟩ := o_feed h7 A1
    exact ⟨u2, by simp only [e1, Option.bind_some, e2, if_true], ⟨P, M, B, adj, h1.fr f, h2.fr f, h3.fr f, h4.fr f, h5.fr f, h6.fr f, g, h8.fr f, h9.fr f, h10.fr f, h11.fr f⟩⟩
  rw [if_neg c7]
  by_cases c8 : op = 8
  · rw [if_pos c8]
    obtain ⟨r, u1, u2, e1, e2, g, g8, f⟩ := o_law h7 h8
    exact ⟨u2, by simp only [e1, Option.bind_some, e2, if_true], ⟨P, M, B, adj, h1.fr f, h2.fr f, h3.fr f, h4.fr f, h5.fr f, h6.fr f, g, g8, h9.fr f, h10.fr f, h11.fr f⟩⟩
  rw [if_neg c8]
  by_cases c9 : op = 9
  · rw [if_pos c9]
    obtain ⟨r, u1, u2, e1, e2, f⟩ := o_may hRB A1 A2 A3
    exact ⟨u2, by simp only [e1, Option.bind_some, e2, if_true], hall.sc f⟩
  rw [if_neg c9]
  by_cases c10 : op = 10
  · rw [if_pos c10]
    obtain ⟨r, u1, u2, e1, e2, f⟩ := o_vote hRB A1 A2 A3
    exact ⟨u2, by simp only [e1, Option.bind_some, e2, if_true], hall.sc f⟩
  rw [if_neg c10]
  by_cases c11 : op = 11
  · rw [if_pos c11]
    obtain ⟨r, u1, u2, e1, e2, f⟩ := o_together hRB A1
    exact ⟨u2, by simp only [e1, Option.bind_some, e2, if_true], hall.sc f⟩
  rw [if_neg c11]
  by_cases c12 : op = 12
  · rw [if_pos c12]
    obtain ⟨r, u1, u2, e1, e2, f⟩ := o_silenced hRB A1 A2
    exact ⟨u2, by simp only [e1, Option.bind_some, e2, if_true], hall.sc f⟩
  rw [if_neg c12]
  by_cases c13 : op = 13
  · rw [if_pos c13]
    obtain ⟨r, u1, u2, e1, e2, f⟩ := o_leaveOut hRB A1 A2
    exact ⟨u2, by simp only [e1, Option.bind_some, e2, if_true], hall.sc f⟩
  rw [if_neg c13]
  by_cases c14 : op = 14
  · rw [if_pos c14]
    obtain ⟨r, u1, u2, e1, e2, f⟩ := o_alone hRB
    exact ⟨u2, by simp only [e1, Option.bind_some, e2, if_true], hall.sc f⟩
  rw [if_neg c14]
  by_cases c15 : op = 15
  · rw [if_pos c15]
    obtain ⟨r, u1, u2, e1, e2, f⟩ := o_parted hRB A1
    exact ⟨u2, by simp only [e1, Option.bind_some, e2, if_true], hall.sc f⟩
  rw [if_neg c15]
  by_cases c16 : op = 16
  · rw [if_pos c16]
    obtain ⟨r, u1, u2, e1, e2, f⟩ := o_say hRB A1 A2
    exact ⟨u2, by simp only [e1, Option.bind_some, e2, if_true], hall.sc f⟩
  rw [if_neg c16]
  by_cases c17 : op = 17
  · rw [if_pos c17]
    obtain ⟨r, u1, u2, e1, e2, f⟩ := o_hermit hRB
    exact ⟨u2, by simp only [e1, Option.bind_some, e2, if_true], hall.sc f⟩
  rw [if_neg c17]
  by_cases c18 : op = 18
  · rw [if_pos c18]
    obtain ⟨r, u1, u2, e1, e2, f⟩ := o_chance hRB A1 A2
    exact ⟨u2, by simp only [e1, Option.bind_some, e2, if_true], hall.sc f⟩
  rw [if_neg c18]
  by_cases c19 : op = 19
  · rw [if_pos c19]
    obtain ⟨r, u1, u2, e1, e2, f⟩ := o_lies hRB A1
    exact ⟨u2, by simp only [e1, Option.bind_some, e2, if_true], hall.sc f⟩
  rw [if_neg c19]
  by_cases c20 : op = 20
  · rw [if_pos c20]
    obtain ⟨r, u1, u2, e1, e2, f⟩ := o_step hRB A1 A2
    exact ⟨u2, by simp only [e1, Option.bind_some, e2, if_true], hall.sc f⟩
  rw [if_neg c20]
  by_cases c21 : op = 21
  · rw [if_pos c21]
    obtain ⟨r, u2, e1, e2, f⟩ := o_lots hRB A1 A2 A3
    exact ⟨u2, by simp only [e1, Option.bind_some, e2, if_true], hall.sc f⟩
  rw [if_neg c21]
  by_cases c22 : op = 22
  · rw [if_pos c22]
    obtain ⟨r, u1, u2, e1, e2, f⟩ := o_judge hRB h11 A1
    exact ⟨u2, by simp only [e1, Option.bind_some, e2, if_true], hall.sc f⟩
  rw [if_neg c22]
  by_cases c23 : op = 23
  · rw [if_pos c23]
    obtain ⟨r, e1, e2⟩ := o_must hRB h11 A1 A2
    exact ⟨u, by simp only [e1, Option.bind_some, e2, if_true], hall⟩
  rw [if_neg c23]
  by_cases c24 : op = 24
  · rw [if_pos c24]
    obtain ⟨r, u1, u2, e1, e2, g, f⟩ := o_decide hRB h9 A1 A2
    unfold zsd at f
    exact ⟨u2, by simp only [e1, Option.bind_some, e2, if_true], ⟨P, M, B, adj, h1.fr f, h2.fr f, h3.fr f, h4.fr f, h5.fr f, h6.fr f, h7.fr f, h8.fr f, g, h10.fr f, h11.fr f⟩⟩
  rw [if_neg c24]
  by_cases c25 : op = 25
  · rw [if_pos c25]
    obtain ⟨r, e1, e2⟩ := o_led h9 A1
    exact ⟨u, by simp only [e1, Option.bind_some, e2, if_true], hall⟩
  rw [if_neg c25]
  by_cases c26 : op = 26
  · rw [if_pos c26]
    obtain ⟨r, u1, u2, e1, e2, g, f⟩ := o_image h9
    exact ⟨u2, by simp only [e1, Option.bind_some, e2, if_true], ⟨P, M, B, adj, h1.fr f, h2.fr f, h3.fr f, h4.fr f, h5.fr f, h6.fr f, h7.fr f, h8.fr f, g, h10.fr f, h11.fr f⟩⟩
  rw [if_neg c26]
  by_cases c27 : op = 27
  · rw [if_pos c27]
    obtain ⟨r, u1, u2, e1, e2, g, f⟩ := o_back h9
    exact ⟨u2, by simp only [e1, Option.bind_some, e2, if_true], ⟨P, M, B, adj, h1.fr f, h2.fr f, h3.fr f, h4.fr f, h5.fr f, h6.fr f, h7.fr f, h8.fr f, g, h10.fr f, h11.fr f⟩⟩
  rw [if_neg c27]
  by_cases c28 : op = 28
  · rw [if_pos c28]
    obtain ⟨r, u1, u2, e1, e2, g3, g4, f⟩ := o_undo h3 h4
    exact ⟨u2, by simp only [e1, Option.bind_some, e2, if_true], ⟨P, M, B, adj, h1.fr f, h2.fr f, g3, g4, h5.fr f, h6.fr f, h7.fr f, h8.fr f, h9.fr f, h10.fr f, h11.fr f⟩⟩
  rw [if_neg c28]
  by_cases c29 : op = 29
  · rw [if_pos c29]
    obtain ⟨r, u1, u2, e1, e2, g3, g4, f⟩ := o_redo h3 h4
    exact ⟨u2, by simp only [e1, Option.bind_some, e2, if_true], ⟨P, M, B, adj, h1.fr f, h2.fr f, g3, g4, h5.fr f, h6.fr f, h7.fr f, h8.fr f, h9.fr f, h10.fr f, h11.fr f⟩⟩
  rw [if_neg c29]
  by_cases c30 : op = 30
  · rw [if_pos c30]
    obtain ⟨r, u1, u2, B2, e1, e2, g, hle, f⟩ := o_body h10 A1
    exact ⟨u2, by simp only [e1, Option.bind_some, e2, if_true], ⟨P, M, B2, adj, h1.fr f, h2.fr f, h3.fr f, h4.fr f, h5.fr f, h6.fr f, h7.fr f, h8.fr f, h9.fr f, g, (h11.fr f).up hle⟩⟩
  rw [if_neg c30]
  by_cases c31 : op = 31
  · rw [if_pos c31]
    obtain ⟨r, u1, u2, e1, e2, g, f⟩ := o_act h10 A1 A2 A3
    exact ⟨u2, by simp only [e1, Option.bind_some, e2, if_true], ⟨P, M, B, adj, h1.fr f, h2.fr f, h3.fr f, h4.fr f, h5.fr f, h6.fr f, h7.fr f, h8.fr f, h9.fr f, g, h11.fr f⟩⟩
  rw [if_neg c31]
  by_cases c32 : op = 32
  · rw [if_pos c32]
    obtain ⟨r, e1, e2⟩ := o_trace h10 A1
    exact ⟨u, by simp only [e1, Option.bind_some, e2, if_true], hall⟩
  rw [if_neg c32]
  by_cases c33 : op = 33
  · rw [if_pos c33]
    obtain ⟨r, u1, u2, e1, e2, g, f⟩ := o_keep h11 h10 A1 A2
    exact ⟨u2, by simp only [e1, Option.bind_some, e2, if_true], ⟨P, M, B, adj, h1.fr f, h2.fr f, h3.fr f, h4.fr f, h5.fr f, h6.fr f, h7.fr f, h8.fr f, h9.fr f, h10.fr f, g⟩⟩
  rw [if_neg c33]
  by_cases c34 : op = 34
  · rw [if_pos c34]
    obtain ⟨r, u1, u2, e1, e2, g, f⟩ := o_row h11 A1 A2 A3
    exact ⟨u2, by simp only [e1, Option.bind_some, e2, if_true], ⟨P, M, B, adj, h1.fr f, h2.fr f, h3.fr f, h4.fr f, h5.fr f, h6.fr f, h7.fr f, h8.fr f, h9.fr f, h10.fr f, g⟩⟩
  rw [if_neg c34]
  by_cases c35 : op = 35
  · rw [if_pos c35]
    obtain ⟨r, u1, u2, e1, e2, g, f⟩ := o_put h11 A1 A2 (((A3.toInt64) <<< ((32 : Int32).toInt64 &&& 63)) ||| ((A4.toInt64) &&& (4294967295 : Int64)))
    exact ⟨u2, by simp only [e1, Option.bind_some, e2, if_true], ⟨P, M, B, adj, h1.fr f, h2.fr f, h3.fr f, h4.fr f, h5.fr f, h6.fr f, h7.fr f, h8.fr f, h9.fr f, h10.fr f, g⟩⟩
  rw [if_neg c35]
  by_cases c36 : op = 36
  · rw [if_pos c36]
    obtain ⟨r, e1, e2⟩ := o_element h11 A1 A2
    exact ⟨u, by simp only [e1, Option.bind_some, e2, z_cmp, if_true], hall⟩
  rw [if_neg c36]
  by_cases c37 : op = 37
  · rw [if_pos c37]
    obtain ⟨r, u1, u2, e1, e2, g, f⟩ := o_shift h11 A1 A2 A3 A4 A5
    exact ⟨u2, by simp only [e1, Option.bind_some, e2, if_true], ⟨P, M, B, adj, h1.fr f, h2.fr f, h3.fr f, h4.fr f, h5.fr f, h6.fr f, h7.fr f, h8.fr f, h9.fr f, h10.fr f, g⟩⟩
  rw [if_neg c37]
  by_cases c38 : op = 38
  · rw [if_pos c38]
    obtain ⟨r, e1, e2⟩ := o_taken h11 h10 A1 A2
    exact ⟨u, by simp only [e1, Option.bind_some, e2, if_true], hall⟩
  rw [if_neg c38]
  by_cases c39 : op = 39
  · rw [if_pos c39]
    obtain ⟨r, e1, e2⟩ := o_count h1 h2 h4 h5 h7 h10 A1
    exact ⟨u, by simp only [e1, Option.bind_some, e2, if_true], hall⟩
  rw [if_neg c39]
  exact ⟨u, rfl, hall⟩
/-- the law over numbers answers 1 -/
theorem z_law {xL : Nat} {xs : Nat → Int32} {u : ZSt} (hL : xL ≤ 3072) (h : zINV u) : ∃ v, f_L_law xL xs u = some (1, v) := by
  obtain ⟨v, v1, v2⟩ := zit_f (B := fun s : Int32 × ZSt => b_L_law_10 xL xs s.1 s.2) (α := Unit) (fun k _ v => (nI (6 * k), v)) (fun _ v => .inl (nI (6 * (xL / 6)), v))
    (fun k _ v => zINV v) (fun _ x => x) (a := 0) (n := xL / 6) (x := ()) (v := u) (Nat.zero_le _) (by omega)
    (by
      rintro k - v - hk hv
      exact z_round hL (by omega) hv)
    (by
      rintro - v -
      have n1 : Int32.ofNat xL - (6 : Int32) < nI (6 * (xL / 6)) := by rw [zl_end hL (by omega)]; omega
      simp only [b_L_law_10, n1, if_true])
    h
  have v1' : ziter (fun s : Int32 × ZSt => b_L_law_10 xL xs s.1 s.2) zfu (0, u) = some (.inl (nI (6 * (xL / 6)), v)) := v1
  exact ⟨v, by simp only [f_L_law, v1', Option.bind_some, Sum.elim_inl, a_L_law_10]⟩
