/-! by program (gen54.py): the constructors: methods, walks, contracts -/
abbrev yr (n : Nat) : YE := .inr (0, n, fun _ => 0)
abbrev yrL (n : Nat) : YE := .inr (1, n, fun _ => 0)
abbrev yrB (n : Nat) : YE := .inr (2, n, fun _ => 0)
def ystep (j : Nat) : Int32 := if j / 10 = j % 10 then 0 else 9
def yst (k : Nat) : Nat → Int32 := fun j => if j < k then ystep j else 0
def ymin (k : Nat) : Nat → Int32 := fun j => if j < k then -1 else 0
theorem yst_up {k : Nat} : upd (yst k) k (ystep k) = yst (k + 1) := by
  funext j
  simp only [upd, yst]
  by_cases h : j = k
  · subst h
    simp
  · rw [if_neg h]
    by_cases h2 : j < k
    · rw [if_pos h2, if_pos (by omega)]
    · rw [if_neg h2, if_neg (by omega)]
theorem ymin_up {k : Nat} : upd (ymin k) k (-1) = ymin (k + 1) := by
  funext j
  simp only [upd, ymin]
  by_cases h : j = k
  · subst h
    simp
  · rw [if_neg h]
    by_cases h2 : j < k
    · rw [if_pos h2, if_pos (by omega)]
    · rw [if_neg h2, if_neg (by omega)]
theorem yst_0 : (fun _ => 0 : Nat → Int32) = yst 0 := by funext j; simp [yst]
theorem ymin_0 : (fun _ => 0 : Nat → Int32) = ymin 0 := by funext j; simp [ymin]
theorem y_dia : ∀ k, k < 100 → ((nI k / 10 = zrem (nI k) 10) ↔ k / 10 = k % 10) := by decide +kernel
theorem y_eqs {Y : YC} {M : ZM} {d n0 i nc ns nc' ns' : Nat} {F : YF} {lv : List (Nat × Value)} {st : List Value} {es es' : List YE} (he : es = es') (hc : nc = nc') (hn : ns = ns') (h : YW Y M d n0 F i lv st es' nc' ns') : YW Y M d n0 F i lv st es nc ns := by
  subst he hc hn
  exact h
theorem yb_0 : yblank 0 = [.null, .null, .null, .null, .int 0] := by decide +kernel
theorem yb_1 : yblank 1 = [.null, .null, .null, .null, .int 0, .int 0] := by decide +kernel
theorem yb_2 : yblank 2 = [.null, .null, .null, .int 0] := by decide +kernel
theorem yb_3 : yblank 3 = [.null, .null, .null, .int 0, .int 0, .int 0, .int 0, .int 0] := by decide +kernel
theorem yb_4 : yblank 4 = [.null, .null, .int 0] := by decide +kernel
theorem yb_5 : yblank 5 = [.null, .null, .null, .null, .null, .null] := by decide +kernel
theorem yb_6 : yblank 6 = [.null, .null, .int 0, .int 0] := by decide +kernel
theorem yb_7 : yblank 7 = [.null, .null, .null, .null] := by decide +kernel
theorem yb_8 : yblank 8 = [.null, .null, .int 0, .int 0] := by decide +kernel
theorem yb_9 : yblank 9 = [.null, .null, .null] := by decide +kernel
theorem yb_10 : yblank 10 = [.null, .null, .null, .null, .null, .null, .null, .null, .null, .null] := by decide +kernel
theorem yb_11 : yblank 11 = [.null, .null, .null, .null, .int 0, .int 0, .int 0, .int 0, .null, .int 0, .null, .int 0, .int 0, .null, .int 0, .null, .int 0, .int 0, .int 0, .int 0, .int 0, .int 0, .null, .null, .null, .int 0, .null, .null, .null, .null, .null, .int 0, .int 0, .null, .null, .int 0, .int 0, .int 0, .null, .null, .null, .null] := by decide +kernel
def m_Y0 : ZM := (yX0_init, cX0_init, 3, none, [(0, .aload_n 0, 1, 0), (1, .invokespecial 3, 3, 0), (4, .aload_n 0, 1, 0), (5, .bipush 10, 2, 0), (7, .newarray .int, 2, 0), (9, .putfield 9, 3, 0), (12, .aload_n 0, 1, 0), (13, .bipush 6, 2, 0), (15, .newarray .int, 2, 0), (17, .putfield 15, 3, 0), (20, .aload_n 0, 1, 0), (21, .aload_n 1, 1, 0), (22, .putfield 18, 3, 0), (25, .aload_n 0, 1, 0), (26, .aload_n 2, 1, 0), (27, .putfield 22, 3, 0), (30, .return_, 1, 0)])
theorem ky_0 : zchk m_Y0 = true := by decide +kernel
theorem vy_0 : yCW m_Y0 2 := ⟨⟨(List.mem_of_getElem? (i := 206) (by decide +kernel)), (List.mem_of_getElem? (i := 75) (by decide +kernel)), by decide +kernel, by decide +kernel, by decide⟩, rfl, rfl, (List.mem_of_getElem? (i := 205) (by decide +kernel))⟩
def m_Y1 : ZM := (yX1_init, cX1_init, 2, none, [(0, .aload_n 0, 1, 0), (1, .invokespecial 1, 3, 0), (4, .aload_n 0, 1, 0), (5, .bipush 40, 2, 0), (7, .newarray .int, 2, 0), (9, .putfield 9, 3, 0), (12, .aload_n 0, 1, 0), (13, .bipush 40, 2, 0), (15, .newarray .int, 2, 0), (17, .putfield 13, 3, 0), (20, .aload_n 0, 1, 0), (21, .bipush 40, 2, 0), (23, .newarray .int, 2, 0), (25, .putfield 16, 3, 0), (28, .aload_n 0, 1, 0), (29, .aload_n 1, 1, 0), (30, .putfield 19, 3, 0), (33, .return_, 1, 0)])
theorem ky_1 : zchk m_Y1 = true := by decide +kernel
theorem vy_1 : yCW m_Y1 1 := ⟨⟨(List.mem_of_getElem? (i := 139) (by decide +kernel)), (List.mem_of_getElem? (i := 72) (by decide +kernel)), by decide +kernel, by decide +kernel, by decide⟩, rfl, rfl, (List.mem_of_getElem? (i := 138) (by decide +kernel))⟩
def m_Y2 : ZM := (yX2_init, cX2_init, 1, none, [(0, .aload_n 0, 1, 0), (1, .invokespecial 1, 3, 0), (4, .aload_n 0, 1, 0), (5, .sipush 128, 3, 0), (8, .newarray .int, 2, 0), (10, .putfield 9, 3, 0), (13, .aload_n 0, 1, 0), (14, .sipush 128, 3, 0), (17, .newarray .int, 2, 0), (19, .putfield 13, 3, 0), (22, .aload_n 0, 1, 0), (23, .sipush 128, 3, 0), (26, .newarray .int, 2, 0), (28, .putfield 16, 3, 0), (31, .return_, 1, 0)])
theorem ky_2 : zchk m_Y2 = true := by decide +kernel
theorem vy_2 : yCW m_Y2 0 := ⟨⟨(List.mem_of_getElem? (i := 170) (by decide +kernel)), (List.mem_of_getElem? (i := 74) (by decide +kernel)), by decide +kernel, by decide +kernel, by decide⟩, rfl, rfl, (List.mem_of_getElem? (i := 169) (by decide +kernel))⟩
def m_Y3 : ZM := (yX3_init, cX3_init, 2, none, [(0, .aload_n 0, 1, 0), (1, .invokespecial 3, 3, 0), (4, .aload_n 0, 1, 0), (5, .bipush 10, 2, 0), (7, .newarray .int, 2, 0), (9, .putfield 9, 3, 0), (12, .aload_n 0, 1, 0), (13, .bipush 100, 2, 0), (15, .newarray .int, 2, 0), (17, .putfield 15, 3, 0), (20, .aload_n 0, 1, 0), (21, .sipush 206, 3, 0), (24, .newarray .int, 2, 0), (26, .putfield 18, 3, 0), (29, .aload_n 0, 1, 0), (30, .iconst 1, 1, 0), (31, .putfield 21, 3, 0), (34, .aload_n 0, 1, 0), (35, .iconst 1, 1, 0), (36, .putfield 25, 3, 0), (39, .iconst 0, 1, 0), (40, .istore_n 1, 1, 0), (41, .iload_n 1, 1, 0), (42, .bipush 100, 2, 0), (44, .if_icmp .ge 32, 3, 41), (47, .aload_n 0, 1, 0), (48, .getfield 15, 3, 0), (51, .iload_n 1, 1, 0), (52, .iload_n 1, 1, 0), (53, .bipush 10, 2, 0), (55, .idiv, 1, 0), (56, .iload_n 1, 1, 0), (57, .bipush 10, 2, 0), (59, .irem, 1, 0), (60, .if_icmp .ne 7, 3, 37), (63, .iconst 0, 1, 0), (64, .goto 5, 3, 38), (67, .bipush 9, 2, 0), (69, .iastore, 1, 0), (70, .iinc 1 1, 3, 0), (73, .goto (-32), 3, 22), (76, .return_, 1, 0)])
theorem ky_3 : zchk m_Y3 = true := by decide +kernel
theorem vy_3 : yCW m_Y3 0 := ⟨⟨(List.mem_of_getElem? (i := 97) (by decide +kernel)), (List.mem_of_getElem? (i := 71) (by decide +kernel)), by decide +kernel, by decide +kernel, by decide⟩, rfl, rfl, (List.mem_of_getElem? (i := 96) (by decide +kernel))⟩
def m_Y4 : ZM := (yX4_init, cX4_init, 1, none, [(0, .aload_n 0, 1, 0), (1, .invokespecial 3, 3, 0), (4, .aload_n 0, 1, 0), (5, .bipush 6, 2, 0), (7, .newarray .int, 2, 0), (9, .putfield 11, 3, 0), (12, .aload_n 0, 1, 0), (13, .bipush 6, 2, 0), (15, .newarray .int, 2, 0), (17, .putfield 15, 3, 0), (20, .return_, 1, 0)])
theorem ky_4 : zchk m_Y4 = true := by decide +kernel
theorem vy_4 : yCW m_Y4 0 := ⟨⟨(List.mem_of_getElem? (i := 289) (by decide +kernel)), (List.mem_of_getElem? (i := 79) (by decide +kernel)), by decide +kernel, by decide +kernel, by decide⟩, rfl, rfl, (List.mem_of_getElem? (i := 288) (by decide +kernel))⟩
def m_Y5 : ZM := (yX5_init, cX5_init, 3, none, [(0, .aload_n 0, 1, 0), (1, .invokespecial 3, 3, 0), (4, .aload_n 0, 1, 0), (5, .bipush 10, 2, 0), (7, .newarray .int, 2, 0), (9, .putfield 9, 3, 0), (12, .aload_n 0, 1, 0), (13, .bipush 64, 2, 0), (15, .newarray .int, 2, 0), (17, .putfield 15, 3, 0), (20, .aload_n 0, 1, 0), (21, .bipush 64, 2, 0), (23, .newarray .int, 2, 0), (25, .putfield 18, 3, 0), (28, .aload_n 0, 1, 0), (29, .bipush 64, 2, 0), (31, .newarray .int, 2, 0), (33, .putfield 21, 3, 0), (36, .aload_n 0, 1, 0), (37, .aload_n 1, 1, 0), (38, .putfield 24, 3, 0), (41, .aload_n 0, 1, 0), (42, .aload_n 2, 1, 0), (43, .putfield 28, 3, 0), (46, .return_, 1, 0)])
theorem ky_5 : zchk m_Y5 = true := by decide +kernel
theorem vy_5 : yCW m_Y5 2 := ⟨⟨(List.mem_of_getElem? (i := 228) (by decide +kernel)), (List.mem_of_getElem? (i := 76) (by decide +kernel)), by decide +kernel, by decide +kernel, by decide⟩, rfl, rfl, (List.mem_of_getElem? (i := 227) (by decide +kernel))⟩
def m_Y6 : ZM := (yX6_init, cX6_init, 1, none, [(0, .aload_n 0, 1, 0), (1, .invokespecial 3, 3, 0), (4, .aload_n 0, 1, 0), (5, .bipush 120, 2, 0), (7, .newarray .int, 2, 0), (9, .putfield 11, 3, 0), (12, .aload_n 0, 1, 0), (13, .new 15, 3, 0), (16, .dup, 1, 0), (17, .invokespecial 17, 3, 0), (20, .putfield 18, 3, 0), (23, .return_, 1, 0)])
theorem ky_6 : zchk m_Y6 = true := by decide +kernel
theorem vy_6 : yCW m_Y6 0 := ⟨⟨(List.mem_of_getElem? (i := 164) (by decide +kernel)), (List.mem_of_getElem? (i := 73) (by decide +kernel)), by decide +kernel, by decide +kernel, by decide⟩, rfl, rfl, (List.mem_of_getElem? (i := 163) (by decide +kernel))⟩
def m_Y7 : ZM := (yX7_init, cX7_init, 2, none, [(0, .aload_n 0, 1, 0), (1, .invokespecial 3, 3, 0), (4, .aload_n 0, 1, 0), (5, .bipush 6, 2, 0), (7, .newarray .int, 2, 0), (9, .putfield 11, 3, 0), (12, .aload_n 0, 1, 0), (13, .bipush 6, 2, 0), (15, .newarray .int, 2, 0), (17, .putfield 15, 3, 0), (20, .aload_n 0, 1, 0), (21, .bipush 6, 2, 0), (23, .newarray .int, 2, 0), (25, .putfield 18, 3, 0), (28, .aload_n 0, 1, 0), (29, .sipush 360, 3, 0), (32, .newarray .long, 2, 0), (34, .putfield 21, 3, 0), (37, .iconst 0, 1, 0), (38, .istore_n 1, 1, 0), (39, .iload_n 1, 1, 0), (40, .bipush 6, 2, 0), (42, .if_icmp .ge 16, 3, 30), (45, .aload_n 0, 1, 0), (46, .getfield 11, 3, 0), (49, .iload_n 1, 1, 0), (50, .iconst (-1), 1, 0), (51, .iastore, 1, 0), (52, .iinc 1 1, 3, 0), (55, .goto (-16), 3, 20), (58, .return_, 1, 0)])
theorem ky_7 : zchk m_Y7 = true := by decide +kernel
theorem vy_7 : yCW m_Y7 0 := ⟨⟨(List.mem_of_getElem? (i := 253) (by decide +kernel)), (List.mem_of_getElem? (i := 77) (by decide +kernel)), by decide +kernel, by decide +kernel, by decide⟩, rfl, rfl, (List.mem_of_getElem? (i := 252) (by decide +kernel))⟩
def m_Y8 : ZM := (yX8_init, cX8_init, 1, none, [(0, .aload_n 0, 1, 0), (1, .invokespecial 3, 3, 0), (4, .aload_n 0, 1, 0), (5, .bipush 50, 2, 0), (7, .newarray .int, 2, 0), (9, .putfield 11, 3, 0), (12, .aload_n 0, 1, 0), (13, .bipush 24, 2, 0), (15, .newarray .int, 2, 0), (17, .putfield 15, 3, 0), (20, .return_, 1, 0)])
theorem ky_8 : zchk m_Y8 = true := by decide +kernel
theorem vy_8 : yCW m_Y8 0 := ⟨⟨(List.mem_of_getElem? (i := 305) (by decide +kernel)), (List.mem_of_getElem? (i := 80) (by decide +kernel)), by decide +kernel, by decide +kernel, by decide⟩, rfl, rfl, (List.mem_of_getElem? (i := 304) (by decide +kernel))⟩
def m_Y9 : ZM := (yX9_init, cX9_init, 4, none, [(0, .aload_n 0, 1, 0), (1, .invokespecial 3, 3, 0), (4, .aload_n 0, 1, 0), (5, .aload_n 1, 1, 0), (6, .putfield 9, 3, 0), (9, .aload_n 0, 1, 0), (10, .aload_n 2, 1, 0), (11, .putfield 15, 3, 0), (14, .aload_n 0, 1, 0), (15, .aload_n 3, 1, 0), (16, .putfield 19, 3, 0), (19, .return_, 1, 0)])
theorem ky_9 : zchk m_Y9 = true := by decide +kernel
theorem vy_9 : yCW m_Y9 3 := ⟨⟨(List.mem_of_getElem? (i := 273) (by decide +kernel)), (List.mem_of_getElem? (i := 78) (by decide +kernel)), by decide +kernel, by decide +kernel, by decide⟩, rfl, rfl, (List.mem_of_getElem? (i := 272) (by decide +kernel))⟩
def m_Y10 : ZM := (yX10_init, cX10_init, 1, none, [(0, .aload_n 0, 1, 0), (1, .invokespecial 1, 3, 0), (4, .aload_n 0, 1, 0), (5, .new 7, 3, 0), (8, .dup, 1, 0), (9, .invokespecial 9, 3, 0), (12, .putfield 10, 3, 0), (15, .aload_n 0, 1, 0), (16, .new 16, 3, 0), (19, .dup, 1, 0), (20, .aload_n 0, 1, 0), (21, .getfield 10, 3, 0), (24, .invokespecial 18, 3, 0), (27, .putfield 21, 3, 0), (30, .aload_n 0, 1, 0), (31, .new 25, 3, 0), (34, .dup, 1, 0), (35, .invokespecial 27, 3, 0), (38, .putfield 28, 3, 0), (41, .aload_n 0, 1, 0), (42, .new 32, 3, 0), (45, .dup, 1, 0), (46, .invokespecial 34, 3, 0), (49, .putfield 35, 3, 0), (52, .aload_n 0, 1, 0), (53, .new 39, 3, 0), (56, .dup, 1, 0), (57, .aload_n 0, 1, 0), (58, .getfield 10, 3, 0), (61, .aload_n 0, 1, 0), (62, .getfield 35, 3, 0), (65, .invokespecial 41, 3, 0), (68, .putfield 44, 3, 0), (71, .aload_n 0, 1, 0), (72, .new 48, 3, 0), (75, .dup, 1, 0), (76, .aload_n 0, 1, 0), (77, .getfield 10, 3, 0), (80, .aload_n 0, 1, 0), (81, .getfield 44, 3, 0), (84, .invokespecial 50, 3, 0), (87, .putfield 53, 3, 0), (90, .aload_n 0, 1, 0), (91, .new 57, 3, 0), (94, .dup, 1, 0), (95, .invokespecial 59, 3, 0), (98, .putfield 60, 3, 0), (101, .aload_n 0, 1, 0), (102, .new 64, 3, 0), (105, .dup, 1, 0), (106, .aload_n 0, 1, 0), (107, .getfield 10, 3, 0), (110, .aload_n 0, 1, 0), (111, .getfield 44, 3, 0), (114, .aload_n 0, 1, 0), (115, .getfield 60, 3, 0), (118, .invokespecial 66, 3, 0), (121, .putfield 69, 3, 0), (124, .aload_n 0, 1, 0), (125, .new 73, 3, 0), (128, .dup, 1, 0), (129, .invokespecial 75, 3, 0), (132, .putfield 76, 3, 0), (135, .aload_n 0, 1, 0), (136, .new 80, 3, 0), (139, .dup, 1, 0), (140, .invokespecial 82, 3, 0), (143, .putfield 83, 3, 0), (146, .return_, 1, 0)])
theorem ky_10 : zchk m_Y10 = true := by decide +kernel
theorem vy_10 : yCW m_Y10 0 := ⟨⟨(List.mem_of_getElem? (i := 89) (by decide +kernel)), (List.mem_of_getElem? (i := 70) (by decide +kernel)), by decide +kernel, by decide +kernel, by decide⟩, rfl, rfl, (List.mem_of_getElem? (i := 88) (by decide +kernel))⟩
def m_Y11 : ZM := (yX11_init, cX11_init, 2, none, [(0, .aload_n 0, 1, 0), (1, .invokespecial 3, 3, 0), (4, .aload_n 0, 1, 0), (5, .bipush 126, 2, 0), (7, .newarray .int, 2, 0), (9, .putfield 9, 3, 0), (12, .aload_n 0, 1, 0), (13, .bipush 40, 2, 0), (15, .newarray .int, 2, 0), (17, .putfield 13, 3, 0), (20, .aload_n 0, 1, 0), (21, .bipush 40, 2, 0), (23, .newarray .int, 2, 0), (25, .putfield 16, 3, 0), (28, .aload_n 0, 1, 0), (29, .bipush 40, 2, 0), (31, .newarray .int, 2, 0), (33, .putfield 19, 3, 0), (36, .aload_n 0, 1, 0), (37, .bipush 10, 2, 0), (39, .newarray .int, 2, 0), (41, .putfield 22, 3, 0), (44, .aload_n 0, 1, 0), (45, .bipush 10, 2, 0), (47, .newarray .int, 2, 0), (49, .putfield 25, 3, 0), (52, .aload_n 0, 1, 0), (53, .bipush 120, 2, 0), (55, .newarray .int, 2, 0), (57, .putfield 28, 3, 0), (60, .aload_n 0, 1, 0), (61, .bipush 120, 2, 0), (63, .newarray .int, 2, 0), (65, .putfield 31, 3, 0), (68, .aload_n 0, 1, 0), (69, .bipush 6, 2, 0), (71, .newarray .int, 2, 0), (73, .putfield 34, 3, 0), (76, .aload_n 0, 1, 0), (77, .bipush 10, 2, 0), (79, .newarray .int, 2, 0), (81, .putfield 37, 3, 0), (84, .aload_n 0, 1, 0), (85, .bipush 10, 2, 0), (87, .newarray .int, 2, 0), (89, .putfield 40, 3, 0), (92, .aload_n 0, 1, 0), (93, .bipush 64, 2, 0), (95, .newarray .boolean, 2, 0), (97, .putfield 43, 3, 0), (100, .aload_n 0, 1, 0), (101, .bipush 64, 2, 0), (103, .newarray .int, 2, 0), (105, .putfield 47, 3, 0), (108, .aload_n 0, 1, 0), (109, .bipush 64, 2, 0), (111, .newarray .int, 2, 0), (113, .putfield 50, 3, 0), (116, .aload_n 0, 1, 0), (117, .iconst 5, 1, 0), (118, .newarray .int, 2, 0), (120, .putfield 53, 3, 0), (123, .aload_n 0, 1, 0), (124, .iconst 5, 1, 0), (125, .newarray .int, 2, 0), (127, .putfield 56, 3, 0), (130, .aload_n 0, 1, 0), (131, .bipush 50, 2, 0), (133, .newarray .int, 2, 0), (135, .putfield 59, 3, 0), (138, .aload_n 0, 1, 0), (139, .bipush 24, 2, 0), (141, .newarray .int, 2, 0), (143, .putfield 62, 3, 0), (146, .aload_n 0, 1, 0), (147, .bipush 6, 2, 0), (149, .newarray .int, 2, 0), (151, .putfield 65, 3, 0), (154, .aload_n 0, 1, 0), (155, .bipush 6, 2, 0), (157, .newarray .int, 2, 0), (159, .putfield 68, 3, 0), (162, .aload_n 0, 1, 0), (163, .sipush 360, 3, 0), (166, .newarray .long, 2, 0), (168, .putfield 71, 3, 0), (171, .aload_n 0, 1, 0), (172, .bipush 60, 2, 0), (174, .newarray .long, 2, 0), (176, .putfield 75, 3, 0), (179, .iconst 0, 1, 0), (180, .istore_n 1, 1, 0), (181, .iload_n 1, 1, 0), (182, .bipush 6, 2, 0), (184, .if_icmp .ge 16, 3, 102), (187, .aload_n 0, 1, 0), (188, .getfield 65, 3, 0), (191, .iload_n 1, 1, 0), (192, .iconst (-1), 1, 0), (193, .iastore, 1, 0), (194, .iinc 1 1, 3, 0), (197, .goto (-16), 3, 92), (200, .aload_n 0, 1, 0), (201, .iconst (-1), 1, 0), (202, .putfield 78, 3, 0), (205, .aload_n 0, 1, 0), (206, .iconst 1, 1, 0), (207, .putfield 82, 3, 0), (210, .aload_n 0, 1, 0), (211, .iconst 1, 1, 0), (212, .putfield 85, 3, 0), (215, .return_, 1, 0)])
theorem ky_11 : zchk m_Y11 = true := by decide +kernel
theorem vy_11 : yCW m_Y11 0 := ⟨⟨(List.mem_of_getElem? (i := 1055) (by decide +kernel)), (List.mem_of_getElem? (i := 81) (by decide +kernel)), by decide +kernel, by decide +kernel, by decide⟩, rfl, rfl, (List.mem_of_getElem? (i := 1054) (by decide +kernel))⟩
theorem yo_i : Cond.instanceMethod objectInit ∈ lw_tbl := (List.mem_of_getElem? (i := 91) (by decide +kernel))
theorem yo_c : Cond.code objectInit ⟨#[0xb1]⟩ 1 none ∈ lw_tbl := (List.mem_of_getElem? (i := 92) (by decide +kernel))
def yS0 : List YE := [.inl (10, [.null, .null, .null, .null, .null, .null, .null, .null, .null, .null]), .inl (3, [.null, .null, .null, .int 0, .int 0, .int 0, .int 0, .int 0])]
def yS1 : List YE := [.inl (10, [.null, .null, .null, .null, .null, .null, .null, .null, .null, .null]), .inl (3, [.ref 2, .null, .null, .int 0, .int 0, .int 0, .int 0, .int 0]), yr 10]
def yS2 : List YE := [.inl (10, [.null, .null, .null, .null, .null, .null, .null, .null, .null, .null]), .inl (3, [.ref 2, .ref 3, .null, .int 0, .int 0, .int 0, .int 0, .int 0]), yr 10, yr 100]
def yS3 : List YE := [.inl (10, [.null, .null, .null, .null, .null, .null, .null, .null, .null, .null]), .inl (3, [.ref 2, .ref 3, .ref 4, .int 0, .int 0, .int 0, .int 0, .int 0]), yr 10, yr 100, yr 206]
def yS4 : List YE := [.inl (10, [.null, .null, .null, .null, .null, .null, .null, .null, .null, .null]), .inl (3, [.ref 2, .ref 3, .ref 4, .int 0, .int 0, .int 0, .int 1, .int 0]), yr 10, yr 100, yr 206]
def yS5 : List YE := [.inl (10, [.null, .null, .null, .null, .null, .null, .null, .null, .null, .null]), .inl (3, [.ref 2, .ref 3, .ref 4, .int 0, .int 0, .int 0, .int 1, .int 1]), yr 10, yr 100, yr 206]
def yS6 (k : Nat) : List YE := [.inl (10, [.null, .null, .null, .null, .null, .null, .null, .null, .null, .null]), .inl (3, [.ref 2, .ref 3, .ref 4, .int 0, .int 0, .int 0, .int 1, .int 1]), yr 10, .inr (0, 100, yst k), yr 206]
theorem y0_3 : yS5 = (yS6 0) := by
  show [.inl (10, [.null, .null, .null, .null, .null, .null, .null, .null, .null, .null]), .inl (3, [.ref 2, .ref 3, .ref 4, .int 0, .int 0, .int 0, .int 1, .int 1]), yr 10, yr 100, yr 206] = [.inl (10, [.null, .null, .null, .null, .null, .null, .null, .null, .null, .null]), .inl (3, [.ref 2, .ref 3, .ref 4, .int 0, .int 0, .int 0, .int 1, .int 1]), yr 10, .inr (0, 100, yst 0), yr 206]
  rw [← yst_0]
def yS7 : List YE := [.inl (10, [.null, .null, .null, .null, .null, .null, .null, .null, .null, .null]), .inl (3, [.ref 2, .ref 3, .ref 4, .int 0, .int 0, .int 0, .int 1, .int 1]), yr 10, .inr (0, 100, yst 100), yr 206]
theorem yN_3 : (yS6 100) = yS7 := by
  unfold yS6 yS7
  rfl
def yF0 : YF := (41, [], [], yS7, 3, 316)
theorem yl_3 {Y : YC} : ∀ (k : Nat), k ≤ 100 → YW Y m_Y3 1 2 yF0 41 [(0, .ref 1), (1, .int (nI 100))] [] (yS6 100) 3 316 → YW Y m_Y3 1 2 yF0 22 [(0, .ref 1), (1, .int (nI k))] [] (yS6 k) 3 316 := by
  intro k hk h
  induction hm : 100 - k generalizing k with
  | zero =>
    have e : k = 100 := by omega
    subst e
    refine y_iload_n rfl rfl ?_
    refine y_bipush (v := 100) rfl (by decide) ?_
    exact y_icmpge rfl (fun _ => h) (fun hq => absurd (show (100 : Int32) ≤ nI 100 by decide) hq)
  | succ m ih =>
    have hkN : k < 100 := by omega
    have cl : (nI k).toNatClampNeg = k := zn_cl (by omega)
    have hz : zin (nI k) 100 := by simp (disch := omega) [fa_lit, nI_ltI, nI_leI, nI_eq, nI_add, pk_sub, zn_cl, zn_zin, hkN]
    refine y_iload_n rfl rfl ?_
    refine y_bipush (v := 100) rfl (by decide) ?_
    refine y_icmpge rfl (fun hq => absurd hq (by simp (disch := omega) [fa_lit, nI_ltI, nI_leI, nI_eq, nI_add, pk_sub, zn_cl, zn_zin]; omega)) (fun _ => ?_)
    refine y_aload_n rfl rfl ?_
    refine y_get (ci := 3) (k := 1) rfl ⟨by decide, by decide, rfl, Or.inl (List.mem_of_getElem? (i := 100) (by decide +kernel))⟩ rfl rfl ?_
    refine y_iload_n rfl rfl ?_
    refine y_iload_n rfl rfl ?_
    refine y_bipush (v := 10) rfl (by decide) ?_
    refine y_idiv rfl (by decide) ?_
    refine y_iload_n rfl rfl ?_
    refine y_bipush (v := 10) rfl (by decide) ?_
    refine y_irem rfl (by decide) ?_
    refine y_icmpne rfl (fun hq => ?_) (fun hq => ?_)
    · have hd : ¬ k / 10 = k % 10 := fun z => hq ((y_dia k hkN).mpr z)
      have hv : ystep k = 9 := by unfold ystep; rw [if_neg hd]
      refine y_bipush (v := 9) rfl (by decide) ?_
      refine y_iast (n := 100) (es' := (yS6 (k + 1))) rfl rfl hz (by rw [cl, show upd (yst k) k 9 = yst (k + 1) from by rw [← hv, yst_up]]; rfl) ?_
      refine y_iinc (x := nI k) (v := 1) (lv' := [(0, .ref 1), (1, .int (nI (k + 1)))]) rfl rfl (by decide) (by decide) rfl (by rw [show nI (k + 1) = nI k + 1 from (nI_add k 1).symm]; rfl) ?_
      refine y_goto rfl ?_
      exact ih (k + 1) (by omega) (by omega)
    · have hd : k / 10 = k % 10 := (y_dia k hkN).mp hq
      have hv : ystep k = 0 := by unfold ystep; rw [if_pos hd]
      refine y_iconst (v := 0) rfl (by decide) ?_
      refine y_goto rfl ?_
      refine y_iast (n := 100) (es' := (yS6 (k + 1))) rfl rfl hz (by rw [cl, show upd (yst k) k 0 = yst (k + 1) from by rw [← hv, yst_up]]; rfl) ?_
      refine y_iinc (x := nI k) (v := 1) (lv' := [(0, .ref 1), (1, .int (nI (k + 1)))]) rfl rfl (by decide) (by decide) rfl (by rw [show nI (k + 1) = nI k + 1 from (nI_add k 1).symm]; rfl) ?_
      refine y_goto rfl ?_
      exact ih (k + 1) (by omega) (by omega)
theorem yc_3 (Y : YC) : YSpec Y m_Y3 1 3 316 [.ref 1] yS0 yS7 := by
  refine YSpec.of (iF := 41) ky_3 rfl (by decide) rfl ?_
  show YW Y m_Y3 1 2 yF0 0 _ [] yS0 0 0
  refine y_aload_n rfl rfl ?_
  refine y_objInit rfl (List.mem_of_getElem? (i := 98) (by decide +kernel)) yo_i yo_c (by decide) (by decide) ?_
  refine y_aload_n rfl rfl ?_
  refine y_bipush (v := 10) rfl (by decide) ?_
  refine y_newa 0 (N := 10) (ty := .int) rfl rfl (Or.inl ⟨rfl, rfl⟩) (by decide) (by decide) (by decide) (by decide) (by decide +kernel) (by decide) (by decide) ?_
  refine y_put (ci := 3) (k := 0) (fs' := [.ref 2, .null, .null, .int 0, .int 0, .int 0, .int 0, .int 0]) (es' := yS1) rfl (List.mem_of_getElem? (i := 99) (by decide +kernel)) (by decide +kernel) rfl (by decide) rfl rfl ?_
  refine y_aload_n rfl rfl ?_
  refine y_bipush (v := 100) rfl (by decide) ?_
  refine y_newa 0 (N := 100) (ty := .int) rfl rfl (Or.inl ⟨rfl, rfl⟩) (by decide) (by decide) (by decide) (by decide) (by decide +kernel) (by decide) (by decide) ?_
  refine y_put (ci := 3) (k := 1) (fs' := [.ref 2, .ref 3, .null, .int 0, .int 0, .int 0, .int 0, .int 0]) (es' := yS2) rfl (List.mem_of_getElem? (i := 100) (by decide +kernel)) (by decide +kernel) rfl (by decide) rfl rfl ?_
  refine y_aload_n rfl rfl ?_
  refine y_sipush (v := 206) rfl (by decide) ?_
  refine y_newa 0 (N := 206) (ty := .int) rfl rfl (Or.inl ⟨rfl, rfl⟩) (by decide) (by decide) (by decide) (by decide) (by decide +kernel) (by decide) (by decide) ?_
  refine y_put (ci := 3) (k := 2) (fs' := [.ref 2, .ref 3, .ref 4, .int 0, .int 0, .int 0, .int 0, .int 0]) (es' := yS3) rfl (List.mem_of_getElem? (i := 101) (by decide +kernel)) (by decide +kernel) rfl (by decide) rfl rfl ?_
  refine y_aload_n rfl rfl ?_
  refine y_iconst (v := 1) rfl (by decide) ?_
  refine y_put (ci := 3) (k := 6) (fs' := [.ref 2, .ref 3, .ref 4, .int 0, .int 0, .int 0, .int 1, .int 0]) (es' := yS4) rfl (List.mem_of_getElem? (i := 111) (by decide +kernel)) (by decide +kernel) rfl (by decide) rfl rfl ?_
  refine y_aload_n rfl rfl ?_
  refine y_iconst (v := 1) rfl (by decide) ?_
  refine y_put (ci := 3) (k := 7) (fs' := [.ref 2, .ref 3, .ref 4, .int 0, .int 0, .int 0, .int 1, .int 1]) (es' := yS5) rfl (List.mem_of_getElem? (i := 114) (by decide +kernel)) (by decide +kernel) rfl (by decide) rfl rfl ?_
  refine y_iconst (v := 0) rfl (by decide) ?_
  refine y_istore_n (lv' := [(0, .ref 1), (1, .int 0)]) rfl (by decide) rfl rfl ?_
  refine y_eqs (es' := (yS6 0)) (nc' := 3) (ns' := 316) (y0_3 ) rfl rfl ?_
  refine yl_3 0 (by decide) ?_
  refine y_eqs (es' := yS7) (nc' := 3) (ns' := 316) yN_3 rfl rfl ?_
  exact y_end (fun q hq => by cases (show q ∈ ([] : List (Nat × Value)) from hq)) rfl rfl rfl rfl rfl
abbrev yo_1 : YE := .inl (3, [.ref 2, .ref 3, .ref 4, .int 0, .int 0, .int 0, .int 1, .int 1])
def yS8 : List YE := [.inl (10, [.null, .null, .null, .null, .null, .null, .null, .null, .null, .null]), yo_1, yr 10, .inr (0, 100, yst 100), yr 206]
def yS9 : List YE := [.inl (10, [.ref 1, .null, .null, .null, .null, .null, .null, .null, .null, .null]), yo_1, yr 10, .inr (0, 100, yst 100), yr 206]
def yS10 : List YE := [.inl (10, [.ref 1, .null, .null, .null, .null, .null, .null, .null, .null, .null]), yo_1, yr 10, .inr (0, 100, yst 100), yr 206, .inl (1, [.null, .null, .null, .null, .int 0, .int 0])]
def yS11 : List YE := [.inl (10, [.ref 1, .null, .null, .null, .null, .null, .null, .null, .null, .null]), yo_1, yr 10, .inr (0, 100, yst 100), yr 206, .inl (1, [.null, .ref 6, .null, .null, .int 0, .int 0]), yr 40]
def yS12 : List YE := [.inl (10, [.ref 1, .null, .null, .null, .null, .null, .null, .null, .null, .null]), yo_1, yr 10, .inr (0, 100, yst 100), yr 206, .inl (1, [.null, .ref 6, .ref 7, .null, .int 0, .int 0]), yr 40, yr 40]
def yS13 : List YE := [.inl (10, [.ref 1, .null, .null, .null, .null, .null, .null, .null, .null, .null]), yo_1, yr 10, .inr (0, 100, yst 100), yr 206, .inl (1, [.null, .ref 6, .ref 7, .ref 8, .int 0, .int 0]), yr 40, yr 40, yr 40]
def yS14 : List YE := [.inl (10, [.ref 1, .null, .null, .null, .null, .null, .null, .null, .null, .null]), yo_1, yr 10, .inr (0, 100, yst 100), yr 206, .inl (1, [.ref 1, .ref 6, .ref 7, .ref 8, .int 0, .int 0]), yr 40, yr 40, yr 40]
def yF1 : YF := (17, [], [], yS14, 3, 120)
theorem yc_1 (Y : YC) : YSpec Y m_Y1 1 3 120 [.ref 5, .ref 1] yS10 yS14 := by
  refine YSpec.of (iF := 17) ky_1 rfl (by decide) rfl ?_
  show YW Y m_Y1 1 6 yF1 0 _ [] yS10 0 0
  refine y_aload_n rfl rfl ?_
  refine y_objInit rfl (List.mem_of_getElem? (i := 140) (by decide +kernel)) yo_i yo_c (by decide) (by decide) ?_
  refine y_aload_n rfl rfl ?_
  refine y_bipush (v := 40) rfl (by decide) ?_
  refine y_newa 0 (N := 40) (ty := .int) rfl rfl (Or.inl ⟨rfl, rfl⟩) (by decide) (by decide) (by decide) (by decide) (by decide +kernel) (by decide) (by decide) ?_
  refine y_put (ci := 1) (k := 1) (fs' := [.null, .ref 6, .null, .null, .int 0, .int 0]) (es' := yS11) rfl (List.mem_of_getElem? (i := 142) (by decide +kernel)) (by decide +kernel) rfl (by decide) rfl rfl ?_
  refine y_aload_n rfl rfl ?_
  refine y_bipush (v := 40) rfl (by decide) ?_
  refine y_newa 0 (N := 40) (ty := .int) rfl rfl (Or.inl ⟨rfl, rfl⟩) (by decide) (by decide) (by decide) (by decide) (by decide +kernel) (by decide) (by decide) ?_
  refine y_put (ci := 1) (k := 2) (fs' := [.null, .ref 6, .ref 7, .null, .int 0, .int 0]) (es' := yS12) rfl (List.mem_of_getElem? (i := 143) (by decide +kernel)) (by decide +kernel) rfl (by decide) rfl rfl ?_
  refine y_aload_n rfl rfl ?_
  refine y_bipush (v := 40) rfl (by decide) ?_
  refine y_newa 0 (N := 40) (ty := .int) rfl rfl (Or.inl ⟨rfl, rfl⟩) (by decide) (by decide) (by decide) (by decide) (by decide +kernel) (by decide) (by decide) ?_
  refine y_put (ci := 1) (k := 3) (fs' := [.null, .ref 6, .ref 7, .ref 8, .int 0, .int 0]) (es' := yS13) rfl (List.mem_of_getElem? (i := 144) (by decide +kernel)) (by decide +kernel) rfl (by decide) rfl rfl ?_
  refine y_aload_n rfl rfl ?_
  refine y_aload_n rfl rfl ?_
  refine y_put (ci := 1) (k := 0) (fs' := [.ref 1, .ref 6, .ref 7, .ref 8, .int 0, .int 0]) (es' := yS14) rfl (List.mem_of_getElem? (i := 141) (by decide +kernel)) (by decide +kernel) rfl (by decide) rfl rfl ?_
  exact y_end (fun q hq => by cases (show q ∈ ([] : List (Nat × Value)) from hq)) rfl rfl rfl rfl rfl
abbrev yo_5 : YE := .inl (1, [.ref 1, .ref 6, .ref 7, .ref 8, .int 0, .int 0])
def yS15 : List YE := [.inl (10, [.ref 1, .null, .null, .null, .null, .null, .null, .null, .null, .null]), yo_1, yr 10, .inr (0, 100, yst 100), yr 206, yo_5, yr 40, yr 40, yr 40]
def yS16 : List YE := [.inl (10, [.ref 1, .ref 5, .null, .null, .null, .null, .null, .null, .null, .null]), yo_1, yr 10, .inr (0, 100, yst 100), yr 206, yo_5, yr 40, yr 40, yr 40]
def yS17 : List YE := [.inl (10, [.ref 1, .ref 5, .null, .null, .null, .null, .null, .null, .null, .null]), yo_1, yr 10, .inr (0, 100, yst 100), yr 206, yo_5, yr 40, yr 40, yr 40, .inl (6, [.null, .null, .int 0, .int 0])]
def yS18 : List YE := [.inl (10, [.ref 1, .ref 5, .null, .null, .null, .null, .null, .null, .null, .null]), yo_1, yr 10, .inr (0, 100, yst 100), yr 206, yo_5, yr 40, yr 40, yr 40, .inl (6, [.ref 10, .null, .int 0, .int 0]), yr 120]
def yS19 : List YE := [.inl (10, [.ref 1, .ref 5, .null, .null, .null, .null, .null, .null, .null, .null]), yo_1, yr 10, .inr (0, 100, yst 100), yr 206, yo_5, yr 40, yr 40, yr 40, .inl (6, [.ref 10, .null, .int 0, .int 0]), yr 120, .inl (2, [.null, .null, .null, .int 0])]
def yS20 : List YE := [.inl (10, [.ref 1, .ref 5, .null, .null, .null, .null, .null, .null, .null, .null]), yo_1, yr 10, .inr (0, 100, yst 100), yr 206, yo_5, yr 40, yr 40, yr 40, .inl (6, [.ref 10, .null, .int 0, .int 0]), yr 120, .inl (2, [.ref 12, .null, .null, .int 0]), yr 128]
def yS21 : List YE := [.inl (10, [.ref 1, .ref 5, .null, .null, .null, .null, .null, .null, .null, .null]), yo_1, yr 10, .inr (0, 100, yst 100), yr 206, yo_5, yr 40, yr 40, yr 40, .inl (6, [.ref 10, .null, .int 0, .int 0]), yr 120, .inl (2, [.ref 12, .ref 13, .null, .int 0]), yr 128, yr 128]
def yS22 : List YE := [.inl (10, [.ref 1, .ref 5, .null, .null, .null, .null, .null, .null, .null, .null]), yo_1, yr 10, .inr (0, 100, yst 100), yr 206, yo_5, yr 40, yr 40, yr 40, .inl (6, [.ref 10, .null, .int 0, .int 0]), yr 120, .inl (2, [.ref 12, .ref 13, .ref 14, .int 0]), yr 128, yr 128, yr 128]
def yF2 : YF := (14, [], [], yS22, 3, 384)
theorem yc_2 (Y : YC) : YSpec Y m_Y2 1 3 384 [.ref 11] yS19 yS22 := by
  refine YSpec.of (iF := 14) ky_2 rfl (by decide) rfl ?_
  show YW Y m_Y2 1 12 yF2 0 _ [] yS19 0 0
  refine y_aload_n rfl rfl ?_
  refine y_objInit rfl (List.mem_of_getElem? (i := 171) (by decide +kernel)) yo_i yo_c (by decide) (by decide) ?_
  refine y_aload_n rfl rfl ?_
  refine y_sipush (v := 128) rfl (by decide) ?_
  refine y_newa 0 (N := 128) (ty := .int) rfl rfl (Or.inl ⟨rfl, rfl⟩) (by decide) (by decide) (by decide) (by decide) (by decide +kernel) (by decide) (by decide) ?_
  refine y_put (ci := 2) (k := 0) (fs' := [.ref 12, .null, .null, .int 0]) (es' := yS20) rfl (List.mem_of_getElem? (i := 172) (by decide +kernel)) (by decide +kernel) rfl (by decide) rfl rfl ?_
  refine y_aload_n rfl rfl ?_
  refine y_sipush (v := 128) rfl (by decide) ?_
  refine y_newa 0 (N := 128) (ty := .int) rfl rfl (Or.inl ⟨rfl, rfl⟩) (by decide) (by decide) (by decide) (by decide) (by decide +kernel) (by decide) (by decide) ?_
  refine y_put (ci := 2) (k := 1) (fs' := [.ref 12, .ref 13, .null, .int 0]) (es' := yS21) rfl (List.mem_of_getElem? (i := 173) (by decide +kernel)) (by decide +kernel) rfl (by decide) rfl rfl ?_
  refine y_aload_n rfl rfl ?_
  refine y_sipush (v := 128) rfl (by decide) ?_
  refine y_newa 0 (N := 128) (ty := .int) rfl rfl (Or.inl ⟨rfl, rfl⟩) (by decide) (by decide) (by decide) (by decide) (by decide +kernel) (by decide) (by decide) ?_
  refine y_put (ci := 2) (k := 2) (fs' := [.ref 12, .ref 13, .ref 14, .int 0]) (es' := yS22) rfl (List.mem_of_getElem? (i := 174) (by decide +kernel)) (by decide +kernel) rfl (by decide) rfl rfl ?_
  exact y_end (fun q hq => by cases (show q ∈ ([] : List (Nat × Value)) from hq)) rfl rfl rfl rfl rfl
abbrev yo_11 : YE := .inl (2, [.ref 12, .ref 13, .ref 14, .int 0])
def yS23 : List YE := [.inl (10, [.ref 1, .ref 5, .null, .null, .null, .null, .null, .null, .null, .null]), yo_1, yr 10, .inr (0, 100, yst 100), yr 206, yo_5, yr 40, yr 40, yr 40, .inl (6, [.ref 10, .null, .int 0, .int 0]), yr 120, yo_11, yr 128, yr 128, yr 128]
def yS24 : List YE := [.inl (10, [.ref 1, .ref 5, .null, .null, .null, .null, .null, .null, .null, .null]), yo_1, yr 10, .inr (0, 100, yst 100), yr 206, yo_5, yr 40, yr 40, yr 40, .inl (6, [.ref 10, .ref 11, .int 0, .int 0]), yr 120, yo_11, yr 128, yr 128, yr 128]
def yF3 : YF := (11, [], [], yS24, 5, 508)
theorem yc_6 (Y : YC) : YSpec Y m_Y6 2 5 508 [.ref 9] yS17 yS24 := by
  refine YSpec.of (iF := 11) ky_6 rfl (by decide) rfl ?_
  show YW Y m_Y6 2 10 yF3 0 _ [] yS17 0 0
  refine y_aload_n rfl rfl ?_
  refine y_objInit rfl (List.mem_of_getElem? (i := 165) (by decide +kernel)) yo_i yo_c (by decide) (by decide) ?_
  refine y_aload_n rfl rfl ?_
  refine y_bipush (v := 120) rfl (by decide) ?_
  refine y_newa 0 (N := 120) (ty := .int) rfl rfl (Or.inl ⟨rfl, rfl⟩) (by decide) (by decide) (by decide) (by decide) (by decide +kernel) (by decide) (by decide) ?_
  refine y_put (ci := 6) (k := 0) (fs' := [.ref 10, .null, .int 0, .int 0]) (es' := yS18) rfl (List.mem_of_getElem? (i := 185) (by decide +kernel)) (by decide +kernel) rfl (by decide) rfl rfl ?_
  refine y_aload_n rfl rfl ?_
  refine y_new (ci := 2) (N := 4) rfl (by decide) yb_2 (by decide +kernel) rfl ⟨(List.mem_of_getElem? (i := 166) (by decide +kernel)), (List.mem_of_getElem? (i := 167) (by decide +kernel)), (List.mem_of_getElem? (i := 74) (by decide +kernel))⟩ (by decide) (by decide +kernel) (by decide) (by decide) ?_
  refine y_eqs (es' := yS19) (nc' := 2) (ns' := 124) rfl rfl rfl ?_
  refine y_dup rfl ?_
  refine y_callN (M' := m_Y2) (d' := 1) (mc := 3) (ms := 384) (as := []) (o := 11) (rest := [.ref 11, .ref 9]) (host := "VotesUntouched") rfl (List.mem_of_getElem? (i := 168) (by decide +kernel)) vy_2 (by decide) rfl rfl (by decide) (by decide) (by decide +kernel) (by decide) (by decide) (yc_2 Y) ?_
  refine y_eqs (es' := yS23) (nc' := 5) (ns' := 508) rfl rfl rfl ?_
  refine y_put (ci := 6) (k := 1) (fs' := [.ref 10, .ref 11, .int 0, .int 0]) (es' := yS24) rfl (List.mem_of_getElem? (i := 186) (by decide +kernel)) (by decide +kernel) rfl (by decide) rfl rfl ?_
  exact y_end (fun q hq => by cases (show q ∈ ([] : List (Nat × Value)) from hq)) rfl rfl rfl rfl rfl
abbrev yo_9 : YE := .inl (6, [.ref 10, .ref 11, .int 0, .int 0])
def yS25 : List YE := [.inl (10, [.ref 1, .ref 5, .null, .null, .null, .null, .null, .null, .null, .null]), yo_1, yr 10, .inr (0, 100, yst 100), yr 206, yo_5, yr 40, yr 40, yr 40, yo_9, yr 120, yo_11, yr 128, yr 128, yr 128]
def yS26 : List YE := [.inl (10, [.ref 1, .ref 5, .ref 9, .null, .null, .null, .null, .null, .null, .null]), yo_1, yr 10, .inr (0, 100, yst 100), yr 206, yo_5, yr 40, yr 40, yr 40, yo_9, yr 120, yo_11, yr 128, yr 128, yr 128]
def yS27 : List YE := [.inl (10, [.ref 1, .ref 5, .ref 9, .null, .null, .null, .null, .null, .null, .null]), yo_1, yr 10, .inr (0, 100, yst 100), yr 206, yo_5, yr 40, yr 40, yr 40, yo_9, yr 120, yo_11, yr 128, yr 128, yr 128, .inl (2, [.null, .null, .null, .int 0])]
def yS28 : List YE := [.inl (10, [.ref 1, .ref 5, .ref 9, .null, .null, .null, .null, .null, .null, .null]), yo_1, yr 10, .inr (0, 100, yst 100), yr 206, yo_5, yr 40, yr 40, yr 40, yo_9, yr 120, yo_11, yr 128, yr 128, yr 128, .inl (2, [.ref 16, .null, .null, .int 0]), yr 128]
def yS29 : List YE := [.inl (10, [.ref 1, .ref 5, .ref 9, .null, .null, .null, .null, .null, .null, .null]), yo_1, yr 10, .inr (0, 100, yst 100), yr 206, yo_5, yr 40, yr 40, yr 40, yo_9, yr 120, yo_11, yr 128, yr 128, yr 128, .inl (2, [.ref 16, .ref 17, .null, .int 0]), yr 128, yr 128]
def yS30 : List YE := [.inl (10, [.ref 1, .ref 5, .ref 9, .null, .null, .null, .null, .null, .null, .null]), yo_1, yr 10, .inr (0, 100, yst 100), yr 206, yo_5, yr 40, yr 40, yr 40, yo_9, yr 120, yo_11, yr 128, yr 128, yr 128, .inl (2, [.ref 16, .ref 17, .ref 18, .int 0]), yr 128, yr 128, yr 128]
def yF4 : YF := (14, [], [], yS30, 3, 384)
theorem yc_2_2 (Y : YC) : YSpec Y m_Y2 1 3 384 [.ref 15] yS27 yS30 := by
  refine YSpec.of (iF := 14) ky_2 rfl (by decide) rfl ?_
  show YW Y m_Y2 1 16 yF4 0 _ [] yS27 0 0
  refine y_aload_n rfl rfl ?_
  refine y_objInit rfl (List.mem_of_getElem? (i := 171) (by decide +kernel)) yo_i yo_c (by decide) (by decide) ?_
  refine y_aload_n rfl rfl ?_
  refine y_sipush (v := 128) rfl (by decide) ?_
  refine y_newa 0 (N := 128) (ty := .int) rfl rfl (Or.inl ⟨rfl, rfl⟩) (by decide) (by decide) (by decide) (by decide) (by decide +kernel) (by decide) (by decide) ?_
  refine y_put (ci := 2) (k := 0) (fs' := [.ref 16, .null, .null, .int 0]) (es' := yS28) rfl (List.mem_of_getElem? (i := 172) (by decide +kernel)) (by decide +kernel) rfl (by decide) rfl rfl ?_
  refine y_aload_n rfl rfl ?_
  refine y_sipush (v := 128) rfl (by decide) ?_
  refine y_newa 0 (N := 128) (ty := .int) rfl rfl (Or.inl ⟨rfl, rfl⟩) (by decide) (by decide) (by decide) (by decide) (by decide +kernel) (by decide) (by decide) ?_
  refine y_put (ci := 2) (k := 1) (fs' := [.ref 16, .ref 17, .null, .int 0]) (es' := yS29) rfl (List.mem_of_getElem? (i := 173) (by decide +kernel)) (by decide +kernel) rfl (by decide) rfl rfl ?_
  refine y_aload_n rfl rfl ?_
  refine y_sipush (v := 128) rfl (by decide) ?_
  refine y_newa 0 (N := 128) (ty := .int) rfl rfl (Or.inl ⟨rfl, rfl⟩) (by decide) (by decide) (by decide) (by decide) (by decide +kernel) (by decide) (by decide) ?_
  refine y_put (ci := 2) (k := 2) (fs' := [.ref 16, .ref 17, .ref 18, .int 0]) (es' := yS30) rfl (List.mem_of_getElem? (i := 174) (by decide +kernel)) (by decide +kernel) rfl (by decide) rfl rfl ?_
  exact y_end (fun q hq => by cases (show q ∈ ([] : List (Nat × Value)) from hq)) rfl rfl rfl rfl rfl
abbrev yo_15 : YE := .inl (2, [.ref 16, .ref 17, .ref 18, .int 0])
def yS31 : List YE := [.inl (10, [.ref 1, .ref 5, .ref 9, .null, .null, .null, .null, .null, .null, .null]), yo_1, yr 10, .inr (0, 100, yst 100), yr 206, yo_5, yr 40, yr 40, yr 40, yo_9, yr 120, yo_11, yr 128, yr 128, yr 128, yo_15, yr 128, yr 128, yr 128]
def yS32 : List YE := [.inl (10, [.ref 1, .ref 5, .ref 9, .ref 15, .null, .null, .null, .null, .null, .null]), yo_1, yr 10, .inr (0, 100, yst 100), yr 206, yo_5, yr 40, yr 40, yr 40, yo_9, yr 120, yo_11, yr 128, yr 128, yr 128, yo_15, yr 128, yr 128, yr 128]
def yS33 : List YE := [.inl (10, [.ref 1, .ref 5, .ref 9, .ref 15, .null, .null, .null, .null, .null, .null]), yo_1, yr 10, .inr (0, 100, yst 100), yr 206, yo_5, yr 40, yr 40, yr 40, yo_9, yr 120, yo_11, yr 128, yr 128, yr 128, yo_15, yr 128, yr 128, yr 128, .inl (0, [.null, .null, .null, .null, .int 0])]
def yS34 : List YE := [.inl (10, [.ref 1, .ref 5, .ref 9, .ref 15, .null, .null, .null, .null, .null, .null]), yo_1, yr 10, .inr (0, 100, yst 100), yr 206, yo_5, yr 40, yr 40, yr 40, yo_9, yr 120, yo_11, yr 128, yr 128, yr 128, yo_15, yr 128, yr 128, yr 128, .inl (0, [.null, .null, .ref 20, .null, .int 0]), yr 10]
def yS35 : List YE := [.inl (10, [.ref 1, .ref 5, .ref 9, .ref 15, .null, .null, .null, .null, .null, .null]), yo_1, yr 10, .inr (0, 100, yst 100), yr 206, yo_5, yr 40, yr 40, yr 40, yo_9, yr 120, yo_11, yr 128, yr 128, yr 128, yo_15, yr 128, yr 128, yr 128, .inl (0, [.null, .null, .ref 20, .ref 21, .int 0]), yr 10, yr 6]
def yS36 : List YE := [.inl (10, [.ref 1, .ref 5, .ref 9, .ref 15, .null, .null, .null, .null, .null, .null]), yo_1, yr 10, .inr (0, 100, yst 100), yr 206, yo_5, yr 40, yr 40, yr 40, yo_9, yr 120, yo_11, yr 128, yr 128, yr 128, yo_15, yr 128, yr 128, yr 128, .inl (0, [.ref 1, .null, .ref 20, .ref 21, .int 0]), yr 10, yr 6]
def yS37 : List YE := [.inl (10, [.ref 1, .ref 5, .ref 9, .ref 15, .null, .null, .null, .null, .null, .null]), yo_1, yr 10, .inr (0, 100, yst 100), yr 206, yo_5, yr 40, yr 40, yr 40, yo_9, yr 120, yo_11, yr 128, yr 128, yr 128, yo_15, yr 128, yr 128, yr 128, .inl (0, [.ref 1, .ref 15, .ref 20, .ref 21, .int 0]), yr 10, yr 6]
def yF5 : YF := (16, [], [], yS37, 2, 16)
theorem yc_0 (Y : YC) : YSpec Y m_Y0 1 2 16 [.ref 19, .ref 1, .ref 15] yS33 yS37 := by
  refine YSpec.of (iF := 16) ky_0 rfl (by decide) rfl ?_
  show YW Y m_Y0 1 20 yF5 0 _ [] yS33 0 0
  refine y_aload_n rfl rfl ?_
  refine y_objInit rfl (List.mem_of_getElem? (i := 207) (by decide +kernel)) yo_i yo_c (by decide) (by decide) ?_
  refine y_aload_n rfl rfl ?_
  refine y_bipush (v := 10) rfl (by decide) ?_
  refine y_newa 0 (N := 10) (ty := .int) rfl rfl (Or.inl ⟨rfl, rfl⟩) (by decide) (by decide) (by decide) (by decide) (by decide +kernel) (by decide) (by decide) ?_
  refine y_put (ci := 0) (k := 2) (fs' := [.null, .null, .ref 20, .null, .int 0]) (es' := yS34) rfl (List.mem_of_getElem? (i := 210) (by decide +kernel)) (by decide +kernel) rfl (by decide) rfl rfl ?_
  refine y_aload_n rfl rfl ?_
  refine y_bipush (v := 6) rfl (by decide) ?_
  refine y_newa 0 (N := 6) (ty := .int) rfl rfl (Or.inl ⟨rfl, rfl⟩) (by decide) (by decide) (by decide) (by decide) (by decide +kernel) (by decide) (by decide) ?_
  refine y_put (ci := 0) (k := 3) (fs' := [.null, .null, .ref 20, .ref 21, .int 0]) (es' := yS35) rfl (List.mem_of_getElem? (i := 211) (by decide +kernel)) (by decide +kernel) rfl (by decide) rfl rfl ?_
  refine y_aload_n rfl rfl ?_
  refine y_aload_n rfl rfl ?_
  refine y_put (ci := 0) (k := 0) (fs' := [.ref 1, .null, .ref 20, .ref 21, .int 0]) (es' := yS36) rfl (List.mem_of_getElem? (i := 208) (by decide +kernel)) (by decide +kernel) rfl (by decide) rfl rfl ?_
  refine y_aload_n rfl rfl ?_
  refine y_aload_n rfl rfl ?_
  refine y_put (ci := 0) (k := 1) (fs' := [.ref 1, .ref 15, .ref 20, .ref 21, .int 0]) (es' := yS37) rfl (List.mem_of_getElem? (i := 209) (by decide +kernel)) (by decide +kernel) rfl (by decide) rfl rfl ?_
  exact y_end (fun q hq => by cases (show q ∈ ([] : List (Nat × Value)) from hq)) rfl rfl rfl rfl rfl
abbrev yo_19 : YE := .inl (0, [.ref 1, .ref 15, .ref 20, .ref 21, .int 0])
def yS38 : List YE := [.inl (10, [.ref 1, .ref 5, .ref 9, .ref 15, .null, .null, .null, .null, .null, .null]), yo_1, yr 10, .inr (0, 100, yst 100), yr 206, yo_5, yr 40, yr 40, yr 40, yo_9, yr 120, yo_11, yr 128, yr 128, yr 128, yo_15, yr 128, yr 128, yr 128, yo_19, yr 10, yr 6]
def yS39 : List YE := [.inl (10, [.ref 1, .ref 5, .ref 9, .ref 15, .ref 19, .null, .null, .null, .null, .null]), yo_1, yr 10, .inr (0, 100, yst 100), yr 206, yo_5, yr 40, yr 40, yr 40, yo_9, yr 120, yo_11, yr 128, yr 128, yr 128, yo_15, yr 128, yr 128, yr 128, yo_19, yr 10, yr 6]
def yS40 : List YE := [.inl (10, [.ref 1, .ref 5, .ref 9, .ref 15, .ref 19, .null, .null, .null, .null, .null]), yo_1, yr 10, .inr (0, 100, yst 100), yr 206, yo_5, yr 40, yr 40, yr 40, yo_9, yr 120, yo_11, yr 128, yr 128, yr 128, yo_15, yr 128, yr 128, yr 128, yo_19, yr 10, yr 6, .inl (5, [.null, .null, .null, .null, .null, .null])]
def yS41 : List YE := [.inl (10, [.ref 1, .ref 5, .ref 9, .ref 15, .ref 19, .null, .null, .null, .null, .null]), yo_1, yr 10, .inr (0, 100, yst 100), yr 206, yo_5, yr 40, yr 40, yr 40, yo_9, yr 120, yo_11, yr 128, yr 128, yr 128, yo_15, yr 128, yr 128, yr 128, yo_19, yr 10, yr 6, .inl (5, [.null, .null, .ref 23, .null, .null, .null]), yr 10]
def yS42 : List YE := [.inl (10, [.ref 1, .ref 5, .ref 9, .ref 15, .ref 19, .null, .null, .null, .null, .null]), yo_1, yr 10, .inr (0, 100, yst 100), yr 206, yo_5, yr 40, yr 40, yr 40, yo_9, yr 120, yo_11, yr 128, yr 128, yr 128, yo_15, yr 128, yr 128, yr 128, yo_19, yr 10, yr 6, .inl (5, [.null, .null, .ref 23, .ref 24, .null, .null]), yr 10, yr 64]
def yS43 : List YE := [.inl (10, [.ref 1, .ref 5, .ref 9, .ref 15, .ref 19, .null, .null, .null, .null, .null]), yo_1, yr 10, .inr (0, 100, yst 100), yr 206, yo_5, yr 40, yr 40, yr 40, yo_9, yr 120, yo_11, yr 128, yr 128, yr 128, yo_15, yr 128, yr 128, yr 128, yo_19, yr 10, yr 6, .inl (5, [.null, .null, .ref 23, .ref 24, .ref 25, .null]), yr 10, yr 64, yr 64]
def yS44 : List YE := [.inl (10, [.ref 1, .ref 5, .ref 9, .ref 15, .ref 19, .null, .null, .null, .null, .null]), yo_1, yr 10, .inr (0, 100, yst 100), yr 206, yo_5, yr 40, yr 40, yr 40, yo_9, yr 120, yo_11, yr 128, yr 128, yr 128, yo_15, yr 128, yr 128, yr 128, yo_19, yr 10, yr 6, .inl (5, [.null, .null, .ref 23, .ref 24, .ref 25, .ref 26]), yr 10, yr 64, yr 64, yr 64]
def yS45 : List YE := [.inl (10, [.ref 1, .ref 5, .ref 9, .ref 15, .ref 19, .null, .null, .null, .null, .null]), yo_1, yr 10, .inr (0, 100, yst 100), yr 206, yo_5, yr 40, yr 40, yr 40, yo_9, yr 120, yo_11, yr 128, yr 128, yr 128, yo_15, yr 128, yr 128, yr 128, yo_19, yr 10, yr 6, .inl (5, [.ref 1, .null, .ref 23, .ref 24, .ref 25, .ref 26]), yr 10, yr 64, yr 64, yr 64]
def yS46 : List YE := [.inl (10, [.ref 1, .ref 5, .ref 9, .ref 15, .ref 19, .null, .null, .null, .null, .null]), yo_1, yr 10, .inr (0, 100, yst 100), yr 206, yo_5, yr 40, yr 40, yr 40, yo_9, yr 120, yo_11, yr 128, yr 128, yr 128, yo_15, yr 128, yr 128, yr 128, yo_19, yr 10, yr 6, .inl (5, [.ref 1, .ref 19, .ref 23, .ref 24, .ref 25, .ref 26]), yr 10, yr 64, yr 64, yr 64]
def yF6 : YF := (24, [], [], yS46, 4, 202)
theorem yc_5 (Y : YC) : YSpec Y m_Y5 1 4 202 [.ref 22, .ref 1, .ref 19] yS40 yS46 := by
  refine YSpec.of (iF := 24) ky_5 rfl (by decide) rfl ?_
  show YW Y m_Y5 1 23 yF6 0 _ [] yS40 0 0
  refine y_aload_n rfl rfl ?_
  refine y_objInit rfl (List.mem_of_getElem? (i := 229) (by decide +kernel)) yo_i yo_c (by decide) (by decide) ?_
  refine y_aload_n rfl rfl ?_
  refine y_bipush (v := 10) rfl (by decide) ?_
  refine y_newa 0 (N := 10) (ty := .int) rfl rfl (Or.inl ⟨rfl, rfl⟩) (by decide) (by decide) (by decide) (by decide) (by decide +kernel) (by decide) (by decide) ?_
  refine y_put (ci := 5) (k := 2) (fs' := [.null, .null, .ref 23, .null, .null, .null]) (es' := yS41) rfl (List.mem_of_getElem? (i := 232) (by decide +kernel)) (by decide +kernel) rfl (by decide) rfl rfl ?_
  refine y_aload_n rfl rfl ?_
  refine y_bipush (v := 64) rfl (by decide) ?_
  refine y_newa 0 (N := 64) (ty := .int) rfl rfl (Or.inl ⟨rfl, rfl⟩) (by decide) (by decide) (by decide) (by decide) (by decide +kernel) (by decide) (by decide) ?_
  refine y_put (ci := 5) (k := 3) (fs' := [.null, .null, .ref 23, .ref 24, .null, .null]) (es' := yS42) rfl (List.mem_of_getElem? (i := 233) (by decide +kernel)) (by decide +kernel) rfl (by decide) rfl rfl ?_
  refine y_aload_n rfl rfl ?_
  refine y_bipush (v := 64) rfl (by decide) ?_
  refine y_newa 0 (N := 64) (ty := .int) rfl rfl (Or.inl ⟨rfl, rfl⟩) (by decide) (by decide) (by decide) (by decide) (by decide +kernel) (by decide) (by decide) ?_
  refine y_put (ci := 5) (k := 4) (fs' := [.null, .null, .ref 23, .ref 24, .ref 25, .null]) (es' := yS43) rfl (List.mem_of_getElem? (i := 234) (by decide +kernel)) (by decide +kernel) rfl (by decide) rfl rfl ?_
  refine y_aload_n rfl rfl ?_
  refine y_bipush (v := 64) rfl (by decide) ?_
  refine y_newa 0 (N := 64) (ty := .int) rfl rfl (Or.inl ⟨rfl, rfl⟩) (by decide) (by decide) (by decide) (by decide) (by decide +kernel) (by decide) (by decide) ?_
  refine y_put (ci := 5) (k := 5) (fs' := [.null, .null, .ref 23, .ref 24, .ref 25, .ref 26]) (es' := yS44) rfl (List.mem_of_getElem? (i := 235) (by decide +kernel)) (by decide +kernel) rfl (by decide) rfl rfl ?_
  refine y_aload_n rfl rfl ?_
  refine y_aload_n rfl rfl ?_
  refine y_put (ci := 5) (k := 0) (fs' := [.ref 1, .null, .ref 23, .ref 24, .ref 25, .ref 26]) (es' := yS45) rfl (List.mem_of_getElem? (i := 230) (by decide +kernel)) (by decide +kernel) rfl (by decide) rfl rfl ?_
  refine y_aload_n rfl rfl ?_
  refine y_aload_n rfl rfl ?_
  refine y_put (ci := 5) (k := 1) (fs' := [.ref 1, .ref 19, .ref 23, .ref 24, .ref 25, .ref 26]) (es' := yS46) rfl (List.mem_of_getElem? (i := 231) (by decide +kernel)) (by decide +kernel) rfl (by decide) rfl rfl ?_
  exact y_end (fun q hq => by cases (show q ∈ ([] : List (Nat × Value)) from hq)) rfl rfl rfl rfl rfl
abbrev yo_22 : YE := .inl (5, [.ref 1, .ref 19, .ref 23, .ref 24, .ref 25, .ref 26])
def yS47 : List YE := [.inl (10, [.ref 1, .ref 5, .ref 9, .ref 15, .ref 19, .null, .null, .null, .null, .null]), yo_1, yr 10, .inr (0, 100, yst 100), yr 206, yo_5, yr 40, yr 40, yr 40, yo_9, yr 120, yo_11, yr 128, yr 128, yr 128, yo_15, yr 128, yr 128, yr 128, yo_19, yr 10, yr 6, yo_22, yr 10, yr 64, yr 64, yr 64]
def yS48 : List YE := [.inl (10, [.ref 1, .ref 5, .ref 9, .ref 15, .ref 19, .ref 22, .null, .null, .null, .null]), yo_1, yr 10, .inr (0, 100, yst 100), yr 206, yo_5, yr 40, yr 40, yr 40, yo_9, yr 120, yo_11, yr 128, yr 128, yr 128, yo_15, yr 128, yr 128, yr 128, yo_19, yr 10, yr 6, yo_22, yr 10, yr 64, yr 64, yr 64]
def yS49 : List YE := [.inl (10, [.ref 1, .ref 5, .ref 9, .ref 15, .ref 19, .ref 22, .null, .null, .null, .null]), yo_1, yr 10, .inr (0, 100, yst 100), yr 206, yo_5, yr 40, yr 40, yr 40, yo_9, yr 120, yo_11, yr 128, yr 128, yr 128, yo_15, yr 128, yr 128, yr 128, yo_19, yr 10, yr 6, yo_22, yr 10, yr 64, yr 64, yr 64, .inl (7, [.null, .null, .null, .null])]
def yS50 : List YE := [.inl (10, [.ref 1, .ref 5, .ref 9, .ref 15, .ref 19, .ref 22, .null, .null, .null, .null]), yo_1, yr 10, .inr (0, 100, yst 100), yr 206, yo_5, yr 40, yr 40, yr 40, yo_9, yr 120, yo_11, yr 128, yr 128, yr 128, yo_15, yr 128, yr 128, yr 128, yo_19, yr 10, yr 6, yo_22, yr 10, yr 64, yr 64, yr 64, .inl (7, [.ref 28, .null, .null, .null]), yr 6]
def yS51 : List YE := [.inl (10, [.ref 1, .ref 5, .ref 9, .ref 15, .ref 19, .ref 22, .null, .null, .null, .null]), yo_1, yr 10, .inr (0, 100, yst 100), yr 206, yo_5, yr 40, yr 40, yr 40, yo_9, yr 120, yo_11, yr 128, yr 128, yr 128, yo_15, yr 128, yr 128, yr 128, yo_19, yr 10, yr 6, yo_22, yr 10, yr 64, yr 64, yr 64, .inl (7, [.ref 28, .ref 29, .null, .null]), yr 6, yr 6]
def yS52 : List YE := [.inl (10, [.ref 1, .ref 5, .ref 9, .ref 15, .ref 19, .ref 22, .null, .null, .null, .null]), yo_1, yr 10, .inr (0, 100, yst 100), yr 206, yo_5, yr 40, yr 40, yr 40, yo_9, yr 120, yo_11, yr 128, yr 128, yr 128, yo_15, yr 128, yr 128, yr 128, yo_19, yr 10, yr 6, yo_22, yr 10, yr 64, yr 64, yr 64, .inl (7, [.ref 28, .ref 29, .ref 30, .null]), yr 6, yr 6, yr 6]
def yS53 : List YE := [.inl (10, [.ref 1, .ref 5, .ref 9, .ref 15, .ref 19, .ref 22, .null, .null, .null, .null]), yo_1, yr 10, .inr (0, 100, yst 100), yr 206, yo_5, yr 40, yr 40, yr 40, yo_9, yr 120, yo_11, yr 128, yr 128, yr 128, yo_15, yr 128, yr 128, yr 128, yo_19, yr 10, yr 6, yo_22, yr 10, yr 64, yr 64, yr 64, .inl (7, [.ref 28, .ref 29, .ref 30, .ref 31]), yr 6, yr 6, yr 6, yrL 360]
def yS54 (k : Nat) : List YE := [.inl (10, [.ref 1, .ref 5, .ref 9, .ref 15, .ref 19, .ref 22, .null, .null, .null, .null]), yo_1, yr 10, .inr (0, 100, yst 100), yr 206, yo_5, yr 40, yr 40, yr 40, yo_9, yr 120, yo_11, yr 128, yr 128, yr 128, yo_15, yr 128, yr 128, yr 128, yo_19, yr 10, yr 6, yo_22, yr 10, yr 64, yr 64, yr 64, .inl (7, [.ref 28, .ref 29, .ref 30, .ref 31]), .inr (0, 6, ymin k), yr 6, yr 6, yrL 360]
theorem y0_7 : yS53 = (yS54 0) := by
  show [.inl (10, [.ref 1, .ref 5, .ref 9, .ref 15, .ref 19, .ref 22, .null, .null, .null, .null]), yo_1, yr 10, .inr (0, 100, yst 100), yr 206, yo_5, yr 40, yr 40, yr 40, yo_9, yr 120, yo_11, yr 128, yr 128, yr 128, yo_15, yr 128, yr 128, yr 128, yo_19, yr 10, yr 6, yo_22, yr 10, yr 64, yr 64, yr 64, .inl (7, [.ref 28, .ref 29, .ref 30, .ref 31]), yr 6, yr 6, yr 6, yrL 360] = [.inl (10, [.ref 1, .ref 5, .ref 9, .ref 15, .ref 19, .ref 22, .null, .null, .null, .null]), yo_1, yr 10, .inr (0, 100, yst 100), yr 206, yo_5, yr 40, yr 40, yr 40, yo_9, yr 120, yo_11, yr 128, yr 128, yr 128, yo_15, yr 128, yr 128, yr 128, yo_19, yr 10, yr 6, yo_22, yr 10, yr 64, yr 64, yr 64, .inl (7, [.ref 28, .ref 29, .ref 30, .ref 31]), .inr (0, 6, ymin 0), yr 6, yr 6, yrL 360]
  rw [← ymin_0]
def yS55 : List YE := [.inl (10, [.ref 1, .ref 5, .ref 9, .ref 15, .ref 19, .ref 22, .null, .null, .null, .null]), yo_1, yr 10, .inr (0, 100, yst 100), yr 206, yo_5, yr 40, yr 40, yr 40, yo_9, yr 120, yo_11, yr 128, yr 128, yr 128, yo_15, yr 128, yr 128, yr 128, yo_19, yr 10, yr 6, yo_22, yr 10, yr 64, yr 64, yr 64, .inl (7, [.ref 28, .ref 29, .ref 30, .ref 31]), .inr (0, 6, ymin 6), yr 6, yr 6, yrL 360]
theorem yN_7 : (yS54 6) = yS55 := by
  unfold yS54 yS55
  rfl
def yF7 : YF := (30, [], [], yS55, 4, 378)
theorem yl_7 {Y : YC} : ∀ (k : Nat), k ≤ 6 → YW Y m_Y7 1 28 yF7 30 [(0, .ref 27), (1, .int (nI 6))] [] (yS54 6) 4 378 → YW Y m_Y7 1 28 yF7 20 [(0, .ref 27), (1, .int (nI k))] [] (yS54 k) 4 378 := by
  intro k hk h
  induction hm : 6 - k generalizing k with
  | zero =>
    have e : k = 6 := by omega
    subst e
    refine y_iload_n rfl rfl ?_
    refine y_bipush (v := 6) rfl (by decide) ?_
    exact y_icmpge rfl (fun _ => h) (fun hq => absurd (show (6 : Int32) ≤ nI 6 by decide) hq)
  | succ m ih =>
    have hkN : k < 6 := by omega
    have cl : (nI k).toNatClampNeg = k := zn_cl (by omega)
    have hz : zin (nI k) 6 := by simp (disch := omega) [fa_lit, nI_ltI, nI_leI, nI_eq, nI_add, pk_sub, zn_cl, zn_zin, hkN]
    refine y_iload_n rfl rfl ?_
    refine y_bipush (v := 6) rfl (by decide) ?_
    refine y_icmpge rfl (fun hq => absurd hq (by simp (disch := omega) [fa_lit, nI_ltI, nI_leI, nI_eq, nI_add, pk_sub, zn_cl, zn_zin]; omega)) (fun _ => ?_)
    refine y_aload_n rfl rfl ?_
    refine y_get (ci := 7) (k := 0) rfl ⟨by decide, by decide, rfl, Or.inl (List.mem_of_getElem? (i := 255) (by decide +kernel))⟩ rfl rfl ?_
    refine y_iload_n rfl rfl ?_
    refine y_iconst (v := -1) rfl (by decide) ?_
    refine y_iast (n := 6) (es' := (yS54 (k + 1))) rfl rfl hz (by rw [cl, ymin_up]; rfl) ?_
    refine y_iinc (x := nI k) (v := 1) (lv' := [(0, .ref 27), (1, .int (nI (k + 1)))]) rfl rfl (by decide) (by decide) rfl (by rw [show nI (k + 1) = nI k + 1 from (nI_add k 1).symm]; rfl) ?_
    refine y_goto rfl ?_
    exact ih (k + 1) (by omega) (by omega)
theorem yc_7 (Y : YC) : YSpec Y m_Y7 1 4 378 [.ref 27] yS49 yS55 := by
  refine YSpec.of (iF := 30) ky_7 rfl (by decide) rfl ?_
  show YW Y m_Y7 1 28 yF7 0 _ [] yS49 0 0
  refine y_aload_n rfl rfl ?_
  refine y_objInit rfl (List.mem_of_getElem? (i := 254) (by decide +kernel)) yo_i yo_c (by decide) (by decide) ?_
  refine y_aload_n rfl rfl ?_
  refine y_bipush (v := 6) rfl (by decide) ?_
  refine y_newa 0 (N := 6) (ty := .int) rfl rfl (Or.inl ⟨rfl, rfl⟩) (by decide) (by decide) (by decide) (by decide) (by decide +kernel) (by decide) (by decide) ?_
  refine y_put (ci := 7) (k := 0) (fs' := [.ref 28, .null, .null, .null]) (es' := yS50) rfl (List.mem_of_getElem? (i := 255) (by decide +kernel)) (by decide +kernel) rfl (by decide) rfl rfl ?_
  refine y_aload_n rfl rfl ?_
  refine y_bipush (v := 6) rfl (by decide) ?_
  refine y_newa 0 (N := 6) (ty := .int) rfl rfl (Or.inl ⟨rfl, rfl⟩) (by decide) (by decide) (by decide) (by decide) (by decide +kernel) (by decide) (by decide) ?_
  refine y_put (ci := 7) (k := 1) (fs' := [.ref 28, .ref 29, .null, .null]) (es' := yS51) rfl (List.mem_of_getElem? (i := 256) (by decide +kernel)) (by decide +kernel) rfl (by decide) rfl rfl ?_
  refine y_aload_n rfl rfl ?_
  refine y_bipush (v := 6) rfl (by decide) ?_
  refine y_newa 0 (N := 6) (ty := .int) rfl rfl (Or.inl ⟨rfl, rfl⟩) (by decide) (by decide) (by decide) (by decide) (by decide +kernel) (by decide) (by decide) ?_
  refine y_put (ci := 7) (k := 2) (fs' := [.ref 28, .ref 29, .ref 30, .null]) (es' := yS52) rfl (List.mem_of_getElem? (i := 257) (by decide +kernel)) (by decide +kernel) rfl (by decide) rfl rfl ?_
  refine y_aload_n rfl rfl ?_
  refine y_sipush (v := 360) rfl (by decide) ?_
  refine y_newa 1 (N := 360) (ty := .long) rfl rfl (Or.inr (Or.inl ⟨rfl, rfl⟩)) (by decide) (by decide) (by decide) (by decide) (by decide +kernel) (by decide) (by decide) ?_
  refine y_put (ci := 7) (k := 3) (fs' := [.ref 28, .ref 29, .ref 30, .ref 31]) (es' := yS53) rfl (List.mem_of_getElem? (i := 258) (by decide +kernel)) (by decide +kernel) rfl (by decide) rfl rfl ?_
  refine y_iconst (v := 0) rfl (by decide) ?_
  refine y_istore_n (lv' := [(0, .ref 27), (1, .int 0)]) rfl (by decide) rfl rfl ?_
  refine y_eqs (es' := (yS54 0)) (nc' := 4) (ns' := 378) (y0_7 ) rfl rfl ?_
  refine yl_7 0 (by decide) ?_
  refine y_eqs (es' := yS55) (nc' := 4) (ns' := 378) yN_7 rfl rfl ?_
  exact y_end (fun q hq => by cases (show q ∈ ([] : List (Nat × Value)) from hq)) rfl rfl rfl rfl rfl
abbrev yo_27 : YE := .inl (7, [.ref 28, .ref 29, .ref 30, .ref 31])
def yS56 : List YE := [.inl (10, [.ref 1, .ref 5, .ref 9, .ref 15, .ref 19, .ref 22, .null, .null, .null, .null]), yo_1, yr 10, .inr (0, 100, yst 100), yr 206, yo_5, yr 40, yr 40, yr 40, yo_9, yr 120, yo_11, yr 128, yr 128, yr 128, yo_15, yr 128, yr 128, yr 128, yo_19, yr 10, yr 6, yo_22, yr 10, yr 64, yr 64, yr 64, yo_27, .inr (0, 6, ymin 6), yr 6, yr 6, yrL 360]
def yS57 : List YE := [.inl (10, [.ref 1, .ref 5, .ref 9, .ref 15, .ref 19, .ref 22, .ref 27, .null, .null, .null]), yo_1, yr 10, .inr (0, 100, yst 100), yr 206, yo_5, yr 40, yr 40, yr 40, yo_9, yr 120, yo_11, yr 128, yr 128, yr 128, yo_15, yr 128, yr 128, yr 128, yo_19, yr 10, yr 6, yo_22, yr 10, yr 64, yr 64, yr 64, yo_27, .inr (0, 6, ymin 6), yr 6, yr 6, yrL 360]
def yS58 : List YE := [.inl (10, [.ref 1, .ref 5, .ref 9, .ref 15, .ref 19, .ref 22, .ref 27, .null, .null, .null]), yo_1, yr 10, .inr (0, 100, yst 100), yr 206, yo_5, yr 40, yr 40, yr 40, yo_9, yr 120, yo_11, yr 128, yr 128, yr 128, yo_15, yr 128, yr 128, yr 128, yo_19, yr 10, yr 6, yo_22, yr 10, yr 64, yr 64, yr 64, yo_27, .inr (0, 6, ymin 6), yr 6, yr 6, yrL 360, .inl (9, [.null, .null, .null])]
def yS59 : List YE := [.inl (10, [.ref 1, .ref 5, .ref 9, .ref 15, .ref 19, .ref 22, .ref 27, .null, .null, .null]), yo_1, yr 10, .inr (0, 100, yst 100), yr 206, yo_5, yr 40, yr 40, yr 40, yo_9, yr 120, yo_11, yr 128, yr 128, yr 128, yo_15, yr 128, yr 128, yr 128, yo_19, yr 10, yr 6, yo_22, yr 10, yr 64, yr 64, yr 64, yo_27, .inr (0, 6, ymin 6), yr 6, yr 6, yrL 360, .inl (9, [.ref 1, .null, .null])]
def yS60 : List YE := [.inl (10, [.ref 1, .ref 5, .ref 9, .ref 15, .ref 19, .ref 22, .ref 27, .null, .null, .null]), yo_1, yr 10, .inr (0, 100, yst 100), yr 206, yo_5, yr 40, yr 40, yr 40, yo_9, yr 120, yo_11, yr 128, yr 128, yr 128, yo_15, yr 128, yr 128, yr 128, yo_19, yr 10, yr 6, yo_22, yr 10, yr 64, yr 64, yr 64, yo_27, .inr (0, 6, ymin 6), yr 6, yr 6, yrL 360, .inl (9, [.ref 1, .ref 19, .null])]
def yS61 : List YE := [.inl (10, [.ref 1, .ref 5, .ref 9, .ref 15, .ref 19, .ref 22, .ref 27, .null, .null, .null]), yo_1, yr 10, .inr (0, 100, yst 100), yr 206, yo_5, yr 40, yr 40, yr 40, yo_9, yr 120, yo_11, yr 128, yr 128, yr 128, yo_15, yr 128, yr 128, yr 128, yo_19, yr 10, yr 6, yo_22, yr 10, yr 64, yr 64, yr 64, yo_27, .inr (0, 6, ymin 6), yr 6, yr 6, yrL 360, .inl (9, [.ref 1, .ref 19, .ref 27])]
def yF8 : YF := (11, [], [], yS61, 0, 0)
theorem yc_9 (Y : YC) : YSpec Y m_Y9 1 0 0 [.ref 32, .ref 1, .ref 19, .ref 27] yS58 yS61 := by
  refine YSpec.of (iF := 11) ky_9 rfl (by decide) rfl ?_
  show YW Y m_Y9 1 33 yF8 0 _ [] yS58 0 0
  refine y_aload_n rfl rfl ?_
  refine y_objInit rfl (List.mem_of_getElem? (i := 274) (by decide +kernel)) yo_i yo_c (by decide) (by decide) ?_
  refine y_aload_n rfl rfl ?_
  refine y_aload_n rfl rfl ?_
  refine y_put (ci := 9) (k := 0) (fs' := [.ref 1, .null, .null]) (es' := yS59) rfl (List.mem_of_getElem? (i := 275) (by decide +kernel)) (by decide +kernel) rfl (by decide) rfl rfl ?_
  refine y_aload_n rfl rfl ?_
  refine y_aload_n rfl rfl ?_
  refine y_put (ci := 9) (k := 1) (fs' := [.ref 1, .ref 19, .null]) (es' := yS60) rfl (List.mem_of_getElem? (i := 276) (by decide +kernel)) (by decide +kernel) rfl (by decide) rfl rfl ?_
  refine y_aload_n rfl rfl ?_
  refine y_aload_n rfl rfl ?_
  refine y_put (ci := 9) (k := 2) (fs' := [.ref 1, .ref 19, .ref 27]) (es' := yS61) rfl (List.mem_of_getElem? (i := 277) (by decide +kernel)) (by decide +kernel) rfl (by decide) rfl rfl ?_
  exact y_end (fun q hq => by cases (show q ∈ ([] : List (Nat × Value)) from hq)) rfl rfl rfl rfl rfl
abbrev yo_32 : YE := .inl (9, [.ref 1, .ref 19, .ref 27])
def yS62 : List YE := [.inl (10, [.ref 1, .ref 5, .ref 9, .ref 15, .ref 19, .ref 22, .ref 27, .null, .null, .null]), yo_1, yr 10, .inr (0, 100, yst 100), yr 206, yo_5, yr 40, yr 40, yr 40, yo_9, yr 120, yo_11, yr 128, yr 128, yr 128, yo_15, yr 128, yr 128, yr 128, yo_19, yr 10, yr 6, yo_22, yr 10, yr 64, yr 64, yr 64, yo_27, .inr (0, 6, ymin 6), yr 6, yr 6, yrL 360, yo_32]
def yS63 : List YE := [.inl (10, [.ref 1, .ref 5, .ref 9, .ref 15, .ref 19, .ref 22, .ref 27, .ref 32, .null, .null]), yo_1, yr 10, .inr (0, 100, yst 100), yr 206, yo_5, yr 40, yr 40, yr 40, yo_9, yr 120, yo_11, yr 128, yr 128, yr 128, yo_15, yr 128, yr 128, yr 128, yo_19, yr 10, yr 6, yo_22, yr 10, yr 64, yr 64, yr 64, yo_27, .inr (0, 6, ymin 6), yr 6, yr 6, yrL 360, yo_32]
def yS64 : List YE := [.inl (10, [.ref 1, .ref 5, .ref 9, .ref 15, .ref 19, .ref 22, .ref 27, .ref 32, .null, .null]), yo_1, yr 10, .inr (0, 100, yst 100), yr 206, yo_5, yr 40, yr 40, yr 40, yo_9, yr 120, yo_11, yr 128, yr 128, yr 128, yo_15, yr 128, yr 128, yr 128, yo_19, yr 10, yr 6, yo_22, yr 10, yr 64, yr 64, yr 64, yo_27, .inr (0, 6, ymin 6), yr 6, yr 6, yrL 360, yo_32, .inl (4, [.null, .null, .int 0])]
def yS65 : List YE := [.inl (10, [.ref 1, .ref 5, .ref 9, .ref 15, .ref 19, .ref 22, .ref 27, .ref 32, .null, .null]), yo_1, yr 10, .inr (0, 100, yst 100), yr 206, yo_5, yr 40, yr 40, yr 40, yo_9, yr 120, yo_11, yr 128, yr 128, yr 128, yo_15, yr 128, yr 128, yr 128, yo_19, yr 10, yr 6, yo_22, yr 10, yr 64, yr 64, yr 64, yo_27, .inr (0, 6, ymin 6), yr 6, yr 6, yrL 360, yo_32, .inl (4, [.ref 34, .null, .int 0]), yr 6]
def yS66 : List YE := [.inl (10, [.ref 1, .ref 5, .ref 9, .ref 15, .ref 19, .ref 22, .ref 27, .ref 32, .null, .null]), yo_1, yr 10, .inr (0, 100, yst 100), yr 206, yo_5, yr 40, yr 40, yr 40, yo_9, yr 120, yo_11, yr 128, yr 128, yr 128, yo_15, yr 128, yr 128, yr 128, yo_19, yr 10, yr 6, yo_22, yr 10, yr 64, yr 64, yr 64, yo_27, .inr (0, 6, ymin 6), yr 6, yr 6, yrL 360, yo_32, .inl (4, [.ref 34, .ref 35, .int 0]), yr 6, yr 6]
def yF9 : YF := (10, [], [], yS66, 2, 12)
theorem yc_4 (Y : YC) : YSpec Y m_Y4 1 2 12 [.ref 33] yS64 yS66 := by
  refine YSpec.of (iF := 10) ky_4 rfl (by decide) rfl ?_
  show YW Y m_Y4 1 34 yF9 0 _ [] yS64 0 0
  refine y_aload_n rfl rfl ?_
  refine y_objInit rfl (List.mem_of_getElem? (i := 290) (by decide +kernel)) yo_i yo_c (by decide) (by decide) ?_
  refine y_aload_n rfl rfl ?_
  refine y_bipush (v := 6) rfl (by decide) ?_
  refine y_newa 0 (N := 6) (ty := .int) rfl rfl (Or.inl ⟨rfl, rfl⟩) (by decide) (by decide) (by decide) (by decide) (by decide +kernel) (by decide) (by decide) ?_
  refine y_put (ci := 4) (k := 0) (fs' := [.ref 34, .null, .int 0]) (es' := yS65) rfl (List.mem_of_getElem? (i := 291) (by decide +kernel)) (by decide +kernel) rfl (by decide) rfl rfl ?_
  refine y_aload_n rfl rfl ?_
  refine y_bipush (v := 6) rfl (by decide) ?_
  refine y_newa 0 (N := 6) (ty := .int) rfl rfl (Or.inl ⟨rfl, rfl⟩) (by decide) (by decide) (by decide) (by decide) (by decide +kernel) (by decide) (by decide) ?_
  refine y_put (ci := 4) (k := 1) (fs' := [.ref 34, .ref 35, .int 0]) (es' := yS66) rfl (List.mem_of_getElem? (i := 292) (by decide +kernel)) (by decide +kernel) rfl (by decide) rfl rfl ?_
  exact y_end (fun q hq => by cases (show q ∈ ([] : List (Nat × Value)) from hq)) rfl rfl rfl rfl rfl
abbrev yo_33 : YE := .inl (4, [.ref 34, .ref 35, .int 0])
def yS67 : List YE := [.inl (10, [.ref 1, .ref 5, .ref 9, .ref 15, .ref 19, .ref 22, .ref 27, .ref 32, .null, .null]), yo_1, yr 10, .inr (0, 100, yst 100), yr 206, yo_5, yr 40, yr 40, yr 40, yo_9, yr 120, yo_11, yr 128, yr 128, yr 128, yo_15, yr 128, yr 128, yr 128, yo_19, yr 10, yr 6, yo_22, yr 10, yr 64, yr 64, yr 64, yo_27, .inr (0, 6, ymin 6), yr 6, yr 6, yrL 360, yo_32, yo_33, yr 6, yr 6]
def yS68 : List YE := [.inl (10, [.ref 1, .ref 5, .ref 9, .ref 15, .ref 19, .ref 22, .ref 27, .ref 32, .ref 33, .null]), yo_1, yr 10, .inr (0, 100, yst 100), yr 206, yo_5, yr 40, yr 40, yr 40, yo_9, yr 120, yo_11, yr 128, yr 128, yr 128, yo_15, yr 128, yr 128, yr 128, yo_19, yr 10, yr 6, yo_22, yr 10, yr 64, yr 64, yr 64, yo_27, .inr (0, 6, ymin 6), yr 6, yr 6, yrL 360, yo_32, yo_33, yr 6, yr 6]
def yS69 : List YE := [.inl (10, [.ref 1, .ref 5, .ref 9, .ref 15, .ref 19, .ref 22, .ref 27, .ref 32, .ref 33, .null]), yo_1, yr 10, .inr (0, 100, yst 100), yr 206, yo_5, yr 40, yr 40, yr 40, yo_9, yr 120, yo_11, yr 128, yr 128, yr 128, yo_15, yr 128, yr 128, yr 128, yo_19, yr 10, yr 6, yo_22, yr 10, yr 64, yr 64, yr 64, yo_27, .inr (0, 6, ymin 6), yr 6, yr 6, yrL 360, yo_32, yo_33, yr 6, yr 6, .inl (8, [.null, .null, .int 0, .int 0])]
def yS70 : List YE := [.inl (10, [.ref 1, .ref 5, .ref 9, .ref 15, .ref 19, .ref 22, .ref 27, .ref 32, .ref 33, .null]), yo_1, yr 10, .inr (0, 100, yst 100), yr 206, yo_5, yr 40, yr 40, yr 40, yo_9, yr 120, yo_11, yr 128, yr 128, yr 128, yo_15, yr 128, yr 128, yr 128, yo_19, yr 10, yr 6, yo_22, yr 10, yr 64, yr 64, yr 64, yo_27, .inr (0, 6, ymin 6), yr 6, yr 6, yrL 360, yo_32, yo_33, yr 6, yr 6, .inl (8, [.ref 37, .null, .int 0, .int 0]), yr 50]
def yS71 : List YE := [.inl (10, [.ref 1, .ref 5, .ref 9, .ref 15, .ref 19, .ref 22, .ref 27, .ref 32, .ref 33, .null]), yo_1, yr 10, .inr (0, 100, yst 100), yr 206, yo_5, yr 40, yr 40, yr 40, yo_9, yr 120, yo_11, yr 128, yr 128, yr 128, yo_15, yr 128, yr 128, yr 128, yo_19, yr 10, yr 6, yo_22, yr 10, yr 64, yr 64, yr 64, yo_27, .inr (0, 6, ymin 6), yr 6, yr 6, yrL 360, yo_32, yo_33, yr 6, yr 6, .inl (8, [.ref 37, .ref 38, .int 0, .int 0]), yr 50, yr 24]
def yF10 : YF := (10, [], [], yS71, 2, 74)
theorem yc_8 (Y : YC) : YSpec Y m_Y8 1 2 74 [.ref 36] yS69 yS71 := by
  refine YSpec.of (iF := 10) ky_8 rfl (by decide) rfl ?_
  show YW Y m_Y8 1 37 yF10 0 _ [] yS69 0 0
  refine y_aload_n rfl rfl ?_
  refine y_objInit rfl (List.mem_of_getElem? (i := 306) (by decide +kernel)) yo_i yo_c (by decide) (by decide) ?_
  refine y_aload_n rfl rfl ?_
  refine y_bipush (v := 50) rfl (by decide) ?_
  refine y_newa 0 (N := 50) (ty := .int) rfl rfl (Or.inl ⟨rfl, rfl⟩) (by decide) (by decide) (by decide) (by decide) (by decide +kernel) (by decide) (by decide) ?_
  refine y_put (ci := 8) (k := 0) (fs' := [.ref 37, .null, .int 0, .int 0]) (es' := yS70) rfl (List.mem_of_getElem? (i := 307) (by decide +kernel)) (by decide +kernel) rfl (by decide) rfl rfl ?_
  refine y_aload_n rfl rfl ?_
  refine y_bipush (v := 24) rfl (by decide) ?_
  refine y_newa 0 (N := 24) (ty := .int) rfl rfl (Or.inl ⟨rfl, rfl⟩) (by decide) (by decide) (by decide) (by decide) (by decide +kernel) (by decide) (by decide) ?_
  refine y_put (ci := 8) (k := 1) (fs' := [.ref 37, .ref 38, .int 0, .int 0]) (es' := yS71) rfl (List.mem_of_getElem? (i := 308) (by decide +kernel)) (by decide +kernel) rfl (by decide) rfl rfl ?_
  exact y_end (fun q hq => by cases (show q ∈ ([] : List (Nat × Value)) from hq)) rfl rfl rfl rfl rfl
abbrev yo_36 : YE := .inl (8, [.ref 37, .ref 38, .int 0, .int 0])
def yS72 : List YE := [.inl (10, [.ref 1, .ref 5, .ref 9, .ref 15, .ref 19, .ref 22, .ref 27, .ref 32, .ref 33, .null]), yo_1, yr 10, .inr (0, 100, yst 100), yr 206, yo_5, yr 40, yr 40, yr 40, yo_9, yr 120, yo_11, yr 128, yr 128, yr 128, yo_15, yr 128, yr 128, yr 128, yo_19, yr 10, yr 6, yo_22, yr 10, yr 64, yr 64, yr 64, yo_27, .inr (0, 6, ymin 6), yr 6, yr 6, yrL 360, yo_32, yo_33, yr 6, yr 6, yo_36, yr 50, yr 24]
def yS73 : List YE := [.inl (10, [.ref 1, .ref 5, .ref 9, .ref 15, .ref 19, .ref 22, .ref 27, .ref 32, .ref 33, .ref 36]), yo_1, yr 10, .inr (0, 100, yst 100), yr 206, yo_5, yr 40, yr 40, yr 40, yo_9, yr 120, yo_11, yr 128, yr 128, yr 128, yo_15, yr 128, yr 128, yr 128, yo_19, yr 10, yr 6, yo_22, yr 10, yr 64, yr 64, yr 64, yo_27, .inr (0, 6, ymin 6), yr 6, yr 6, yrL 360, yo_32, yo_33, yr 6, yr 6, yo_36, yr 50, yr 24]
def yF11 : YF := (68, [], [], yS73, 38, 2057)
theorem yc_10 (Y : YC) : YSpec Y m_Y10 3 38 2057 [.ref 0] [.inl (10, [.null, .null, .null, .null, .null, .null, .null, .null, .null, .null])] yS73 := by
  refine YSpec.of (iF := 68) ky_10 rfl (by decide) rfl ?_
  show YW Y m_Y10 3 1 yF11 0 _ [] [.inl (10, [.null, .null, .null, .null, .null, .null, .null, .null, .null, .null])] 0 0
  refine y_aload_n rfl rfl ?_
  refine y_objInit rfl (List.mem_of_getElem? (i := 90) (by decide +kernel)) yo_i yo_c (by decide) (by decide) ?_
  refine y_aload_n rfl rfl ?_
  refine y_new (ci := 3) (N := 8) rfl (by decide) yb_3 (by decide +kernel) rfl ⟨(List.mem_of_getElem? (i := 93) (by decide +kernel)), (List.mem_of_getElem? (i := 94) (by decide +kernel)), (List.mem_of_getElem? (i := 71) (by decide +kernel))⟩ (by decide) (by decide +kernel) (by decide) (by decide) ?_
  refine y_eqs (es' := yS0) (nc' := 1) (ns' := 8) rfl rfl rfl ?_
  refine y_dup rfl ?_
  refine y_callI (M' := m_Y3) (d' := 1) (mc := 3) (ms := 316) (as := []) (o := 1) (rest := [.ref 1, .ref 0]) rfl (List.mem_of_getElem? (i := 95) (by decide +kernel)) vy_3 (by decide) rfl rfl (by decide) (by decide) (by decide +kernel) (by decide) (by decide) (yc_3 Y) ?_
  refine y_eqs (es' := yS8) (nc' := 4) (ns' := 324) rfl rfl rfl ?_
  refine y_put (ci := 10) (k := 0) (fs' := [.ref 1, .null, .null, .null, .null, .null, .null, .null, .null, .null]) (es' := yS9) rfl (List.mem_of_getElem? (i := 320) (by decide +kernel)) (by decide +kernel) rfl (by decide) rfl rfl ?_
  refine y_aload_n rfl rfl ?_
  refine y_new (ci := 1) (N := 6) rfl (by decide) yb_1 (by decide +kernel) rfl ⟨(List.mem_of_getElem? (i := 135) (by decide +kernel)), (List.mem_of_getElem? (i := 136) (by decide +kernel)), (List.mem_of_getElem? (i := 72) (by decide +kernel))⟩ (by decide) (by decide +kernel) (by decide) (by decide) ?_
  refine y_eqs (es' := yS10) (nc' := 5) (ns' := 330) rfl rfl rfl ?_
  refine y_dup rfl ?_
  refine y_aload_n rfl rfl ?_
  refine y_get (ci := 10) (k := 0) rfl ⟨by decide, by decide, rfl, Or.inl (List.mem_of_getElem? (i := 320) (by decide +kernel))⟩ rfl rfl ?_
  refine y_callI (M' := m_Y1) (d' := 1) (mc := 3) (ms := 120) (as := [.ref 1]) (o := 5) (rest := [.ref 5, .ref 0]) rfl (List.mem_of_getElem? (i := 137) (by decide +kernel)) vy_1 (by decide) rfl rfl (by decide) (by decide) (by decide +kernel) (by decide) (by decide) (yc_1 Y) ?_
  refine y_eqs (es' := yS15) (nc' := 8) (ns' := 450) rfl rfl rfl ?_
  refine y_put (ci := 10) (k := 1) (fs' := [.ref 1, .ref 5, .null, .null, .null, .null, .null, .null, .null, .null]) (es' := yS16) rfl (List.mem_of_getElem? (i := 321) (by decide +kernel)) (by decide +kernel) rfl (by decide) rfl rfl ?_
  refine y_aload_n rfl rfl ?_
  refine y_new (ci := 6) (N := 4) rfl (by decide) yb_6 (by decide +kernel) rfl ⟨(List.mem_of_getElem? (i := 160) (by decide +kernel)), (List.mem_of_getElem? (i := 161) (by decide +kernel)), (List.mem_of_getElem? (i := 73) (by decide +kernel))⟩ (by decide) (by decide +kernel) (by decide) (by decide) ?_
  refine y_eqs (es' := yS17) (nc' := 9) (ns' := 454) rfl rfl rfl ?_
  refine y_dup rfl ?_
  refine y_callN (M' := m_Y6) (d' := 2) (mc := 5) (ms := 508) (as := []) (o := 9) (rest := [.ref 9, .ref 0]) (host := "VotesUntouched") rfl (List.mem_of_getElem? (i := 162) (by decide +kernel)) vy_6 (by decide) rfl rfl (by decide) (by decide) (by decide +kernel) (by decide) (by decide) (yc_6 Y) ?_
  refine y_eqs (es' := yS25) (nc' := 14) (ns' := 962) rfl rfl rfl ?_
  refine y_put (ci := 10) (k := 2) (fs' := [.ref 1, .ref 5, .ref 9, .null, .null, .null, .null, .null, .null, .null]) (es' := yS26) rfl (List.mem_of_getElem? (i := 322) (by decide +kernel)) (by decide +kernel) rfl (by decide) rfl rfl ?_
  refine y_aload_n rfl rfl ?_
  refine y_new (ci := 2) (N := 4) rfl (by decide) yb_2 (by decide +kernel) rfl ⟨(List.mem_of_getElem? (i := 200) (by decide +kernel)), (List.mem_of_getElem? (i := 167) (by decide +kernel)), (List.mem_of_getElem? (i := 74) (by decide +kernel))⟩ (by decide) (by decide +kernel) (by decide) (by decide) ?_
  refine y_eqs (es' := yS27) (nc' := 15) (ns' := 966) rfl rfl rfl ?_
  refine y_dup rfl ?_
  refine y_callN (M' := m_Y2) (d' := 1) (mc := 3) (ms := 384) (as := []) (o := 15) (rest := [.ref 15, .ref 0]) (host := "VotesUntouched") rfl (List.mem_of_getElem? (i := 201) (by decide +kernel)) vy_2 (by decide) rfl rfl (by decide) (by decide) (by decide +kernel) (by decide) (by decide) (yc_2_2 Y) ?_
  refine y_eqs (es' := yS31) (nc' := 18) (ns' := 1350) rfl rfl rfl ?_
  refine y_put (ci := 10) (k := 3) (fs' := [.ref 1, .ref 5, .ref 9, .ref 15, .null, .null, .null, .null, .null, .null]) (es' := yS32) rfl (List.mem_of_getElem? (i := 323) (by decide +kernel)) (by decide +kernel) rfl (by decide) rfl rfl ?_
  refine y_aload_n rfl rfl ?_
  refine y_new (ci := 0) (N := 5) rfl (by decide) yb_0 (by decide +kernel) rfl ⟨(List.mem_of_getElem? (i := 202) (by decide +kernel)), (List.mem_of_getElem? (i := 203) (by decide +kernel)), (List.mem_of_getElem? (i := 75) (by decide +kernel))⟩ (by decide) (by decide +kernel) (by decide) (by decide) ?_
  refine y_eqs (es' := yS33) (nc' := 19) (ns' := 1355) rfl rfl rfl ?_
  refine y_dup rfl ?_
  refine y_aload_n rfl rfl ?_
  refine y_get (ci := 10) (k := 0) rfl ⟨by decide, by decide, rfl, Or.inl (List.mem_of_getElem? (i := 320) (by decide +kernel))⟩ rfl rfl ?_
  refine y_aload_n rfl rfl ?_
  refine y_get (ci := 10) (k := 3) rfl ⟨by decide, by decide, rfl, Or.inl (List.mem_of_getElem? (i := 323) (by decide +kernel))⟩ rfl rfl ?_
  refine y_callI (M' := m_Y0) (d' := 1) (mc := 2) (ms := 16) (as := [.ref 1, .ref 15]) (o := 19) (rest := [.ref 19, .ref 0]) rfl (List.mem_of_getElem? (i := 204) (by decide +kernel)) vy_0 (by decide) rfl rfl (by decide) (by decide) (by decide +kernel) (by decide) (by decide) (yc_0 Y) ?_
  refine y_eqs (es' := yS38) (nc' := 21) (ns' := 1371) rfl rfl rfl ?_
  refine y_put (ci := 10) (k := 4) (fs' := [.ref 1, .ref 5, .ref 9, .ref 15, .ref 19, .null, .null, .null, .null, .null]) (es' := yS39) rfl (List.mem_of_getElem? (i := 324) (by decide +kernel)) (by decide +kernel) rfl (by decide) rfl rfl ?_
  refine y_aload_n rfl rfl ?_
  refine y_new (ci := 5) (N := 6) rfl (by decide) yb_5 (by decide +kernel) rfl ⟨(List.mem_of_getElem? (i := 224) (by decide +kernel)), (List.mem_of_getElem? (i := 225) (by decide +kernel)), (List.mem_of_getElem? (i := 76) (by decide +kernel))⟩ (by decide) (by decide +kernel) (by decide) (by decide) ?_
  refine y_eqs (es' := yS40) (nc' := 22) (ns' := 1377) rfl rfl rfl ?_
  refine y_dup rfl ?_
  refine y_aload_n rfl rfl ?_
  refine y_get (ci := 10) (k := 0) rfl ⟨by decide, by decide, rfl, Or.inl (List.mem_of_getElem? (i := 320) (by decide +kernel))⟩ rfl rfl ?_
  refine y_aload_n rfl rfl ?_
  refine y_get (ci := 10) (k := 4) rfl ⟨by decide, by decide, rfl, Or.inl (List.mem_of_getElem? (i := 324) (by decide +kernel))⟩ rfl rfl ?_
  refine y_callI (M' := m_Y5) (d' := 1) (mc := 4) (ms := 202) (as := [.ref 1, .ref 19]) (o := 22) (rest := [.ref 22, .ref 0]) rfl (List.mem_of_getElem? (i := 226) (by decide +kernel)) vy_5 (by decide) rfl rfl (by decide) (by decide) (by decide +kernel) (by decide) (by decide) (yc_5 Y) ?_
  refine y_eqs (es' := yS47) (nc' := 26) (ns' := 1579) rfl rfl rfl ?_
  refine y_put (ci := 10) (k := 5) (fs' := [.ref 1, .ref 5, .ref 9, .ref 15, .ref 19, .ref 22, .null, .null, .null, .null]) (es' := yS48) rfl (List.mem_of_getElem? (i := 325) (by decide +kernel)) (by decide +kernel) rfl (by decide) rfl rfl ?_
  refine y_aload_n rfl rfl ?_
  refine y_new (ci := 7) (N := 4) rfl (by decide) yb_7 (by decide +kernel) rfl ⟨(List.mem_of_getElem? (i := 249) (by decide +kernel)), (List.mem_of_getElem? (i := 250) (by decide +kernel)), (List.mem_of_getElem? (i := 77) (by decide +kernel))⟩ (by decide) (by decide +kernel) (by decide) (by decide) ?_
  refine y_eqs (es' := yS49) (nc' := 27) (ns' := 1583) rfl rfl rfl ?_
  refine y_dup rfl ?_
  refine y_callI (M' := m_Y7) (d' := 1) (mc := 4) (ms := 378) (as := []) (o := 27) (rest := [.ref 27, .ref 0]) rfl (List.mem_of_getElem? (i := 251) (by decide +kernel)) vy_7 (by decide) rfl rfl (by decide) (by decide) (by decide +kernel) (by decide) (by decide) (yc_7 Y) ?_
  refine y_eqs (es' := yS56) (nc' := 31) (ns' := 1961) rfl rfl rfl ?_
  refine y_put (ci := 10) (k := 6) (fs' := [.ref 1, .ref 5, .ref 9, .ref 15, .ref 19, .ref 22, .ref 27, .null, .null, .null]) (es' := yS57) rfl (List.mem_of_getElem? (i := 326) (by decide +kernel)) (by decide +kernel) rfl (by decide) rfl rfl ?_
  refine y_aload_n rfl rfl ?_
  refine y_new (ci := 9) (N := 3) rfl (by decide) yb_9 (by decide +kernel) rfl ⟨(List.mem_of_getElem? (i := 269) (by decide +kernel)), (List.mem_of_getElem? (i := 270) (by decide +kernel)), (List.mem_of_getElem? (i := 78) (by decide +kernel))⟩ (by decide) (by decide +kernel) (by decide) (by decide) ?_
  refine y_eqs (es' := yS58) (nc' := 32) (ns' := 1964) rfl rfl rfl ?_
  refine y_dup rfl ?_
  refine y_aload_n rfl rfl ?_
  refine y_get (ci := 10) (k := 0) rfl ⟨by decide, by decide, rfl, Or.inl (List.mem_of_getElem? (i := 320) (by decide +kernel))⟩ rfl rfl ?_
  refine y_aload_n rfl rfl ?_
  refine y_get (ci := 10) (k := 4) rfl ⟨by decide, by decide, rfl, Or.inl (List.mem_of_getElem? (i := 324) (by decide +kernel))⟩ rfl rfl ?_
  refine y_aload_n rfl rfl ?_
  refine y_get (ci := 10) (k := 6) rfl ⟨by decide, by decide, rfl, Or.inl (List.mem_of_getElem? (i := 326) (by decide +kernel))⟩ rfl rfl ?_
  refine y_callI (M' := m_Y9) (d' := 1) (mc := 0) (ms := 0) (as := [.ref 1, .ref 19, .ref 27]) (o := 32) (rest := [.ref 32, .ref 0]) rfl (List.mem_of_getElem? (i := 271) (by decide +kernel)) vy_9 (by decide) rfl rfl (by decide) (by decide) (by decide +kernel) (by decide) (by decide) (yc_9 Y) ?_
  refine y_eqs (es' := yS62) (nc' := 32) (ns' := 1964) rfl rfl rfl ?_
  refine y_put (ci := 10) (k := 7) (fs' := [.ref 1, .ref 5, .ref 9, .ref 15, .ref 19, .ref 22, .ref 27, .ref 32, .null, .null]) (es' := yS63) rfl (List.mem_of_getElem? (i := 327) (by decide +kernel)) (by decide +kernel) rfl (by decide) rfl rfl ?_
  refine y_aload_n rfl rfl ?_
  refine y_new (ci := 4) (N := 3) rfl (by decide) yb_4 (by decide +kernel) rfl ⟨(List.mem_of_getElem? (i := 285) (by decide +kernel)), (List.mem_of_getElem? (i := 286) (by decide +kernel)), (List.mem_of_getElem? (i := 79) (by decide +kernel))⟩ (by decide) (by decide +kernel) (by decide) (by decide) ?_
  refine y_eqs (es' := yS64) (nc' := 33) (ns' := 1967) rfl rfl rfl ?_
  refine y_dup rfl ?_
  refine y_callN (M' := m_Y4) (d' := 1) (mc := 2) (ms := 12) (as := []) (o := 33) (rest := [.ref 33, .ref 0]) (host := "VotesUntouched") rfl (List.mem_of_getElem? (i := 287) (by decide +kernel)) vy_4 (by decide) rfl rfl (by decide) (by decide) (by decide +kernel) (by decide) (by decide) (yc_4 Y) ?_
  refine y_eqs (es' := yS67) (nc' := 35) (ns' := 1979) rfl rfl rfl ?_
  refine y_put (ci := 10) (k := 8) (fs' := [.ref 1, .ref 5, .ref 9, .ref 15, .ref 19, .ref 22, .ref 27, .ref 32, .ref 33, .null]) (es' := yS68) rfl (List.mem_of_getElem? (i := 328) (by decide +kernel)) (by decide +kernel) rfl (by decide) rfl rfl ?_
  refine y_aload_n rfl rfl ?_
  refine y_new (ci := 8) (N := 4) rfl (by decide) yb_8 (by decide +kernel) rfl ⟨(List.mem_of_getElem? (i := 301) (by decide +kernel)), (List.mem_of_getElem? (i := 302) (by decide +kernel)), (List.mem_of_getElem? (i := 80) (by decide +kernel))⟩ (by decide) (by decide +kernel) (by decide) (by decide) ?_
  refine y_eqs (es' := yS69) (nc' := 36) (ns' := 1983) rfl rfl rfl ?_
  refine y_dup rfl ?_
  refine y_callN (M' := m_Y8) (d' := 1) (mc := 2) (ms := 74) (as := []) (o := 36) (rest := [.ref 36, .ref 0]) (host := "VotesUntouched") rfl (List.mem_of_getElem? (i := 303) (by decide +kernel)) vy_8 (by decide) rfl rfl (by decide) (by decide) (by decide +kernel) (by decide) (by decide) (yc_8 Y) ?_
  refine y_eqs (es' := yS72) (nc' := 38) (ns' := 2057) rfl rfl rfl ?_
  refine y_put (ci := 10) (k := 9) (fs' := [.ref 1, .ref 5, .ref 9, .ref 15, .ref 19, .ref 22, .ref 27, .ref 32, .ref 33, .ref 36]) (es' := yS73) rfl (List.mem_of_getElem? (i := 329) (by decide +kernel)) (by decide +kernel) rfl (by decide) rfl rfl ?_
  exact y_end (fun q hq => by cases (show q ∈ ([] : List (Nat × Value)) from hq)) rfl rfl rfl rfl rfl
def yS74 : List YE := [.inl (10, [.ref 1, .ref 5, .ref 9, .ref 15, .ref 19, .ref 22, .ref 27, .ref 32, .ref 33, .ref 36]), yo_1, yr 10, .inr (0, 100, yst 100), yr 206, yo_5, yr 40, yr 40, yr 40, yo_9, yr 120, yo_11, yr 128, yr 128, yr 128, yo_15, yr 128, yr 128, yr 128, yo_19, yr 10, yr 6, yo_22, yr 10, yr 64, yr 64, yr 64, yo_27, .inr (0, 6, ymin 6), yr 6, yr 6, yrL 360, yo_32, yo_33, yr 6, yr 6, yo_36, yr 50, yr 24, .inl (11, [.null, .null, .null, .null, .int 0, .int 0, .int 0, .int 0, .null, .int 0, .null, .int 0, .int 0, .null, .int 0, .null, .int 0, .int 0, .int 0, .int 0, .int 0, .int 0, .null, .null, .null, .int 0, .null, .null, .null, .null, .null, .int 0, .int 0, .null, .null, .int 0, .int 0, .int 0, .null, .null, .null, .null])]
def yS75 : List YE := [.inl (10, [.ref 1, .ref 5, .ref 9, .ref 15, .ref 19, .ref 22, .ref 27, .ref 32, .ref 33, .ref 36]), yo_1, yr 10, .inr (0, 100, yst 100), yr 206, yo_5, yr 40, yr 40, yr 40, yo_9, yr 120, yo_11, yr 128, yr 128, yr 128, yo_15, yr 128, yr 128, yr 128, yo_19, yr 10, yr 6, yo_22, yr 10, yr 64, yr 64, yr 64, yo_27, .inr (0, 6, ymin 6), yr 6, yr 6, yrL 360, yo_32, yo_33, yr 6, yr 6, yo_36, yr 50, yr 24, .inl (11, [.ref 40, .null, .null, .null, .int 0, .int 0, .int 0, .int 0, .null, .int 0, .null, .int 0, .int 0, .null, .int 0, .null, .int 0, .int 0, .int 0, .int 0, .int 0, .int 0, .null, .null, .null, .int 0, .null, .null, .null, .null, .null, .int 0, .int 0, .null, .null, .int 0, .int 0, .int 0, .null, .null, .null, .null]), yr 126]
def yS76 : List YE := [.inl (10, [.ref 1, .ref 5, .ref 9, .ref 15, .ref 19, .ref 22, .ref 27, .ref 32, .ref 33, .ref 36]), yo_1, yr 10, .inr (0, 100, yst 100), yr 206, yo_5, yr 40, yr 40, yr 40, yo_9, yr 120, yo_11, yr 128, yr 128, yr 128, yo_15, yr 128, yr 128, yr 128, yo_19, yr 10, yr 6, yo_22, yr 10, yr 64, yr 64, yr 64, yo_27, .inr (0, 6, ymin 6), yr 6, yr 6, yrL 360, yo_32, yo_33, yr 6, yr 6, yo_36, yr 50, yr 24, .inl (11, [.ref 40, .ref 41, .null, .null, .int 0, .int 0, .int 0, .int 0, .null, .int 0, .null, .int 0, .int 0, .null, .int 0, .null, .int 0, .int 0, .int 0, .int 0, .int 0, .int 0, .null, .null, .null, .int 0, .null, .null, .null, .null, .null, .int 0, .int 0, .null, .null, .int 0, .int 0, .int 0, .null, .null, .null, .null]), yr 126, yr 40]
def yS77 : List YE := [.inl (10, [.ref 1, .ref 5, .ref 9, .ref 15, .ref 19, .ref 22, .ref 27, .ref 32, .ref 33, .ref 36]), yo_1, yr 10, .inr (0, 100, yst 100), yr 206, yo_5, yr 40, yr 40, yr 40, yo_9, yr 120, yo_11, yr 128, yr 128, yr 128, yo_15, yr 128, yr 128, yr 128, yo_19, yr 10, yr 6, yo_22, yr 10, yr 64, yr 64, yr 64, yo_27, .inr (0, 6, ymin 6), yr 6, yr 6, yrL 360, yo_32, yo_33, yr 6, yr 6, yo_36, yr 50, yr 24, .inl (11, [.ref 40, .ref 41, .ref 42, .null, .int 0, .int 0, .int 0, .int 0, .null, .int 0, .null, .int 0, .int 0, .null, .int 0, .null, .int 0, .int 0, .int 0, .int 0, .int 0, .int 0, .null, .null, .null, .int 0, .null, .null, .null, .null, .null, .int 0, .int 0, .null, .null, .int 0, .int 0, .int 0, .null, .null, .null, .null]), yr 126, yr 40, yr 40]
def yS78 : List YE := [.inl (10, [.ref 1, .ref 5, .ref 9, .ref 15, .ref 19, .ref 22, .ref 27, .ref 32, .ref 33, .ref 36]), yo_1, yr 10, .inr (0, 100, yst 100), yr 206, yo_5, yr 40, yr 40, yr 40, yo_9, yr 120, yo_11, yr 128, yr 128, yr 128, yo_15, yr 128, yr 128, yr 128, yo_19, yr 10, yr 6, yo_22, yr 10, yr 64, yr 64, yr 64, yo_27, .inr (0, 6, ymin 6), yr 6, yr 6, yrL 360, yo_32, yo_33, yr 6, yr 6, yo_36, yr 50, yr 24, .inl (11, [.ref 40, .ref 41, .ref 42, .ref 43, .int 0, .int 0, .int 0, .int 0, .null, .int 0, .null, .int 0, .int 0, .null, .int 0, .null, .int 0, .int 0, .int 0, .int 0, .int 0, .int 0, .null, .null, .null, .int 0, .null, .null, .null, .null, .null, .int 0, .int 0, .null, .null, .int 0, .int 0, .int 0, .null, .null, .null, .null]), yr 126, yr 40, yr 40, yr 40]
def yS79 : List YE := [.inl (10, [.ref 1, .ref 5, .ref 9, .ref 15, .ref 19, .ref 22, .ref 27, .ref 32, .ref 33, .ref 36]), yo_1, yr 10, .inr (0, 100, yst 100), yr 206, yo_5, yr 40, yr 40, yr 40, yo_9, yr 120, yo_11, yr 128, yr 128, yr 128, yo_15, yr 128, yr 128, yr 128, yo_19, yr 10, yr 6, yo_22, yr 10, yr 64, yr 64, yr 64, yo_27, .inr (0, 6, ymin 6), yr 6, yr 6, yrL 360, yo_32, yo_33, yr 6, yr 6, yo_36, yr 50, yr 24, .inl (11, [.ref 40, .ref 41, .ref 42, .ref 43, .int 0, .int 0, .int 0, .int 0, .ref 44, .int 0, .null, .int 0, .int 0, .null, .int 0, .null, .int 0, .int 0, .int 0, .int 0, .int 0, .int 0, .null, .null, .null, .int 0, .null, .null, .null, .null, .null, .int 0, .int 0, .null, .null, .int 0, .int 0, .int 0, .null, .null, .null, .null]), yr 126, yr 40, yr 40, yr 40, yr 10]
def yS80 : List YE := [.inl (10, [.ref 1, .ref 5, .ref 9, .ref 15, .ref 19, .ref 22, .ref 27, .ref 32, .ref 33, .ref 36]), yo_1, yr 10, .inr (0, 100, yst 100), yr 206, yo_5, yr 40, yr 40, yr 40, yo_9, yr 120, yo_11, yr 128, yr 128, yr 128, yo_15, yr 128, yr 128, yr 128, yo_19, yr 10, yr 6, yo_22, yr 10, yr 64, yr 64, yr 64, yo_27, .inr (0, 6, ymin 6), yr 6, yr 6, yrL 360, yo_32, yo_33, yr 6, yr 6, yo_36, yr 50, yr 24, .inl (11, [.ref 40, .ref 41, .ref 42, .ref 43, .int 0, .int 0, .int 0, .int 0, .ref 44, .int 0, .ref 45, .int 0, .int 0, .null, .int 0, .null, .int 0, .int 0, .int 0, .int 0, .int 0, .int 0, .null, .null, .null, .int 0, .null, .null, .null, .null, .null, .int 0, .int 0, .null, .null, .int 0, .int 0, .int 0, .null, .null, .null, .null]), yr 126, yr 40, yr 40, yr 40, yr 10, yr 10]
def yS81 : List YE := [.inl (10, [.ref 1, .ref 5, .ref 9, .ref 15, .ref 19, .ref 22, .ref 27, .ref 32, .ref 33, .ref 36]), yo_1, yr 10, .inr (0, 100, yst 100), yr 206, yo_5, yr 40, yr 40, yr 40, yo_9, yr 120, yo_11, yr 128, yr 128, yr 128, yo_15, yr 128, yr 128, yr 128, yo_19, yr 10, yr 6, yo_22, yr 10, yr 64, yr 64, yr 64, yo_27, .inr (0, 6, ymin 6), yr 6, yr 6, yrL 360, yo_32, yo_33, yr 6, yr 6, yo_36, yr 50, yr 24, .inl (11, [.ref 40, .ref 41, .ref 42, .ref 43, .int 0, .int 0, .int 0, .int 0, .ref 44, .int 0, .ref 45, .int 0, .int 0, .ref 46, .int 0, .null, .int 0, .int 0, .int 0, .int 0, .int 0, .int 0, .null, .null, .null, .int 0, .null, .null, .null, .null, .null, .int 0, .int 0, .null, .null, .int 0, .int 0, .int 0, .null, .null, .null, .null]), yr 126, yr 40, yr 40, yr 40, yr 10, yr 10, yr 120]
def yS82 : List YE := [.inl (10, [.ref 1, .ref 5, .ref 9, .ref 15, .ref 19, .ref 22, .ref 27, .ref 32, .ref 33, .ref 36]), yo_1, yr 10, .inr (0, 100, yst 100), yr 206, yo_5, yr 40, yr 40, yr 40, yo_9, yr 120, yo_11, yr 128, yr 128, yr 128, yo_15, yr 128, yr 128, yr 128, yo_19, yr 10, yr 6, yo_22, yr 10, yr 64, yr 64, yr 64, yo_27, .inr (0, 6, ymin 6), yr 6, yr 6, yrL 360, yo_32, yo_33, yr 6, yr 6, yo_36, yr 50, yr 24, .inl (11, [.ref 40, .ref 41, .ref 42, .ref 43, .int 0, .int 0, .int 0, .int 0, .ref 44, .int 0, .ref 45, .int 0, .int 0, .ref 46, .int 0, .ref 47, .int 0, .int 0, .int 0, .int 0, .int 0, .int 0, .null, .null, .null, .int 0, .null, .null, .null, .null, .null, .int 0, .int 0, .null, .null, .int 0, .int 0, .int 0, .null, .null, .null, .null]), yr 126, yr 40, yr 40, yr 40, yr 10, yr 10, yr 120, yr 120]
def yS83 : List YE := [.inl (10, [.ref 1, .ref 5, .ref 9, .ref 15, .ref 19, .ref 22, .ref 27, .ref 32, .ref 33, .ref 36]), yo_1, yr 10, .inr (0, 100, yst 100), yr 206, yo_5, yr 40, yr 40, yr 40, yo_9, yr 120, yo_11, yr 128, yr 128, yr 128, yo_15, yr 128, yr 128, yr 128, yo_19, yr 10, yr 6, yo_22, yr 10, yr 64, yr 64, yr 64, yo_27, .inr (0, 6, ymin 6), yr 6, yr 6, yrL 360, yo_32, yo_33, yr 6, yr 6, yo_36, yr 50, yr 24, .inl (11, [.ref 40, .ref 41, .ref 42, .ref 43, .int 0, .int 0, .int 0, .int 0, .ref 44, .int 0, .ref 45, .int 0, .int 0, .ref 46, .int 0, .ref 47, .int 0, .int 0, .int 0, .int 0, .int 0, .int 0, .ref 48, .null, .null, .int 0, .null, .null, .null, .null, .null, .int 0, .int 0, .null, .null, .int 0, .int 0, .int 0, .null, .null, .null, .null]), yr 126, yr 40, yr 40, yr 40, yr 10, yr 10, yr 120, yr 120, yr 6]
def yS84 : List YE := [.inl (10, [.ref 1, .ref 5, .ref 9, .ref 15, .ref 19, .ref 22, .ref 27, .ref 32, .ref 33, .ref 36]), yo_1, yr 10, .inr (0, 100, yst 100), yr 206, yo_5, yr 40, yr 40, yr 40, yo_9, yr 120, yo_11, yr 128, yr 128, yr 128, yo_15, yr 128, yr 128, yr 128, yo_19, yr 10, yr 6, yo_22, yr 10, yr 64, yr 64, yr 64, yo_27, .inr (0, 6, ymin 6), yr 6, yr 6, yrL 360, yo_32, yo_33, yr 6, yr 6, yo_36, yr 50, yr 24, .inl (11, [.ref 40, .ref 41, .ref 42, .ref 43, .int 0, .int 0, .int 0, .int 0, .ref 44, .int 0, .ref 45, .int 0, .int 0, .ref 46, .int 0, .ref 47, .int 0, .int 0, .int 0, .int 0, .int 0, .int 0, .ref 48, .ref 49, .null, .int 0, .null, .null, .null, .null, .null, .int 0, .int 0, .null, .null, .int 0, .int 0, .int 0, .null, .null, .null, .null]), yr 126, yr 40, yr 40, yr 40, yr 10, yr 10, yr 120, yr 120, yr 6, yr 10]
def yS85 : List YE := [.inl (10, [.ref 1, .ref 5, .ref 9, .ref 15, .ref 19, .ref 22, .ref 27, .ref 32, .ref 33, .ref 36]), yo_1, yr 10, .inr (0, 100, yst 100), yr 206, yo_5, yr 40, yr 40, yr 40, yo_9, yr 120, yo_11, yr 128, yr 128, yr 128, yo_15, yr 128, yr 128, yr 128, yo_19, yr 10, yr 6, yo_22, yr 10, yr 64, yr 64, yr 64, yo_27, .inr (0, 6, ymin 6), yr 6, yr 6, yrL 360, yo_32, yo_33, yr 6, yr 6, yo_36, yr 50, yr 24, .inl (11, [.ref 40, .ref 41, .ref 42, .ref 43, .int 0, .int 0, .int 0, .int 0, .ref 44, .int 0, .ref 45, .int 0, .int 0, .ref 46, .int 0, .ref 47, .int 0, .int 0, .int 0, .int 0, .int 0, .int 0, .ref 48, .ref 49, .ref 50, .int 0, .null, .null, .null, .null, .null, .int 0, .int 0, .null, .null, .int 0, .int 0, .int 0, .null, .null, .null, .null]), yr 126, yr 40, yr 40, yr 40, yr 10, yr 10, yr 120, yr 120, yr 6, yr 10, yr 10]
def yS86 : List YE := [.inl (10, [.ref 1, .ref 5, .ref 9, .ref 15, .ref 19, .ref 22, .ref 27, .ref 32, .ref 33, .ref 36]), yo_1, yr 10, .inr (0, 100, yst 100), yr 206, yo_5, yr 40, yr 40, yr 40, yo_9, yr 120, yo_11, yr 128, yr 128, yr 128, yo_15, yr 128, yr 128, yr 128, yo_19, yr 10, yr 6, yo_22, yr 10, yr 64, yr 64, yr 64, yo_27, .inr (0, 6, ymin 6), yr 6, yr 6, yrL 360, yo_32, yo_33, yr 6, yr 6, yo_36, yr 50, yr 24, .inl (11, [.ref 40, .ref 41, .ref 42, .ref 43, .int 0, .int 0, .int 0, .int 0, .ref 44, .int 0, .ref 45, .int 0, .int 0, .ref 46, .int 0, .ref 47, .int 0, .int 0, .int 0, .int 0, .int 0, .int 0, .ref 48, .ref 49, .ref 50, .int 0, .ref 51, .null, .null, .null, .null, .int 0, .int 0, .null, .null, .int 0, .int 0, .int 0, .null, .null, .null, .null]), yr 126, yr 40, yr 40, yr 40, yr 10, yr 10, yr 120, yr 120, yr 6, yr 10, yr 10, yrB 64]
def yS87 : List YE := [.inl (10, [.ref 1, .ref 5, .ref 9, .ref 15, .ref 19, .ref 22, .ref 27, .ref 32, .ref 33, .ref 36]), yo_1, yr 10, .inr (0, 100, yst 100), yr 206, yo_5, yr 40, yr 40, yr 40, yo_9, yr 120, yo_11, yr 128, yr 128, yr 128, yo_15, yr 128, yr 128, yr 128, yo_19, yr 10, yr 6, yo_22, yr 10, yr 64, yr 64, yr 64, yo_27, .inr (0, 6, ymin 6), yr 6, yr 6, yrL 360, yo_32, yo_33, yr 6, yr 6, yo_36, yr 50, yr 24, .inl (11, [.ref 40, .ref 41, .ref 42, .ref 43, .int 0, .int 0, .int 0, .int 0, .ref 44, .int 0, .ref 45, .int 0, .int 0, .ref 46, .int 0, .ref 47, .int 0, .int 0, .int 0, .int 0, .int 0, .int 0, .ref 48, .ref 49, .ref 50, .int 0, .ref 51, .ref 52, .null, .null, .null, .int 0, .int 0, .null, .null, .int 0, .int 0, .int 0, .null, .null, .null, .null]), yr 126, yr 40, yr 40, yr 40, yr 10, yr 10, yr 120, yr 120, yr 6, yr 10, yr 10, yrB 64, yr 64]
def yS88 : List YE := [.inl (10, [.ref 1, .ref 5, .ref 9, .ref 15, .ref 19, .ref 22, .ref 27, .ref 32, .ref 33, .ref 36]), yo_1, yr 10, .inr (0, 100, yst 100), yr 206, yo_5, yr 40, yr 40, yr 40, yo_9, yr 120, yo_11, yr 128, yr 128, yr 128, yo_15, yr 128, yr 128, yr 128, yo_19, yr 10, yr 6, yo_22, yr 10, yr 64, yr 64, yr 64, yo_27, .inr (0, 6, ymin 6), yr 6, yr 6, yrL 360, yo_32, yo_33, yr 6, yr 6, yo_36, yr 50, yr 24, .inl (11, [.ref 40, .ref 41, .ref 42, .ref 43, .int 0, .int 0, .int 0, .int 0, .ref 44, .int 0, .ref 45, .int 0, .int 0, .ref 46, .int 0, .ref 47, .int 0, .int 0, .int 0, .int 0, .int 0, .int 0, .ref 48, .ref 49, .ref 50, .int 0, .ref 51, .ref 52, .ref 53, .null, .null, .int 0, .int 0, .null, .null, .int 0, .int 0, .int 0, .null, .null, .null, .null]), yr 126, yr 40, yr 40, yr 40, yr 10, yr 10, yr 120, yr 120, yr 6, yr 10, yr 10, yrB 64, yr 64, yr 64]
def yS89 : List YE := [.inl (10, [.ref 1, .ref 5, .ref 9, .ref 15, .ref 19, .ref 22, .ref 27, .ref 32, .ref 33, .ref 36]), yo_1, yr 10, .inr (0, 100, yst 100), yr 206, yo_5, yr 40, yr 40, yr 40, yo_9, yr 120, yo_11, yr 128, yr 128, yr 128, yo_15, yr 128, yr 128, yr 128, yo_19, yr 10, yr 6, yo_22, yr 10, yr 64, yr 64, yr 64, yo_27, .inr (0, 6, ymin 6), yr 6, yr 6, yrL 360, yo_32, yo_33, yr 6, yr 6, yo_36, yr 50, yr 24, .inl (11, [.ref 40, .ref 41, .ref 42, .ref 43, .int 0, .int 0, .int 0, .int 0, .ref 44, .int 0, .ref 45, .int 0, .int 0, .ref 46, .int 0, .ref 47, .int 0, .int 0, .int 0, .int 0, .int 0, .int 0, .ref 48, .ref 49, .ref 50, .int 0, .ref 51, .ref 52, .ref 53, .ref 54, .null, .int 0, .int 0, .null, .null, .int 0, .int 0, .int 0, .null, .null, .null, .null]), yr 126, yr 40, yr 40, yr 40, yr 10, yr 10, yr 120, yr 120, yr 6, yr 10, yr 10, yrB 64, yr 64, yr 64, yr 5]
def yS90 : List YE := [.inl (10, [.ref 1, .ref 5, .ref 9, .ref 15, .ref 19, .ref 22, .ref 27, .ref 32, .ref 33, .ref 36]), yo_1, yr 10, .inr (0, 100, yst 100), yr 206, yo_5, yr 40, yr 40, yr 40, yo_9, yr 120, yo_11, yr 128, yr 128, yr 128, yo_15, yr 128, yr 128, yr 128, yo_19, yr 10, yr 6, yo_22, yr 10, yr 64, yr 64, yr 64, yo_27, .inr (0, 6, ymin 6), yr 6, yr 6, yrL 360, yo_32, yo_33, yr 6, yr 6, yo_36, yr 50, yr 24, .inl (11, [.ref 40, .ref 41, .ref 42, .ref 43, .int 0, .int 0, .int 0, .int 0, .ref 44, .int 0, .ref 45, .int 0, .int 0, .ref 46, .int 0, .ref 47, .int 0, .int 0, .int 0, .int 0, .int 0, .int 0, .ref 48, .ref 49, .ref 50, .int 0, .ref 51, .ref 52, .ref 53, .ref 54, .ref 55, .int 0, .int 0, .null, .null, .int 0, .int 0, .int 0, .null, .null, .null, .null]), yr 126, yr 40, yr 40, yr 40, yr 10, yr 10, yr 120, yr 120, yr 6, yr 10, yr 10, yrB 64, yr 64, yr 64, yr 5, yr 5]
def yS91 : List YE := [.inl (10, [.ref 1, .ref 5, .ref 9, .ref 15, .ref 19, .ref 22, .ref 27, .ref 32, .ref 33, .ref 36]), yo_1, yr 10, .inr (0, 100, yst 100), yr 206, yo_5, yr 40, yr 40, yr 40, yo_9, yr 120, yo_11, yr 128, yr 128, yr 128, yo_15, yr 128, yr 128, yr 128, yo_19, yr 10, yr 6, yo_22, yr 10, yr 64, yr 64, yr 64, yo_27, .inr (0, 6, ymin 6), yr 6, yr 6, yrL 360, yo_32, yo_33, yr 6, yr 6, yo_36, yr 50, yr 24, .inl (11, [.ref 40, .ref 41, .ref 42, .ref 43, .int 0, .int 0, .int 0, .int 0, .ref 44, .int 0, .ref 45, .int 0, .int 0, .ref 46, .int 0, .ref 47, .int 0, .int 0, .int 0, .int 0, .int 0, .int 0, .ref 48, .ref 49, .ref 50, .int 0, .ref 51, .ref 52, .ref 53, .ref 54, .ref 55, .int 0, .int 0, .ref 56, .null, .int 0, .int 0, .int 0, .null, .null, .null, .null]), yr 126, yr 40, yr 40, yr 40, yr 10, yr 10, yr 120, yr 120, yr 6, yr 10, yr 10, yrB 64, yr 64, yr 64, yr 5, yr 5, yr 50]
def yS92 : List YE := [.inl (10, [.ref 1, .ref 5, .ref 9, .ref 15, .ref 19, .ref 22, .ref 27, .ref 32, .ref 33, .ref 36]), yo_1, yr 10, .inr (0, 100, yst 100), yr 206, yo_5, yr 40, yr 40, yr 40, yo_9, yr 120, yo_11, yr 128, yr 128, yr 128, yo_15, yr 128, yr 128, yr 128, yo_19, yr 10, yr 6, yo_22, yr 10, yr 64, yr 64, yr 64, yo_27, .inr (0, 6, ymin 6), yr 6, yr 6, yrL 360, yo_32, yo_33, yr 6, yr 6, yo_36, yr 50, yr 24, .inl (11, [.ref 40, .ref 41, .ref 42, .ref 43, .int 0, .int 0, .int 0, .int 0, .ref 44, .int 0, .ref 45, .int 0, .int 0, .ref 46, .int 0, .ref 47, .int 0, .int 0, .int 0, .int 0, .int 0, .int 0, .ref 48, .ref 49, .ref 50, .int 0, .ref 51, .ref 52, .ref 53, .ref 54, .ref 55, .int 0, .int 0, .ref 56, .ref 57, .int 0, .int 0, .int 0, .null, .null, .null, .null]), yr 126, yr 40, yr 40, yr 40, yr 10, yr 10, yr 120, yr 120, yr 6, yr 10, yr 10, yrB 64, yr 64, yr 64, yr 5, yr 5, yr 50, yr 24]
def yS93 : List YE := [.inl (10, [.ref 1, .ref 5, .ref 9, .ref 15, .ref 19, .ref 22, .ref 27, .ref 32, .ref 33, .ref 36]), yo_1, yr 10, .inr (0, 100, yst 100), yr 206, yo_5, yr 40, yr 40, yr 40, yo_9, yr 120, yo_11, yr 128, yr 128, yr 128, yo_15, yr 128, yr 128, yr 128, yo_19, yr 10, yr 6, yo_22, yr 10, yr 64, yr 64, yr 64, yo_27, .inr (0, 6, ymin 6), yr 6, yr 6, yrL 360, yo_32, yo_33, yr 6, yr 6, yo_36, yr 50, yr 24, .inl (11, [.ref 40, .ref 41, .ref 42, .ref 43, .int 0, .int 0, .int 0, .int 0, .ref 44, .int 0, .ref 45, .int 0, .int 0, .ref 46, .int 0, .ref 47, .int 0, .int 0, .int 0, .int 0, .int 0, .int 0, .ref 48, .ref 49, .ref 50, .int 0, .ref 51, .ref 52, .ref 53, .ref 54, .ref 55, .int 0, .int 0, .ref 56, .ref 57, .int 0, .int 0, .int 0, .ref 58, .null, .null, .null]), yr 126, yr 40, yr 40, yr 40, yr 10, yr 10, yr 120, yr 120, yr 6, yr 10, yr 10, yrB 64, yr 64, yr 64, yr 5, yr 5, yr 50, yr 24, yr 6]
def yS94 : List YE := [.inl (10, [.ref 1, .ref 5, .ref 9, .ref 15, .ref 19, .ref 22, .ref 27, .ref 32, .ref 33, .ref 36]), yo_1, yr 10, .inr (0, 100, yst 100), yr 206, yo_5, yr 40, yr 40, yr 40, yo_9, yr 120, yo_11, yr 128, yr 128, yr 128, yo_15, yr 128, yr 128, yr 128, yo_19, yr 10, yr 6, yo_22, yr 10, yr 64, yr 64, yr 64, yo_27, .inr (0, 6, ymin 6), yr 6, yr 6, yrL 360, yo_32, yo_33, yr 6, yr 6, yo_36, yr 50, yr 24, .inl (11, [.ref 40, .ref 41, .ref 42, .ref 43, .int 0, .int 0, .int 0, .int 0, .ref 44, .int 0, .ref 45, .int 0, .int 0, .ref 46, .int 0, .ref 47, .int 0, .int 0, .int 0, .int 0, .int 0, .int 0, .ref 48, .ref 49, .ref 50, .int 0, .ref 51, .ref 52, .ref 53, .ref 54, .ref 55, .int 0, .int 0, .ref 56, .ref 57, .int 0, .int 0, .int 0, .ref 58, .ref 59, .null, .null]), yr 126, yr 40, yr 40, yr 40, yr 10, yr 10, yr 120, yr 120, yr 6, yr 10, yr 10, yrB 64, yr 64, yr 64, yr 5, yr 5, yr 50, yr 24, yr 6, yr 6]
def yS95 : List YE := [.inl (10, [.ref 1, .ref 5, .ref 9, .ref 15, .ref 19, .ref 22, .ref 27, .ref 32, .ref 33, .ref 36]), yo_1, yr 10, .inr (0, 100, yst 100), yr 206, yo_5, yr 40, yr 40, yr 40, yo_9, yr 120, yo_11, yr 128, yr 128, yr 128, yo_15, yr 128, yr 128, yr 128, yo_19, yr 10, yr 6, yo_22, yr 10, yr 64, yr 64, yr 64, yo_27, .inr (0, 6, ymin 6), yr 6, yr 6, yrL 360, yo_32, yo_33, yr 6, yr 6, yo_36, yr 50, yr 24, .inl (11, [.ref 40, .ref 41, .ref 42, .ref 43, .int 0, .int 0, .int 0, .int 0, .ref 44, .int 0, .ref 45, .int 0, .int 0, .ref 46, .int 0, .ref 47, .int 0, .int 0, .int 0, .int 0, .int 0, .int 0, .ref 48, .ref 49, .ref 50, .int 0, .ref 51, .ref 52, .ref 53, .ref 54, .ref 55, .int 0, .int 0, .ref 56, .ref 57, .int 0, .int 0, .int 0, .ref 58, .ref 59, .ref 60, .null]), yr 126, yr 40, yr 40, yr 40, yr 10, yr 10, yr 120, yr 120, yr 6, yr 10, yr 10, yrB 64, yr 64, yr 64, yr 5, yr 5, yr 50, yr 24, yr 6, yr 6, yrL 360]
def yS96 : List YE := [.inl (10, [.ref 1, .ref 5, .ref 9, .ref 15, .ref 19, .ref 22, .ref 27, .ref 32, .ref 33, .ref 36]), yo_1, yr 10, .inr (0, 100, yst 100), yr 206, yo_5, yr 40, yr 40, yr 40, yo_9, yr 120, yo_11, yr 128, yr 128, yr 128, yo_15, yr 128, yr 128, yr 128, yo_19, yr 10, yr 6, yo_22, yr 10, yr 64, yr 64, yr 64, yo_27, .inr (0, 6, ymin 6), yr 6, yr 6, yrL 360, yo_32, yo_33, yr 6, yr 6, yo_36, yr 50, yr 24, .inl (11, [.ref 40, .ref 41, .ref 42, .ref 43, .int 0, .int 0, .int 0, .int 0, .ref 44, .int 0, .ref 45, .int 0, .int 0, .ref 46, .int 0, .ref 47, .int 0, .int 0, .int 0, .int 0, .int 0, .int 0, .ref 48, .ref 49, .ref 50, .int 0, .ref 51, .ref 52, .ref 53, .ref 54, .ref 55, .int 0, .int 0, .ref 56, .ref 57, .int 0, .int 0, .int 0, .ref 58, .ref 59, .ref 60, .ref 61]), yr 126, yr 40, yr 40, yr 40, yr 10, yr 10, yr 120, yr 120, yr 6, yr 10, yr 10, yrB 64, yr 64, yr 64, yr 5, yr 5, yr 50, yr 24, yr 6, yr 6, yrL 360, yrL 60]
def yS97 (k : Nat) : List YE := [.inl (10, [.ref 1, .ref 5, .ref 9, .ref 15, .ref 19, .ref 22, .ref 27, .ref 32, .ref 33, .ref 36]), yo_1, yr 10, .inr (0, 100, yst 100), yr 206, yo_5, yr 40, yr 40, yr 40, yo_9, yr 120, yo_11, yr 128, yr 128, yr 128, yo_15, yr 128, yr 128, yr 128, yo_19, yr 10, yr 6, yo_22, yr 10, yr 64, yr 64, yr 64, yo_27, .inr (0, 6, ymin 6), yr 6, yr 6, yrL 360, yo_32, yo_33, yr 6, yr 6, yo_36, yr 50, yr 24, .inl (11, [.ref 40, .ref 41, .ref 42, .ref 43, .int 0, .int 0, .int 0, .int 0, .ref 44, .int 0, .ref 45, .int 0, .int 0, .ref 46, .int 0, .ref 47, .int 0, .int 0, .int 0, .int 0, .int 0, .int 0, .ref 48, .ref 49, .ref 50, .int 0, .ref 51, .ref 52, .ref 53, .ref 54, .ref 55, .int 0, .int 0, .ref 56, .ref 57, .int 0, .int 0, .int 0, .ref 58, .ref 59, .ref 60, .ref 61]), yr 126, yr 40, yr 40, yr 40, yr 10, yr 10, yr 120, yr 120, yr 6, yr 10, yr 10, yrB 64, yr 64, yr 64, yr 5, yr 5, yr 50, yr 24, .inr (0, 6, ymin k), yr 6, yrL 360, yrL 60]
theorem y0_11 : yS96 = (yS97 0) := by
  show [.inl (10, [.ref 1, .ref 5, .ref 9, .ref 15, .ref 19, .ref 22, .ref 27, .ref 32, .ref 33, .ref 36]), yo_1, yr 10, .inr (0, 100, yst 100), yr 206, yo_5, yr 40, yr 40, yr 40, yo_9, yr 120, yo_11, yr 128, yr 128, yr 128, yo_15, yr 128, yr 128, yr 128, yo_19, yr 10, yr 6, yo_22, yr 10, yr 64, yr 64, yr 64, yo_27, .inr (0, 6, ymin 6), yr 6, yr 6, yrL 360, yo_32, yo_33, yr 6, yr 6, yo_36, yr 50, yr 24, .inl (11, [.ref 40, .ref 41, .ref 42, .ref 43, .int 0, .int 0, .int 0, .int 0, .ref 44, .int 0, .ref 45, .int 0, .int 0, .ref 46, .int 0, .ref 47, .int 0, .int 0, .int 0, .int 0, .int 0, .int 0, .ref 48, .ref 49, .ref 50, .int 0, .ref 51, .ref 52, .ref 53, .ref 54, .ref 55, .int 0, .int 0, .ref 56, .ref 57, .int 0, .int 0, .int 0, .ref 58, .ref 59, .ref 60, .ref 61]), yr 126, yr 40, yr 40, yr 40, yr 10, yr 10, yr 120, yr 120, yr 6, yr 10, yr 10, yrB 64, yr 64, yr 64, yr 5, yr 5, yr 50, yr 24, yr 6, yr 6, yrL 360, yrL 60] = [.inl (10, [.ref 1, .ref 5, .ref 9, .ref 15, .ref 19, .ref 22, .ref 27, .ref 32, .ref 33, .ref 36]), yo_1, yr 10, .inr (0, 100, yst 100), yr 206, yo_5, yr 40, yr 40, yr 40, yo_9, yr 120, yo_11, yr 128, yr 128, yr 128, yo_15, yr 128, yr 128, yr 128, yo_19, yr 10, yr 6, yo_22, yr 10, yr 64, yr 64, yr 64, yo_27, .inr (0, 6, ymin 6), yr 6, yr 6, yrL 360, yo_32, yo_33, yr 6, yr 6, yo_36, yr 50, yr 24, .inl (11, [.ref 40, .ref 41, .ref 42, .ref 43, .int 0, .int 0, .int 0, .int 0, .ref 44, .int 0, .ref 45, .int 0, .int 0, .ref 46, .int 0, .ref 47, .int 0, .int 0, .int 0, .int 0, .int 0, .int 0, .ref 48, .ref 49, .ref 50, .int 0, .ref 51, .ref 52, .ref 53, .ref 54, .ref 55, .int 0, .int 0, .ref 56, .ref 57, .int 0, .int 0, .int 0, .ref 58, .ref 59, .ref 60, .ref 61]), yr 126, yr 40, yr 40, yr 40, yr 10, yr 10, yr 120, yr 120, yr 6, yr 10, yr 10, yrB 64, yr 64, yr 64, yr 5, yr 5, yr 50, yr 24, .inr (0, 6, ymin 0), yr 6, yrL 360, yrL 60]
  rw [← ymin_0]
def yS98 : List YE := [.inl (10, [.ref 1, .ref 5, .ref 9, .ref 15, .ref 19, .ref 22, .ref 27, .ref 32, .ref 33, .ref 36]), yo_1, yr 10, .inr (0, 100, yst 100), yr 206, yo_5, yr 40, yr 40, yr 40, yo_9, yr 120, yo_11, yr 128, yr 128, yr 128, yo_15, yr 128, yr 128, yr 128, yo_19, yr 10, yr 6, yo_22, yr 10, yr 64, yr 64, yr 64, yo_27, .inr (0, 6, ymin 6), yr 6, yr 6, yrL 360, yo_32, yo_33, yr 6, yr 6, yo_36, yr 50, yr 24, .inl (11, [.ref 40, .ref 41, .ref 42, .ref 43, .int 0, .int 0, .int 0, .int 0, .ref 44, .int 0, .ref 45, .int 0, .int 0, .ref 46, .int 0, .ref 47, .int 0, .int 0, .int 0, .int 0, .int 0, .int 0, .ref 48, .ref 49, .ref 50, .int 0, .ref 51, .ref 52, .ref 53, .ref 54, .ref 55, .int 0, .int 0, .ref 56, .ref 57, .int 0, .int 0, .int 0, .ref 58, .ref 59, .ref 60, .ref 61]), yr 126, yr 40, yr 40, yr 40, yr 10, yr 10, yr 120, yr 120, yr 6, yr 10, yr 10, yrB 64, yr 64, yr 64, yr 5, yr 5, yr 50, yr 24, .inr (0, 6, ymin 6), yr 6, yrL 360, yrL 60]
theorem yN_11 : (yS97 6) = yS98 := by
  unfold yS97 yS98
  rfl
def yS99 : List YE := [.inl (10, [.ref 1, .ref 5, .ref 9, .ref 15, .ref 19, .ref 22, .ref 27, .ref 32, .ref 33, .ref 36]), yo_1, yr 10, .inr (0, 100, yst 100), yr 206, yo_5, yr 40, yr 40, yr 40, yo_9, yr 120, yo_11, yr 128, yr 128, yr 128, yo_15, yr 128, yr 128, yr 128, yo_19, yr 10, yr 6, yo_22, yr 10, yr 64, yr 64, yr 64, yo_27, .inr (0, 6, ymin 6), yr 6, yr 6, yrL 360, yo_32, yo_33, yr 6, yr 6, yo_36, yr 50, yr 24, .inl (11, [.ref 40, .ref 41, .ref 42, .ref 43, .int 0, .int 0, .int 0, .int 0, .ref 44, .int 0, .ref 45, .int 0, .int 0, .ref 46, .int 0, .ref 47, .int (-1), .int 0, .int 0, .int 0, .int 0, .int 0, .ref 48, .ref 49, .ref 50, .int 0, .ref 51, .ref 52, .ref 53, .ref 54, .ref 55, .int 0, .int 0, .ref 56, .ref 57, .int 0, .int 0, .int 0, .ref 58, .ref 59, .ref 60, .ref 61]), yr 126, yr 40, yr 40, yr 40, yr 10, yr 10, yr 120, yr 120, yr 6, yr 10, yr 10, yrB 64, yr 64, yr 64, yr 5, yr 5, yr 50, yr 24, .inr (0, 6, ymin 6), yr 6, yrL 360, yrL 60]
def yS100 : List YE := [.inl (10, [.ref 1, .ref 5, .ref 9, .ref 15, .ref 19, .ref 22, .ref 27, .ref 32, .ref 33, .ref 36]), yo_1, yr 10, .inr (0, 100, yst 100), yr 206, yo_5, yr 40, yr 40, yr 40, yo_9, yr 120, yo_11, yr 128, yr 128, yr 128, yo_15, yr 128, yr 128, yr 128, yo_19, yr 10, yr 6, yo_22, yr 10, yr 64, yr 64, yr 64, yo_27, .inr (0, 6, ymin 6), yr 6, yr 6, yrL 360, yo_32, yo_33, yr 6, yr 6, yo_36, yr 50, yr 24, .inl (11, [.ref 40, .ref 41, .ref 42, .ref 43, .int 0, .int 0, .int 0, .int 0, .ref 44, .int 0, .ref 45, .int 1, .int 0, .ref 46, .int 0, .ref 47, .int (-1), .int 0, .int 0, .int 0, .int 0, .int 0, .ref 48, .ref 49, .ref 50, .int 0, .ref 51, .ref 52, .ref 53, .ref 54, .ref 55, .int 0, .int 0, .ref 56, .ref 57, .int 0, .int 0, .int 0, .ref 58, .ref 59, .ref 60, .ref 61]), yr 126, yr 40, yr 40, yr 40, yr 10, yr 10, yr 120, yr 120, yr 6, yr 10, yr 10, yrB 64, yr 64, yr 64, yr 5, yr 5, yr 50, yr 24, .inr (0, 6, ymin 6), yr 6, yrL 360, yrL 60]
def yS101 : List YE := [.inl (10, [.ref 1, .ref 5, .ref 9, .ref 15, .ref 19, .ref 22, .ref 27, .ref 32, .ref 33, .ref 36]), yo_1, yr 10, .inr (0, 100, yst 100), yr 206, yo_5, yr 40, yr 40, yr 40, yo_9, yr 120, yo_11, yr 128, yr 128, yr 128, yo_15, yr 128, yr 128, yr 128, yo_19, yr 10, yr 6, yo_22, yr 10, yr 64, yr 64, yr 64, yo_27, .inr (0, 6, ymin 6), yr 6, yr 6, yrL 360, yo_32, yo_33, yr 6, yr 6, yo_36, yr 50, yr 24, .inl (11, [.ref 40, .ref 41, .ref 42, .ref 43, .int 0, .int 0, .int 0, .int 0, .ref 44, .int 0, .ref 45, .int 1, .int 1, .ref 46, .int 0, .ref 47, .int (-1), .int 0, .int 0, .int 0, .int 0, .int 0, .ref 48, .ref 49, .ref 50, .int 0, .ref 51, .ref 52, .ref 53, .ref 54, .ref 55, .int 0, .int 0, .ref 56, .ref 57, .int 0, .int 0, .int 0, .ref 58, .ref 59, .ref 60, .ref 61]), yr 126, yr 40, yr 40, yr 40, yr 10, yr 10, yr 120, yr 120, yr 6, yr 10, yr 10, yrB 64, yr 64, yr 64, yr 5, yr 5, yr 50, yr 24, .inr (0, 6, ymin 6), yr 6, yrL 360, yrL 60]
def yF12 : YF := (111, [], [], yS101, 22, 1240)
theorem yl_11 {Y : YC} : ∀ (k : Nat), k ≤ 6 → YW Y m_Y11 1 40 yF12 102 [(0, .ref 39), (1, .int (nI 6))] [] (yS97 6) 22 1240 → YW Y m_Y11 1 40 yF12 92 [(0, .ref 39), (1, .int (nI k))] [] (yS97 k) 22 1240 := by
  intro k hk h
  induction hm : 6 - k generalizing k with
  | zero =>
    have e : k = 6 := by omega
    subst e
    refine y_iload_n rfl rfl ?_
    refine y_bipush (v := 6) rfl (by decide) ?_
    exact y_icmpge rfl (fun _ => h) (fun hq => absurd (show (6 : Int32) ≤ nI 6 by decide) hq)
  | succ m ih =>
    have hkN : k < 6 := by omega
    have cl : (nI k).toNatClampNeg = k := zn_cl (by omega)
    have hz : zin (nI k) 6 := by simp (disch := omega) [fa_lit, nI_ltI, nI_leI, nI_eq, nI_add, pk_sub, zn_cl, zn_zin, hkN]
    refine y_iload_n rfl rfl ?_
    refine y_bipush (v := 6) rfl (by decide) ?_
    refine y_icmpge rfl (fun hq => absurd hq (by simp (disch := omega) [fa_lit, nI_ltI, nI_leI, nI_eq, nI_add, pk_sub, zn_cl, zn_zin]; omega)) (fun _ => ?_)
    refine y_aload_n rfl rfl ?_
    refine y_get (ci := 11) (k := 38) rfl ⟨by decide, by decide, rfl, Or.inl (List.mem_of_getElem? (i := 1095) (by decide +kernel))⟩ rfl rfl ?_
    refine y_iload_n rfl rfl ?_
    refine y_iconst (v := -1) rfl (by decide) ?_
    refine y_iast (n := 6) (es' := (yS97 (k + 1))) rfl rfl hz (by rw [cl, ymin_up]; rfl) ?_
    refine y_iinc (x := nI k) (v := 1) (lv' := [(0, .ref 39), (1, .int (nI (k + 1)))]) rfl rfl (by decide) (by decide) rfl (by rw [show nI (k + 1) = nI k + 1 from (nI_add k 1).symm]; rfl) ?_
    refine y_goto rfl ?_
    exact ih (k + 1) (by omega) (by omega)
theorem yc_11 (Y : YC) : YSpec Y m_Y11 1 22 1240 [.ref 39] yS74 yS101 := by
  refine YSpec.of (iF := 111) ky_11 rfl (by decide) rfl ?_
  show YW Y m_Y11 1 40 yF12 0 _ [] yS74 0 0
  refine y_aload_n rfl rfl ?_
  refine y_objInit rfl (List.mem_of_getElem? (i := 1056) (by decide +kernel)) yo_i yo_c (by decide) (by decide) ?_
  refine y_aload_n rfl rfl ?_
  refine y_bipush (v := 126) rfl (by decide) ?_
  refine y_newa 0 (N := 126) (ty := .int) rfl rfl (Or.inl ⟨rfl, rfl⟩) (by decide) (by decide) (by decide) (by decide) (by decide +kernel) (by decide) (by decide) ?_
  refine y_put (ci := 11) (k := 0) (fs' := [.ref 40, .null, .null, .null, .int 0, .int 0, .int 0, .int 0, .null, .int 0, .null, .int 0, .int 0, .null, .int 0, .null, .int 0, .int 0, .int 0, .int 0, .int 0, .int 0, .null, .null, .null, .int 0, .null, .null, .null, .null, .null, .int 0, .int 0, .null, .null, .int 0, .int 0, .int 0, .null, .null, .null, .null]) (es' := yS75) rfl (List.mem_of_getElem? (i := 1057) (by decide +kernel)) (by decide +kernel) rfl (by decide) rfl rfl ?_
  refine y_aload_n rfl rfl ?_
  refine y_bipush (v := 40) rfl (by decide) ?_
  refine y_newa 0 (N := 40) (ty := .int) rfl rfl (Or.inl ⟨rfl, rfl⟩) (by decide) (by decide) (by decide) (by decide) (by decide +kernel) (by decide) (by decide) ?_
  refine y_put (ci := 11) (k := 1) (fs' := [.ref 40, .ref 41, .null, .null, .int 0, .int 0, .int 0, .int 0, .null, .int 0, .null, .int 0, .int 0, .null, .int 0, .null, .int 0, .int 0, .int 0, .int 0, .int 0, .int 0, .null, .null, .null, .int 0, .null, .null, .null, .null, .null, .int 0, .int 0, .null, .null, .int 0, .int 0, .int 0, .null, .null, .null, .null]) (es' := yS76) rfl (List.mem_of_getElem? (i := 1058) (by decide +kernel)) (by decide +kernel) rfl (by decide) rfl rfl ?_
  refine y_aload_n rfl rfl ?_
  refine y_bipush (v := 40) rfl (by decide) ?_
  refine y_newa 0 (N := 40) (ty := .int) rfl rfl (Or.inl ⟨rfl, rfl⟩) (by decide) (by decide) (by decide) (by decide) (by decide +kernel) (by decide) (by decide) ?_
  refine y_put (ci := 11) (k := 2) (fs' := [.ref 40, .ref 41, .ref 42, .null, .int 0, .int 0, .int 0, .int 0, .null, .int 0, .null, .int 0, .int 0, .null, .int 0, .null, .int 0, .int 0, .int 0, .int 0, .int 0, .int 0, .null, .null, .null, .int 0, .null, .null, .null, .null, .null, .int 0, .int 0, .null, .null, .int 0, .int 0, .int 0, .null, .null, .null, .null]) (es' := yS77) rfl (List.mem_of_getElem? (i := 1059) (by decide +kernel)) (by decide +kernel) rfl (by decide) rfl rfl ?_
  refine y_aload_n rfl rfl ?_
  refine y_bipush (v := 40) rfl (by decide) ?_
  refine y_newa 0 (N := 40) (ty := .int) rfl rfl (Or.inl ⟨rfl, rfl⟩) (by decide) (by decide) (by decide) (by decide) (by decide +kernel) (by decide) (by decide) ?_
  refine y_put (ci := 11) (k := 3) (fs' := [.ref 40, .ref 41, .ref 42, .ref 43, .int 0, .int 0, .int 0, .int 0, .null, .int 0, .null, .int 0, .int 0, .null, .int 0, .null, .int 0, .int 0, .int 0, .int 0, .int 0, .int 0, .null, .null, .null, .int 0, .null, .null, .null, .null, .null, .int 0, .int 0, .null, .null, .int 0, .int 0, .int 0, .null, .null, .null, .null]) (es' := yS78) rfl (List.mem_of_getElem? (i := 1060) (by decide +kernel)) (by decide +kernel) rfl (by decide) rfl rfl ?_
  refine y_aload_n rfl rfl ?_
  refine y_bipush (v := 10) rfl (by decide) ?_
  refine y_newa 0 (N := 10) (ty := .int) rfl rfl (Or.inl ⟨rfl, rfl⟩) (by decide) (by decide) (by decide) (by decide) (by decide +kernel) (by decide) (by decide) ?_
  refine y_put (ci := 11) (k := 8) (fs' := [.ref 40, .ref 41, .ref 42, .ref 43, .int 0, .int 0, .int 0, .int 0, .ref 44, .int 0, .null, .int 0, .int 0, .null, .int 0, .null, .int 0, .int 0, .int 0, .int 0, .int 0, .int 0, .null, .null, .null, .int 0, .null, .null, .null, .null, .null, .int 0, .int 0, .null, .null, .int 0, .int 0, .int 0, .null, .null, .null, .null]) (es' := yS79) rfl (List.mem_of_getElem? (i := 1065) (by decide +kernel)) (by decide +kernel) rfl (by decide) rfl rfl ?_
  refine y_aload_n rfl rfl ?_
  refine y_bipush (v := 10) rfl (by decide) ?_
  refine y_newa 0 (N := 10) (ty := .int) rfl rfl (Or.inl ⟨rfl, rfl⟩) (by decide) (by decide) (by decide) (by decide) (by decide +kernel) (by decide) (by decide) ?_
  refine y_put (ci := 11) (k := 10) (fs' := [.ref 40, .ref 41, .ref 42, .ref 43, .int 0, .int 0, .int 0, .int 0, .ref 44, .int 0, .ref 45, .int 0, .int 0, .null, .int 0, .null, .int 0, .int 0, .int 0, .int 0, .int 0, .int 0, .null, .null, .null, .int 0, .null, .null, .null, .null, .null, .int 0, .int 0, .null, .null, .int 0, .int 0, .int 0, .null, .null, .null, .null]) (es' := yS80) rfl (List.mem_of_getElem? (i := 1067) (by decide +kernel)) (by decide +kernel) rfl (by decide) rfl rfl ?_
  refine y_aload_n rfl rfl ?_
  refine y_bipush (v := 120) rfl (by decide) ?_
  refine y_newa 0 (N := 120) (ty := .int) rfl rfl (Or.inl ⟨rfl, rfl⟩) (by decide) (by decide) (by decide) (by decide) (by decide +kernel) (by decide) (by decide) ?_
  refine y_put (ci := 11) (k := 13) (fs' := [.ref 40, .ref 41, .ref 42, .ref 43, .int 0, .int 0, .int 0, .int 0, .ref 44, .int 0, .ref 45, .int 0, .int 0, .ref 46, .int 0, .null, .int 0, .int 0, .int 0, .int 0, .int 0, .int 0, .null, .null, .null, .int 0, .null, .null, .null, .null, .null, .int 0, .int 0, .null, .null, .int 0, .int 0, .int 0, .null, .null, .null, .null]) (es' := yS81) rfl (List.mem_of_getElem? (i := 1070) (by decide +kernel)) (by decide +kernel) rfl (by decide) rfl rfl ?_
  refine y_aload_n rfl rfl ?_
  refine y_bipush (v := 120) rfl (by decide) ?_
  refine y_newa 0 (N := 120) (ty := .int) rfl rfl (Or.inl ⟨rfl, rfl⟩) (by decide) (by decide) (by decide) (by decide) (by decide +kernel) (by decide) (by decide) ?_
  refine y_put (ci := 11) (k := 15) (fs' := [.ref 40, .ref 41, .ref 42, .ref 43, .int 0, .int 0, .int 0, .int 0, .ref 44, .int 0, .ref 45, .int 0, .int 0, .ref 46, .int 0, .ref 47, .int 0, .int 0, .int 0, .int 0, .int 0, .int 0, .null, .null, .null, .int 0, .null, .null, .null, .null, .null, .int 0, .int 0, .null, .null, .int 0, .int 0, .int 0, .null, .null, .null, .null]) (es' := yS82) rfl (List.mem_of_getElem? (i := 1072) (by decide +kernel)) (by decide +kernel) rfl (by decide) rfl rfl ?_
  refine y_aload_n rfl rfl ?_
  refine y_bipush (v := 6) rfl (by decide) ?_
  refine y_newa 0 (N := 6) (ty := .int) rfl rfl (Or.inl ⟨rfl, rfl⟩) (by decide) (by decide) (by decide) (by decide) (by decide +kernel) (by decide) (by decide) ?_
  refine y_put (ci := 11) (k := 22) (fs' := [.ref 40, .ref 41, .ref 42, .ref 43, .int 0, .int 0, .int 0, .int 0, .ref 44, .int 0, .ref 45, .int 0, .int 0, .ref 46, .int 0, .ref 47, .int 0, .int 0, .int 0, .int 0, .int 0, .int 0, .ref 48, .null, .null, .int 0, .null, .null, .null, .null, .null, .int 0, .int 0, .null, .null, .int 0, .int 0, .int 0, .null, .null, .null, .null]) (es' := yS83) rfl (List.mem_of_getElem? (i := 1079) (by decide +kernel)) (by decide +kernel) rfl (by decide) rfl rfl ?_
  refine y_aload_n rfl rfl ?_
  refine y_bipush (v := 10) rfl (by decide) ?_
  refine y_newa 0 (N := 10) (ty := .int) rfl rfl (Or.inl ⟨rfl, rfl⟩) (by decide) (by decide) (by decide) (by decide) (by decide +kernel) (by decide) (by decide) ?_
  refine y_put (ci := 11) (k := 23) (fs' := [.ref 40, .ref 41, .ref 42, .ref 43, .int 0, .int 0, .int 0, .int 0, .ref 44, .int 0, .ref 45, .int 0, .int 0, .ref 46, .int 0, .ref 47, .int 0, .int 0, .int 0, .int 0, .int 0, .int 0, .ref 48, .ref 49, .null, .int 0, .null, .null, .null, .null, .null, .int 0, .int 0, .null, .null, .int 0, .int 0, .int 0, .null, .null, .null, .null]) (es' := yS84) rfl (List.mem_of_getElem? (i := 1080) (by decide +kernel)) (by decide +kernel) rfl (by decide) rfl rfl ?_
  refine y_aload_n rfl rfl ?_
  refine y_bipush (v := 10) rfl (by decide) ?_
  refine y_newa 0 (N := 10) (ty := .int) rfl rfl (Or.inl ⟨rfl, rfl⟩) (by decide) (by decide) (by decide) (by decide) (by decide +kernel) (by decide) (by decide) ?_
  refine y_put (ci := 11) (k := 24) (fs' := [.ref 40, .ref 41, .ref 42, .ref 43, .int 0, .int 0, .int 0, .int 0, .ref 44, .int 0, .ref 45, .int 0, .int 0, .ref 46, .int 0, .ref 47, .int 0, .int 0, .int 0, .int 0, .int 0, .int 0, .ref 48, .ref 49, .ref 50, .int 0, .null, .null, .null, .null, .null, .int 0, .int 0, .null, .null, .int 0, .int 0, .int 0, .null, .null, .null, .null]) (es' := yS85) rfl (List.mem_of_getElem? (i := 1081) (by decide +kernel)) (by decide +kernel) rfl (by decide) rfl rfl ?_
  refine y_aload_n rfl rfl ?_
  refine y_bipush (v := 64) rfl (by decide) ?_
  refine y_newa 2 (N := 64) (ty := .boolean) rfl rfl (Or.inr (Or.inr ⟨rfl, rfl⟩)) (by decide) (by decide) (by decide) (by decide) (by decide +kernel) (by decide) (by decide) ?_
  refine y_put (ci := 11) (k := 26) (fs' := [.ref 40, .ref 41, .ref 42, .ref 43, .int 0, .int 0, .int 0, .int 0, .ref 44, .int 0, .ref 45, .int 0, .int 0, .ref 46, .int 0, .ref 47, .int 0, .int 0, .int 0, .int 0, .int 0, .int 0, .ref 48, .ref 49, .ref 50, .int 0, .ref 51, .null, .null, .null, .null, .int 0, .int 0, .null, .null, .int 0, .int 0, .int 0, .null, .null, .null, .null]) (es' := yS86) rfl (List.mem_of_getElem? (i := 1083) (by decide +kernel)) (by decide +kernel) rfl (by decide) rfl rfl ?_
  refine y_aload_n rfl rfl ?_
  refine y_bipush (v := 64) rfl (by decide) ?_
  refine y_newa 0 (N := 64) (ty := .int) rfl rfl (Or.inl ⟨rfl, rfl⟩) (by decide) (by decide) (by decide) (by decide) (by decide +kernel) (by decide) (by decide) ?_
  refine y_put (ci := 11) (k := 27) (fs' := [.ref 40, .ref 41, .ref 42, .ref 43, .int 0, .int 0, .int 0, .int 0, .ref 44, .int 0, .ref 45, .int 0, .int 0, .ref 46, .int 0, .ref 47, .int 0, .int 0, .int 0, .int 0, .int 0, .int 0, .ref 48, .ref 49, .ref 50, .int 0, .ref 51, .ref 52, .null, .null, .null, .int 0, .int 0, .null, .null, .int 0, .int 0, .int 0, .null, .null, .null, .null]) (es' := yS87) rfl (List.mem_of_getElem? (i := 1084) (by decide +kernel)) (by decide +kernel) rfl (by decide) rfl rfl ?_
  refine y_aload_n rfl rfl ?_
  refine y_bipush (v := 64) rfl (by decide) ?_
  refine y_newa 0 (N := 64) (ty := .int) rfl rfl (Or.inl ⟨rfl, rfl⟩) (by decide) (by decide) (by decide) (by decide) (by decide +kernel) (by decide) (by decide) ?_
  refine y_put (ci := 11) (k := 28) (fs' := [.ref 40, .ref 41, .ref 42, .ref 43, .int 0, .int 0, .int 0, .int 0, .ref 44, .int 0, .ref 45, .int 0, .int 0, .ref 46, .int 0, .ref 47, .int 0, .int 0, .int 0, .int 0, .int 0, .int 0, .ref 48, .ref 49, .ref 50, .int 0, .ref 51, .ref 52, .ref 53, .null, .null, .int 0, .int 0, .null, .null, .int 0, .int 0, .int 0, .null, .null, .null, .null]) (es' := yS88) rfl (List.mem_of_getElem? (i := 1085) (by decide +kernel)) (by decide +kernel) rfl (by decide) rfl rfl ?_
  refine y_aload_n rfl rfl ?_
  refine y_iconst (v := 5) rfl (by decide) ?_
  refine y_newa 0 (N := 5) (ty := .int) rfl rfl (Or.inl ⟨rfl, rfl⟩) (by decide) (by decide) (by decide) (by decide) (by decide +kernel) (by decide) (by decide) ?_
  refine y_put (ci := 11) (k := 29) (fs' := [.ref 40, .ref 41, .ref 42, .ref 43, .int 0, .int 0, .int 0, .int 0, .ref 44, .int 0, .ref 45, .int 0, .int 0, .ref 46, .int 0, .ref 47, .int 0, .int 0, .int 0, .int 0, .int 0, .int 0, .ref 48, .ref 49, .ref 50, .int 0, .ref 51, .ref 52, .ref 53, .ref 54, .null, .int 0, .int 0, .null, .null, .int 0, .int 0, .int 0, .null, .null, .null, .null]) (es' := yS89) rfl (List.mem_of_getElem? (i := 1086) (by decide +kernel)) (by decide +kernel) rfl (by decide) rfl rfl ?_
  refine y_aload_n rfl rfl ?_
  refine y_iconst (v := 5) rfl (by decide) ?_
  refine y_newa 0 (N := 5) (ty := .int) rfl rfl (Or.inl ⟨rfl, rfl⟩) (by decide) (by decide) (by decide) (by decide) (by decide +kernel) (by decide) (by decide) ?_
  refine y_put (ci := 11) (k := 30) (fs' := [.ref 40, .ref 41, .ref 42, .ref 43, .int 0, .int 0, .int 0, .int 0, .ref 44, .int 0, .ref 45, .int 0, .int 0, .ref 46, .int 0, .ref 47, .int 0, .int 0, .int 0, .int 0, .int 0, .int 0, .ref 48, .ref 49, .ref 50, .int 0, .ref 51, .ref 52, .ref 53, .ref 54, .ref 55, .int 0, .int 0, .null, .null, .int 0, .int 0, .int 0, .null, .null, .null, .null]) (es' := yS90) rfl (List.mem_of_getElem? (i := 1087) (by decide +kernel)) (by decide +kernel) rfl (by decide) rfl rfl ?_
  refine y_aload_n rfl rfl ?_
  refine y_bipush (v := 50) rfl (by decide) ?_
  refine y_newa 0 (N := 50) (ty := .int) rfl rfl (Or.inl ⟨rfl, rfl⟩) (by decide) (by decide) (by decide) (by decide) (by decide +kernel) (by decide) (by decide) ?_
  refine y_put (ci := 11) (k := 33) (fs' := [.ref 40, .ref 41, .ref 42, .ref 43, .int 0, .int 0, .int 0, .int 0, .ref 44, .int 0, .ref 45, .int 0, .int 0, .ref 46, .int 0, .ref 47, .int 0, .int 0, .int 0, .int 0, .int 0, .int 0, .ref 48, .ref 49, .ref 50, .int 0, .ref 51, .ref 52, .ref 53, .ref 54, .ref 55, .int 0, .int 0, .ref 56, .null, .int 0, .int 0, .int 0, .null, .null, .null, .null]) (es' := yS91) rfl (List.mem_of_getElem? (i := 1090) (by decide +kernel)) (by decide +kernel) rfl (by decide) rfl rfl ?_
  refine y_aload_n rfl rfl ?_
  refine y_bipush (v := 24) rfl (by decide) ?_
  refine y_newa 0 (N := 24) (ty := .int) rfl rfl (Or.inl ⟨rfl, rfl⟩) (by decide) (by decide) (by decide) (by decide) (by decide +kernel) (by decide) (by decide) ?_
  refine y_put (ci := 11) (k := 34) (fs' := [.ref 40, .ref 41, .ref 42, .ref 43, .int 0, .int 0, .int 0, .int 0, .ref 44, .int 0, .ref 45, .int 0, .int 0, .ref 46, .int 0, .ref 47, .int 0, .int 0, .int 0, .int 0, .int 0, .int 0, .ref 48, .ref 49, .ref 50, .int 0, .ref 51, .ref 52, .ref 53, .ref 54, .ref 55, .int 0, .int 0, .ref 56, .ref 57, .int 0, .int 0, .int 0, .null, .null, .null, .null]) (es' := yS92) rfl (List.mem_of_getElem? (i := 1091) (by decide +kernel)) (by decide +kernel) rfl (by decide) rfl rfl ?_
  refine y_aload_n rfl rfl ?_
  refine y_bipush (v := 6) rfl (by decide) ?_
  refine y_newa 0 (N := 6) (ty := .int) rfl rfl (Or.inl ⟨rfl, rfl⟩) (by decide) (by decide) (by decide) (by decide) (by decide +kernel) (by decide) (by decide) ?_
  refine y_put (ci := 11) (k := 38) (fs' := [.ref 40, .ref 41, .ref 42, .ref 43, .int 0, .int 0, .int 0, .int 0, .ref 44, .int 0, .ref 45, .int 0, .int 0, .ref 46, .int 0, .ref 47, .int 0, .int 0, .int 0, .int 0, .int 0, .int 0, .ref 48, .ref 49, .ref 50, .int 0, .ref 51, .ref 52, .ref 53, .ref 54, .ref 55, .int 0, .int 0, .ref 56, .ref 57, .int 0, .int 0, .int 0, .ref 58, .null, .null, .null]) (es' := yS93) rfl (List.mem_of_getElem? (i := 1095) (by decide +kernel)) (by decide +kernel) rfl (by decide) rfl rfl ?_
  refine y_aload_n rfl rfl ?_
  refine y_bipush (v := 6) rfl (by decide) ?_
  refine y_newa 0 (N := 6) (ty := .int) rfl rfl (Or.inl ⟨rfl, rfl⟩) (by decide) (by decide) (by decide) (by decide) (by decide +kernel) (by decide) (by decide) ?_
  refine y_put (ci := 11) (k := 39) (fs' := [.ref 40, .ref 41, .ref 42, .ref 43, .int 0, .int 0, .int 0, .int 0, .ref 44, .int 0, .ref 45, .int 0, .int 0, .ref 46, .int 0, .ref 47, .int 0, .int 0, .int 0, .int 0, .int 0, .int 0, .ref 48, .ref 49, .ref 50, .int 0, .ref 51, .ref 52, .ref 53, .ref 54, .ref 55, .int 0, .int 0, .ref 56, .ref 57, .int 0, .int 0, .int 0, .ref 58, .ref 59, .null, .null]) (es' := yS94) rfl (List.mem_of_getElem? (i := 1096) (by decide +kernel)) (by decide +kernel) rfl (by decide) rfl rfl ?_
  refine y_aload_n rfl rfl ?_
  refine y_sipush (v := 360) rfl (by decide) ?_
  refine y_newa 1 (N := 360) (ty := .long) rfl rfl (Or.inr (Or.inl ⟨rfl, rfl⟩)) (by decide) (by decide) (by decide) (by decide) (by decide +kernel) (by decide) (by decide) ?_
  refine y_put (ci := 11) (k := 40) (fs' := [.ref 40, .ref 41, .ref 42, .ref 43, .int 0, .int 0, .int 0, .int 0, .ref 44, .int 0, .ref 45, .int 0, .int 0, .ref 46, .int 0, .ref 47, .int 0, .int 0, .int 0, .int 0, .int 0, .int 0, .ref 48, .ref 49, .ref 50, .int 0, .ref 51, .ref 52, .ref 53, .ref 54, .ref 55, .int 0, .int 0, .ref 56, .ref 57, .int 0, .int 0, .int 0, .ref 58, .ref 59, .ref 60, .null]) (es' := yS95) rfl (List.mem_of_getElem? (i := 1097) (by decide +kernel)) (by decide +kernel) rfl (by decide) rfl rfl ?_
  refine y_aload_n rfl rfl ?_
  refine y_bipush (v := 60) rfl (by decide) ?_
  refine y_newa 1 (N := 60) (ty := .long) rfl rfl (Or.inr (Or.inl ⟨rfl, rfl⟩)) (by decide) (by decide) (by decide) (by decide) (by decide +kernel) (by decide) (by decide) ?_
  refine y_put (ci := 11) (k := 41) (fs' := [.ref 40, .ref 41, .ref 42, .ref 43, .int 0, .int 0, .int 0, .int 0, .ref 44, .int 0, .ref 45, .int 0, .int 0, .ref 46, .int 0, .ref 47, .int 0, .int 0, .int 0, .int 0, .int 0, .int 0, .ref 48, .ref 49, .ref 50, .int 0, .ref 51, .ref 52, .ref 53, .ref 54, .ref 55, .int 0, .int 0, .ref 56, .ref 57, .int 0, .int 0, .int 0, .ref 58, .ref 59, .ref 60, .ref 61]) (es' := yS96) rfl (List.mem_of_getElem? (i := 1098) (by decide +kernel)) (by decide +kernel) rfl (by decide) rfl rfl ?_
  refine y_iconst (v := 0) rfl (by decide) ?_
  refine y_istore_n (lv' := [(0, .ref 39), (1, .int 0)]) rfl (by decide) rfl rfl ?_
  refine y_eqs (es' := (yS97 0)) (nc' := 22) (ns' := 1240) (y0_11 ) rfl rfl ?_
  refine yl_11 0 (by decide) ?_
  refine y_eqs (es' := yS98) (nc' := 22) (ns' := 1240) yN_11 rfl rfl ?_
  refine y_aload_n rfl rfl ?_
  refine y_iconst (v := -1) rfl (by decide) ?_
  refine y_put (ci := 11) (k := 16) (fs' := [.ref 40, .ref 41, .ref 42, .ref 43, .int 0, .int 0, .int 0, .int 0, .ref 44, .int 0, .ref 45, .int 0, .int 0, .ref 46, .int 0, .ref 47, .int (-1), .int 0, .int 0, .int 0, .int 0, .int 0, .ref 48, .ref 49, .ref 50, .int 0, .ref 51, .ref 52, .ref 53, .ref 54, .ref 55, .int 0, .int 0, .ref 56, .ref 57, .int 0, .int 0, .int 0, .ref 58, .ref 59, .ref 60, .ref 61]) (es' := yS99) rfl (List.mem_of_getElem? (i := 1073) (by decide +kernel)) (by decide +kernel) rfl (by decide) rfl rfl ?_
  refine y_aload_n rfl rfl ?_
  refine y_iconst (v := 1) rfl (by decide) ?_
  refine y_put (ci := 11) (k := 11) (fs' := [.ref 40, .ref 41, .ref 42, .ref 43, .int 0, .int 0, .int 0, .int 0, .ref 44, .int 0, .ref 45, .int 1, .int 0, .ref 46, .int 0, .ref 47, .int (-1), .int 0, .int 0, .int 0, .int 0, .int 0, .ref 48, .ref 49, .ref 50, .int 0, .ref 51, .ref 52, .ref 53, .ref 54, .ref 55, .int 0, .int 0, .ref 56, .ref 57, .int 0, .int 0, .int 0, .ref 58, .ref 59, .ref 60, .ref 61]) (es' := yS100) rfl (List.mem_of_getElem? (i := 1068) (by decide +kernel)) (by decide +kernel) rfl (by decide) rfl rfl ?_
  refine y_aload_n rfl rfl ?_
  refine y_iconst (v := 1) rfl (by decide) ?_
  refine y_put (ci := 11) (k := 12) (fs' := [.ref 40, .ref 41, .ref 42, .ref 43, .int 0, .int 0, .int 0, .int 0, .ref 44, .int 0, .ref 45, .int 1, .int 1, .ref 46, .int 0, .ref 47, .int (-1), .int 0, .int 0, .int 0, .int 0, .int 0, .ref 48, .ref 49, .ref 50, .int 0, .ref 51, .ref 52, .ref 53, .ref 54, .ref 55, .int 0, .int 0, .ref 56, .ref 57, .int 0, .int 0, .int 0, .ref 58, .ref 59, .ref 60, .ref 61]) (es' := yS101) rfl (List.mem_of_getElem? (i := 1069) (by decide +kernel)) (by decide +kernel) rfl (by decide) rfl rfl ?_
  exact y_end (fun q hq => by cases (show q ∈ ([] : List (Nat × Value)) from hq)) rfl rfl rfl rfl rfl
abbrev yo_39 : YE := .inl (11, [.ref 40, .ref 41, .ref 42, .ref 43, .int 0, .int 0, .int 0, .int 0, .ref 44, .int 0, .ref 45, .int 1, .int 1, .ref 46, .int 0, .ref 47, .int (-1), .int 0, .int 0, .int 0, .int 0, .int 0, .ref 48, .ref 49, .ref 50, .int 0, .ref 51, .ref 52, .ref 53, .ref 54, .ref 55, .int 0, .int 0, .ref 56, .ref 57, .int 0, .int 0, .int 0, .ref 58, .ref 59, .ref 60, .ref 61])
def yS102 : List YE := [.inl (10, [.ref 1, .ref 5, .ref 9, .ref 15, .ref 19, .ref 22, .ref 27, .ref 32, .ref 33, .ref 36]), yo_1, yr 10, .inr (0, 100, yst 100), yr 206, yo_5, yr 40, yr 40, yr 40, yo_9, yr 120, yo_11, yr 128, yr 128, yr 128, yo_15, yr 128, yr 128, yr 128, yo_19, yr 10, yr 6, yo_22, yr 10, yr 64, yr 64, yr 64, yo_27, .inr (0, 6, ymin 6), yr 6, yr 6, yrL 360, yo_32, yo_33, yr 6, yr 6, yo_36, yr 50, yr 24, yo_39, yr 126, yr 40, yr 40, yr 40, yr 10, yr 10, yr 120, yr 120, yr 6, yr 10, yr 10, yrB 64, yr 64, yr 64, yr 5, yr 5, yr 50, yr 24, .inr (0, 6, ymin 6), yr 6, yrL 360, yrL 60]
def yF13 : YF := (8, [(0, .ref 102), (1, .ref 0), (2, .ref 39)], [], yS102, 62, 3349)
theorem yw_law (Y : YC) : YW Y m_L_law 407 0 yF13 0 [(0, .ref 102)] [] [] 0 0 := by
  refine y_new (ci := 10) (N := 10) rfl (by decide) yb_10 (by decide +kernel) rfl ⟨(List.mem_of_getElem? (i := 85) (by decide +kernel)), (List.mem_of_getElem? (i := 86) (by decide +kernel)), (List.mem_of_getElem? (i := 70) (by decide +kernel))⟩ (by decide) (by decide +kernel) (by decide) (by decide) ?_
  refine y_eqs (es' := [.inl (10, [.null, .null, .null, .null, .null, .null, .null, .null, .null, .null])]) (nc' := 1) (ns' := 10) rfl rfl rfl ?_
  refine y_dup rfl ?_
  refine y_callI (M' := m_Y10) (d' := 3) (mc := 38) (ms := 2057) (as := []) (o := 0) (rest := [.ref 0]) rfl (List.mem_of_getElem? (i := 87) (by decide +kernel)) vy_10 (by decide) rfl rfl (by decide) (by decide) (by decide +kernel) (by decide) (by decide) (yc_10 Y) ?_
  refine y_eqs (es' := yS73) (nc' := 39) (ns' := 2067) rfl rfl rfl ?_
  refine y_astore_n (lv' := [(0, .ref 102), (1, .ref 0)]) rfl (by decide) rfl rfl ?_
  refine y_new (ci := 11) (N := 42) rfl (by decide) yb_11 (by decide +kernel) rfl ⟨(List.mem_of_getElem? (i := 1051) (by decide +kernel)), (List.mem_of_getElem? (i := 1052) (by decide +kernel)), (List.mem_of_getElem? (i := 81) (by decide +kernel))⟩ (by decide) (by decide +kernel) (by decide) (by decide) ?_
  refine y_eqs (es' := yS74) (nc' := 40) (ns' := 2109) rfl rfl rfl ?_
  refine y_dup rfl ?_
  refine y_callI (M' := m_Y11) (d' := 1) (mc := 22) (ms := 1240) (as := []) (o := 39) (rest := [.ref 39]) rfl (List.mem_of_getElem? (i := 1053) (by decide +kernel)) vy_11 (by decide) rfl rfl (by decide) (by decide) (by decide +kernel) (by decide) (by decide) (yc_11 Y) ?_
  refine y_eqs (es' := yS102) (nc' := 62) (ns' := 3349) rfl rfl rfl ?_
  refine y_astore_n (lv' := [(0, .ref 102), (1, .ref 0), (2, .ref 39)]) rfl (by decide) rfl rfl ?_
  exact y_end (by decide) rfl rfl rfl rfl rfl
