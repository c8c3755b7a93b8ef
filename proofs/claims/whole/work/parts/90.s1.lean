/-! THE START: each place. -/
def adB (a : S11) (k : Nat) : Nat × (Nat → Nat) := if k = 0 then a.2.2.1 else if k = 1 then a.2.2.2.1 else a.2.2.2.2.1.2.2 (k - 2)
def adF (q : Nat) (a : S11) (q2 : Nat) (a2 : Nat → Nat) (q3 : Nat) : Nat → Nat := fun p =>
  if 32 ≤ p ∧ p < 192 then (match (p - 32) % 8 with | 0 => (adB a ((p - 32) / 8)).1 | j + 1 => (adB a ((p - 32) / 8)).2 j)
  else if p = 300 then q2 else if 300 < p then a2 (mods.idxOf p) else
  match p with
  | 0 => q | 1 => a.1.1 | 2 => a.1.2 0 | 3 => a.2.1.1 | 4 => a.2.1.2 0 | 5 => a.2.2.2.2.1.1 | 6 => a.2.2.2.2.1.2.1 0 | 7 => a.2.2.2.2.1.2.1 1 | 8 => a.2.2.2.2.1.2.1 2
  | 9 => a.2.2.2.2.2.1.1 | 10 => a.2.2.2.2.2.1.2 0 | 11 => a.2.2.2.2.2.1.2 1 | 12 => a.2.2.2.2.2.1.2 2 | 13 => a.2.2.2.2.2.2.1.1 | 14 => a.2.2.2.2.2.2.1.2 0 | 15 => a.2.2.2.2.2.2.1.2 1
  | 16 => a.2.2.2.2.2.2.2.1.1 | 17 => a.2.2.2.2.2.2.2.1.2 0 | 18 => a.2.2.2.2.2.2.2.1.2 1 | 19 => a.2.2.2.2.2.2.2.1.2 2 | 20 => a.2.2.2.2.2.2.2.1.2 3
  | 21 => a.2.2.2.2.2.2.2.2.1 | 22 => a.2.2.2.2.2.2.2.2.2 0 | 23 => a.2.2.2.2.2.2.2.2.2 1 | 24 => a.2.2.2.2.2.2.2.2.2 2 | 25 => a.2.2.2.2.2.2.2.2.2 3 | _ => q3
def piL : List (Nat × Nat) := [(0, 0), (1, 1), (2, 2), (3, 3), (4, 4), (5, 17), (6, 18), (7, 19), (8, 20), (9, 129), (10, 130), (11, 131), (12, 132), (13, 133), (14, 134), (15, 135), (16, 136), (17, 137), (18, 138), (19, 139), (20, 140), (21, 141), (22, 142), (23, 143), (24, 144), (25, 145), (26, 172), (32, 5), (33, 6), (34, 7), (35, 8), (36, 9), (37, 10), (40, 11), (41, 12), (42, 13), (43, 14), (44, 15), (45, 16), (48, 21), (49, 22), (50, 23), (51, 24), (52, 25), (53, 26), (56, 27), (57, 28), (58, 29), (59, 30), (60, 31), (61, 32), (64, 33), (65, 34), (66, 35), (67, 36), (68, 37), (69, 38), (72, 39), (73, 40), (74, 41), (75, 42), (76, 43), (77, 44), (80, 45), (81, 46), (82, 47), (83, 48), (84, 49), (85, 50), (88, 51), (89, 52), (90, 53), (91, 54), (92, 55), (93, 56), (96, 57), (97, 58), (98, 59), (99, 60), (100, 61), (101, 62), (104, 63), (105, 64), (106, 65), (107, 66), (108, 67), (109, 68), (112, 69), (113, 70), (114, 71), (115, 72), (116, 73), (117, 74), (120, 75), (121, 76), (122, 77), (123, 78), (124, 79), (125, 80), (128, 81), (129, 82), (130, 83), (131, 84), (132, 85), (133, 86), (136, 87), (137, 88), (138, 89), (139, 90), (140, 91), (141, 92), (144, 93), (145, 94), (146, 95), (147, 96), (148, 97), (149, 98), (152, 99), (153, 100), (154, 101), (155, 102), (156, 103), (157, 104), (160, 105), (161, 106), (162, 107), (163, 108), (164, 109), (165, 110), (168, 111), (169, 112), (170, 113), (171, 114), (172, 115), (173, 116), (176, 117), (177, 118), (178, 119), (179, 120), (180, 121), (181, 122), (184, 123), (185, 124), (186, 125), (187, 126), (188, 127), (189, 128), (300, 146), (302, 147), (305, 148), (306, 149), (307, 150), (308, 151), (313, 152), (315, 153), (316, 154), (319, 155), (320, 156), (322, 157), (323, 158), (324, 159), (325, 160), (328, 161), (329, 162), (330, 163), (332, 164), (333, 165), (334, 166), (335, 167), (336, 168), (338, 169), (339, 170), (340, 171)]
theorem piL_ok : piL.map Prod.fst = PL := by decide +kernel
theorem piL_nd : (piL.map Prod.snd).Nodup := by decide +kernel
theorem cell_ext {cA : ClassId} {n : Nat} {f g : Nat → Option Nat} (h : ∀ i, i < n → f i = g i) : vp_cell cA (n, .inr (.inr (.inr (.inr f)))) = vp_cell cA (n, .inr (.inr (.inr (.inr g)))) := by
  rw [vp_cell_q, vp_cell_q]
  unfold arrV
  congr 2
  funext j
  show va_rf (f j.val) = va_rf (g j.val)
  rw [h j.val j.isLt]
abbrev sG (D : va_G) (yy : Nat → ClassId) (Hp : Heap) (aK aV : Nat → Nat) (A : Nat → Prop) (q : Nat) (a : S11) (q2 : Nat) (a2 : Nat → Nat) (q3 : Nat) : gT := (D, yy, adF q a q2 a2 q3, Hp, aK, aV, A, PL)
section START
variable {D : va_G} {yy : Nat → ClassId} {Hp : Heap} {aK aV : Nat → Nat} {A : Nat → Prop} {q : Nat} {a : S11} {q2 : Nat} {a2 : Nat → Nat} {q3 : Nat} {H : Heap} {G0 : gT} {W : St}
/-- place p's cell is number i of the list -/
def sAt (W : St) (D : va_G) (yy : Nat → ClassId) (Hp : Heap) (aK aV : Nat → Nat) (A : Nat → Prop) (q : Nat) (a : S11) (q2 : Nat) (a2 : Nat → Nat) (q3 : Nat) (G0 : gT) (H : Heap) (x : Nat × Nat) : Prop :=
  (∃ e, (stFW W G0 q a q2 a2 q3)[x.2]? = some (adF q a q2 a2 q3 x.1, e)) ∧ va_at D vwCl (adF q a q2 a2 q3 x.1, eE (sG D yy Hp aK aV A q a q2 a2 q3) (mF (χW W) σ0) (mA (χW W) σ0) (mL (χW W) σ0) (16, 21) x.1) H
theorem sAt_of {x : Nat × Nat} {e : va_E} (hP : va_P D vwCl (stFW W G0 q a q2 a2 q3) H) (h1 : (stFW W G0 q a q2 a2 q3)[x.2]? = some (adF q a q2 a2 q3 x.1, e)) (h2 : e = eE (sG D yy Hp aK aV A q a q2 a2 q3) (mF (χW W) σ0) (mA (χW W) σ0) (mL (χW W) σ0) (16, 21) x.1) : sAt W D yy Hp aK aV A q a q2 a2 q3 G0 H x :=
  ⟨⟨e, h1⟩, by rw [← h2]; exact hP _ _ h1⟩
theorem start_0 (hy : gy G0 = yy) (hP : va_P D vwCl (stFW W G0 q a q2 a2 q3) H) : ∀ x ∈ ([(0, 0), (1, 1), (2, 2), (3, 3), (4, 4), (5, 17), (6, 18), (7, 19), (8, 20), (9, 129), (10, 130), (11, 131), (12, 132), (13, 133), (14, 134), (15, 135), (16, 136), (17, 137), (18, 138), (19, 139), (20, 140), (21, 141), (22, 142), (23, 143), (24, 144)] : List (Nat × Nat)), sAt W D yy Hp aK aV A q a q2 a2 q3 G0 H x := by
  subst hy
  refine List.forall_mem_cons.mpr ⟨sAt_of hP rfl rfl, ?_⟩
  refine List.forall_mem_cons.mpr ⟨sAt_of hP rfl rfl, ?_⟩
  refine List.forall_mem_cons.mpr ⟨sAt_of hP rfl rfl, ?_⟩
  refine List.forall_mem_cons.mpr ⟨sAt_of hP rfl rfl, ?_⟩
  refine List.forall_mem_cons.mpr ⟨sAt_of hP rfl rfl, ?_⟩
  refine List.forall_mem_cons.mpr ⟨sAt_of hP rfl rfl, ?_⟩
  refine List.forall_mem_cons.mpr ⟨⟨⟨_, rfl⟩, (hP 18 _ rfl).trans (congrArg some (cell_ext (n := 15) (fun i hi => ?_)))⟩, ?_⟩
  · rcases i with _ | _ | _ | _ | _ | _ | _ | _ | _ | _ | _ | _ | _ | _ | _ | i <;> first | rfl | omega
  refine List.forall_mem_cons.mpr ⟨⟨⟨_, rfl⟩, (hP 19 _ rfl).trans (congrArg some (cell_ext (n := 3) (fun i hi => ?_)))⟩, ?_⟩
  · rcases i with _ | _ | _ | i <;> first | rfl | omega
  refine List.forall_mem_cons.mpr ⟨sAt_of hP rfl rfl, ?_⟩
  refine List.forall_mem_cons.mpr ⟨sAt_of hP rfl rfl, ?_⟩
  refine List.forall_mem_cons.mpr ⟨sAt_of hP rfl rfl, ?_⟩
  refine List.forall_mem_cons.mpr ⟨sAt_of hP rfl rfl, ?_⟩
  refine List.forall_mem_cons.mpr ⟨sAt_of hP rfl rfl, ?_⟩
  refine List.forall_mem_cons.mpr ⟨sAt_of hP rfl rfl, ?_⟩
  refine List.forall_mem_cons.mpr ⟨sAt_of hP rfl rfl, ?_⟩
  refine List.forall_mem_cons.mpr ⟨sAt_of hP rfl rfl, ?_⟩
  refine List.forall_mem_cons.mpr ⟨sAt_of hP rfl rfl, ?_⟩
  refine List.forall_mem_cons.mpr ⟨sAt_of hP rfl rfl, ?_⟩
  refine List.forall_mem_cons.mpr ⟨sAt_of hP rfl rfl, ?_⟩
  refine List.forall_mem_cons.mpr ⟨sAt_of hP rfl rfl, ?_⟩
  refine List.forall_mem_cons.mpr ⟨sAt_of hP rfl rfl, ?_⟩
  refine List.forall_mem_cons.mpr ⟨sAt_of hP rfl rfl, ?_⟩
  refine List.forall_mem_cons.mpr ⟨sAt_of hP rfl rfl, ?_⟩
  refine List.forall_mem_cons.mpr ⟨sAt_of hP rfl rfl, ?_⟩
  refine List.forall_mem_cons.mpr ⟨sAt_of hP rfl rfl, ?_⟩
  exact fun _ h => absurd h List.not_mem_nil
theorem start_1 (hy : gy G0 = yy) (hP : va_P D vwCl (stFW W G0 q a q2 a2 q3) H) : ∀ x ∈ ([(25, 145), (26, 172), (32, 5), (33, 6), (34, 7), (35, 8), (36, 9), (37, 10), (40, 11), (41, 12), (42, 13), (43, 14), (44, 15), (45, 16), (48, 21), (49, 22), (50, 23), (51, 24), (52, 25), (53, 26), (56, 27), (57, 28), (58, 29), (59, 30), (60, 31)] : List (Nat × Nat)), sAt W D yy Hp aK aV A q a q2 a2 q3 G0 H x := by
  subst hy
  refine List.forall_mem_cons.mpr ⟨sAt_of hP rfl rfl, ?_⟩
  refine List.forall_mem_cons.mpr ⟨sAt_of hP rfl rfl, ?_⟩
  refine List.forall_mem_cons.mpr ⟨sAt_of hP rfl rfl, ?_⟩
  refine List.forall_mem_cons.mpr ⟨sAt_of hP rfl rfl, ?_⟩
  refine List.forall_mem_cons.mpr ⟨sAt_of hP rfl rfl, ?_⟩
  refine List.forall_mem_cons.mpr ⟨sAt_of hP rfl rfl, ?_⟩
  refine List.forall_mem_cons.mpr ⟨sAt_of hP rfl rfl, ?_⟩
  refine List.forall_mem_cons.mpr ⟨sAt_of hP rfl rfl, ?_⟩
  refine List.forall_mem_cons.mpr ⟨sAt_of hP rfl rfl, ?_⟩
  refine List.forall_mem_cons.mpr ⟨sAt_of hP rfl rfl, ?_⟩
  refine List.forall_mem_cons.mpr ⟨sAt_of hP rfl rfl, ?_⟩
  refine List.forall_mem_cons.mpr ⟨sAt_of hP rfl rfl, ?_⟩
  refine List.forall_mem_cons.mpr ⟨sAt_of hP rfl rfl, ?_⟩
  refine List.forall_mem_cons.mpr ⟨sAt_of hP rfl rfl, ?_⟩
  refine List.forall_mem_cons.mpr ⟨sAt_of hP rfl rfl, ?_⟩
  refine List.forall_mem_cons.mpr ⟨sAt_of hP rfl rfl, ?_⟩
  refine List.forall_mem_cons.mpr ⟨sAt_of hP rfl rfl, ?_⟩
  refine List.forall_mem_cons.mpr ⟨sAt_of hP rfl rfl, ?_⟩
  refine List.forall_mem_cons.mpr ⟨sAt_of hP rfl rfl, ?_⟩
  refine List.forall_mem_cons.mpr ⟨sAt_of hP rfl rfl, ?_⟩
  refine List.forall_mem_cons.mpr ⟨sAt_of hP rfl rfl, ?_⟩
  refine List.forall_mem_cons.mpr ⟨sAt_of hP rfl rfl, ?_⟩
  refine List.forall_mem_cons.mpr ⟨sAt_of hP rfl rfl, ?_⟩
  refine List.forall_mem_cons.mpr ⟨sAt_of hP rfl rfl, ?_⟩
  refine List.forall_mem_cons.mpr ⟨sAt_of hP rfl rfl, ?_⟩
  exact fun _ h => absurd h List.not_mem_nil
theorem start_2 (hy : gy G0 = yy) (hP : va_P D vwCl (stFW W G0 q a q2 a2 q3) H) : ∀ x ∈ ([(61, 32), (64, 33), (65, 34), (66, 35), (67, 36), (68, 37), (69, 38), (72, 39), (73, 40), (74, 41), (75, 42), (76, 43), (77, 44), (80, 45), (81, 46), (82, 47), (83, 48), (84, 49), (85, 50), (88, 51), (89, 52), (90, 53), (91, 54), (92, 55), (93, 56)] : List (Nat × Nat)), sAt W D yy Hp aK aV A q a q2 a2 q3 G0 H x := by
  subst hy
  refine List.forall_mem_cons.mpr ⟨sAt_of hP rfl rfl, ?_⟩
  refine List.forall_mem_cons.mpr ⟨sAt_of hP rfl rfl, ?_⟩
  refine List.forall_mem_cons.mpr ⟨sAt_of hP rfl rfl, ?_⟩
  refine List.forall_mem_cons.mpr ⟨sAt_of hP rfl rfl, ?_⟩
  refine List.forall_mem_cons.mpr ⟨sAt_of hP rfl rfl, ?_⟩
  refine List.forall_mem_cons.mpr ⟨sAt_of hP rfl rfl, ?_⟩
  refine List.forall_mem_cons.mpr ⟨sAt_of hP rfl rfl, ?_⟩
  refine List.forall_mem_cons.mpr ⟨sAt_of hP rfl rfl, ?_⟩
  refine List.forall_mem_cons.mpr ⟨sAt_of hP rfl rfl, ?_⟩
  refine List.forall_mem_cons.mpr ⟨sAt_of hP rfl rfl, ?_⟩
  refine List.forall_mem_cons.mpr ⟨sAt_of hP rfl rfl, ?_⟩
  refine List.forall_mem_cons.mpr ⟨sAt_of hP rfl rfl, ?_⟩
  refine List.forall_mem_cons.mpr ⟨sAt_of hP rfl rfl, ?_⟩
  refine List.forall_mem_cons.mpr ⟨sAt_of hP rfl rfl, ?_⟩
  refine List.forall_mem_cons.mpr ⟨sAt_of hP rfl rfl, ?_⟩
  refine List.forall_mem_cons.mpr ⟨sAt_of hP rfl rfl, ?_⟩
  refine List.forall_mem_cons.mpr ⟨sAt_of hP rfl rfl, ?_⟩
  refine List.forall_mem_cons.mpr ⟨sAt_of hP rfl rfl, ?_⟩
  refine List.forall_mem_cons.mpr ⟨sAt_of hP rfl rfl, ?_⟩
  refine List.forall_mem_cons.mpr ⟨sAt_of hP rfl rfl, ?_⟩
  refine List.forall_mem_cons.mpr ⟨sAt_of hP rfl rfl, ?_⟩
  refine List.forall_mem_cons.mpr ⟨sAt_of hP rfl rfl, ?_⟩
  refine List.forall_mem_cons.mpr ⟨sAt_of hP rfl rfl, ?_⟩
  refine List.forall_mem_cons.mpr ⟨sAt_of hP rfl rfl, ?_⟩
  refine List.forall_mem_cons.mpr ⟨sAt_of hP rfl rfl, ?_⟩
  exact fun _ h => absurd h List.not_mem_nil
theorem start_3 (hy : gy G0 = yy) (hP : va_P D vwCl (stFW W G0 q a q2 a2 q3) H) : ∀ x ∈ ([(96, 57), (97, 58), (98, 59), (99, 60), (100, 61), (101, 62), (104, 63), (105, 64), (106, 65), (107, 66), (108, 67), (109, 68), (112, 69), (113, 70), (114, 71), (115, 72), (116, 73), (117, 74), (120, 75), (121, 76), (122, 77), (123, 78), (124, 79), (125, 80), (128, 81)] : List (Nat × Nat)), sAt W D yy Hp aK aV A q a q2 a2 q3 G0 H x := by
  subst hy
  refine List.forall_mem_cons.mpr ⟨sAt_of hP rfl rfl, ?_⟩
  refine List.forall_mem_cons.mpr ⟨sAt_of hP rfl rfl, ?_⟩
  refine List.forall_mem_cons.mpr ⟨sAt_of hP rfl rfl, ?_⟩
  refine List.forall_mem_cons.mpr ⟨sAt_of hP rfl rfl, ?_⟩
  refine List.forall_mem_cons.mpr ⟨sAt_of hP rfl rfl, ?_⟩
  refine List.forall_mem_cons.mpr ⟨sAt_of hP rfl rfl, ?_⟩
  refine List.forall_mem_cons.mpr ⟨sAt_of hP rfl rfl, ?_⟩
  refine List.forall_mem_cons.mpr ⟨sAt_of hP rfl rfl, ?_⟩
  refine List.forall_mem_cons.mpr ⟨sAt_of hP rfl rfl, ?_⟩
  refine List.forall_mem_cons.mpr ⟨sAt_of hP rfl rfl, ?_⟩
  refine List.forall_mem_cons.mpr ⟨sAt_of hP rfl rfl, ?_⟩
  refine List.forall_mem_cons.mpr ⟨sAt_of hP rfl rfl, ?_⟩
  refine List.forall_mem_cons.mpr ⟨sAt_of hP rfl rfl, ?_⟩
  refine List.forall_mem_cons.mpr ⟨sAt_of hP rfl rfl, ?_⟩
  refine List.forall_mem_cons.mpr ⟨sAt_of hP rfl rfl, ?_⟩
  refine List.forall_mem_cons.mpr ⟨sAt_of hP rfl rfl, ?_⟩
  refine List.forall_mem_cons.mpr ⟨sAt_of hP rfl rfl, ?_⟩
  refine List.forall_mem_cons.mpr ⟨sAt_of hP rfl rfl, ?_⟩
  refine List.forall_mem_cons.mpr ⟨sAt_of hP rfl rfl, ?_⟩
  refine List.forall_mem_cons.mpr ⟨sAt_of hP rfl rfl, ?_⟩
  refine List.forall_mem_cons.mpr ⟨sAt_of hP rfl rfl, ?_⟩
  refine List.forall_mem_cons.mpr ⟨sAt_of hP rfl rfl, ?_⟩
  refine List.forall_mem_cons.mpr ⟨sAt_of hP rfl rfl, ?_⟩
  refine List.forall_mem_cons.mpr ⟨sAt_of hP rfl rfl, ?_⟩
  refine List.forall_mem_cons.mpr ⟨sAt_of hP rfl rfl, ?_⟩
  exact fun _ h => absurd h List.not_mem_nil
theorem start_4 (hy : gy G0 = yy) (hP : va_P D vwCl (stFW W G0 q a q2 a2 q3) H) : ∀ x ∈ ([(129, 82), (130, 83), (131, 84), (132, 85), (133, 86), (136, 87), (137, 88), (138, 89), (139, 90), (140, 91), (141, 92), (144, 93), (145, 94), (146, 95), (147, 96), (148, 97), (149, 98), (152, 99), (153, 100), (154, 101), (155, 102), (156, 103), (157, 104), (160, 105), (161, 106)] : List (Nat × Nat)), sAt W D yy Hp aK aV A q a q2 a2 q3 G0 H x := by
  subst hy
  refine List.forall_mem_cons.mpr ⟨sAt_of hP rfl rfl, ?_⟩
  refine List.forall_mem_cons.mpr ⟨sAt_of hP rfl rfl, ?_⟩
  refine List.forall_mem_cons.mpr ⟨sAt_of hP rfl rfl, ?_⟩
  refine List.forall_mem_cons.mpr ⟨sAt_of hP rfl rfl, ?_⟩
  refine List.forall_mem_cons.mpr ⟨sAt_of hP rfl rfl, ?_⟩
  refine List.forall_mem_cons.mpr ⟨sAt_of hP rfl rfl, ?_⟩
  refine List.forall_mem_cons.mpr ⟨sAt_of hP rfl rfl, ?_⟩
  refine List.forall_mem_cons.mpr ⟨sAt_of hP rfl rfl, ?_⟩
  refine List.forall_mem_cons.mpr ⟨sAt_of hP rfl rfl, ?_⟩
  refine List.forall_mem_cons.mpr ⟨sAt_of hP rfl rfl, ?_⟩
  refine List.forall_mem_cons.mpr ⟨sAt_of hP rfl rfl, ?_⟩
  refine List.forall_mem_cons.mpr ⟨sAt_of hP rfl rfl, ?_⟩
  refine List.forall_mem_cons.mpr ⟨sAt_of hP rfl rfl, ?_⟩
  refine List.forall_mem_cons.mpr ⟨sAt_of hP rfl rfl, ?_⟩
  refine List.forall_mem_cons.mpr ⟨sAt_of hP rfl rfl, ?_⟩
  refine List.forall_mem_cons.mpr ⟨sAt_of hP rfl rfl, ?_⟩
  refine List.forall_mem_cons.mpr ⟨sAt_of hP rfl rfl, ?_⟩
  refine List.forall_mem_cons.mpr ⟨sAt_of hP rfl rfl, ?_⟩
  refine List.forall_mem_cons.mpr ⟨sAt_of hP rfl rfl, ?_⟩
  refine List.forall_mem_cons.mpr ⟨sAt_of hP rfl rfl, ?_⟩
  refine List.forall_mem_cons.mpr ⟨sAt_of hP rfl rfl, ?_⟩
  refine List.forall_mem_cons.mpr ⟨sAt_of hP rfl rfl, ?_⟩
  refine List.forall_mem_cons.mpr ⟨sAt_of hP rfl rfl, ?_⟩
  refine List.forall_mem_cons.mpr ⟨sAt_of hP rfl rfl, ?_⟩
  refine List.forall_mem_cons.mpr ⟨sAt_of hP rfl rfl, ?_⟩
  exact fun _ h => absurd h List.not_mem_nil
theorem start_5 (hy : gy G0 = yy) (hP : va_P D vwCl (stFW W G0 q a q2 a2 q3) H) : ∀ x ∈ ([(162, 107), (163, 108), (164, 109), (165, 110), (168, 111), (169, 112), (170, 113), (171, 114), (172, 115), (173, 116), (176, 117), (177, 118), (178, 119), (179, 120), (180, 121), (181, 122), (184, 123), (185, 124), (186, 125), (187, 126), (188, 127), (189, 128), (300, 146), (302, 147), (305, 148)] : List (Nat × Nat)), sAt W D yy Hp aK aV A q a q2 a2 q3 G0 H x := by
  subst hy
  refine List.forall_mem_cons.mpr ⟨sAt_of hP rfl rfl, ?_⟩
  refine List.forall_mem_cons.mpr ⟨sAt_of hP rfl rfl, ?_⟩
  refine List.forall_mem_cons.mpr ⟨sAt_of hP rfl rfl, ?_⟩
  refine List.forall_mem_cons.mpr ⟨sAt_of hP rfl rfl, ?_⟩
  refine List.forall_mem_cons.mpr ⟨sAt_of hP rfl rfl, ?_⟩
  refine List.forall_mem_cons.mpr ⟨sAt_of hP rfl rfl, ?_⟩
  refine List.forall_mem_cons.mpr ⟨sAt_of hP rfl rfl, ?_⟩
  refine List.forall_mem_cons.mpr ⟨sAt_of hP rfl rfl, ?_⟩
  refine List.forall_mem_cons.mpr ⟨sAt_of hP rfl rfl, ?_⟩
  refine List.forall_mem_cons.mpr ⟨sAt_of hP rfl rfl, ?_⟩
  refine List.forall_mem_cons.mpr ⟨sAt_of hP rfl rfl, ?_⟩
  refine List.forall_mem_cons.mpr ⟨sAt_of hP rfl rfl, ?_⟩
  refine List.forall_mem_cons.mpr ⟨sAt_of hP rfl rfl, ?_⟩
  refine List.forall_mem_cons.mpr ⟨sAt_of hP rfl rfl, ?_⟩
  refine List.forall_mem_cons.mpr ⟨sAt_of hP rfl rfl, ?_⟩
  refine List.forall_mem_cons.mpr ⟨sAt_of hP rfl rfl, ?_⟩
  refine List.forall_mem_cons.mpr ⟨sAt_of hP rfl rfl, ?_⟩
  refine List.forall_mem_cons.mpr ⟨sAt_of hP rfl rfl, ?_⟩
  refine List.forall_mem_cons.mpr ⟨sAt_of hP rfl rfl, ?_⟩
  refine List.forall_mem_cons.mpr ⟨sAt_of hP rfl rfl, ?_⟩
  refine List.forall_mem_cons.mpr ⟨sAt_of hP rfl rfl, ?_⟩
  refine List.forall_mem_cons.mpr ⟨sAt_of hP rfl rfl, ?_⟩
  refine List.forall_mem_cons.mpr ⟨sAt_of hP rfl rfl, ?_⟩
  refine List.forall_mem_cons.mpr ⟨sAt_of hP rfl rfl, ?_⟩
  refine List.forall_mem_cons.mpr ⟨sAt_of hP rfl rfl, ?_⟩
  exact fun _ h => absurd h List.not_mem_nil
theorem start_6 (hy : gy G0 = yy) (hP : va_P D vwCl (stFW W G0 q a q2 a2 q3) H) : ∀ x ∈ ([(306, 149), (307, 150), (308, 151), (313, 152), (315, 153), (316, 154), (319, 155), (320, 156), (322, 157), (323, 158), (324, 159), (325, 160), (328, 161), (329, 162), (330, 163), (332, 164), (333, 165), (334, 166), (335, 167), (336, 168), (338, 169), (339, 170), (340, 171)] : List (Nat × Nat)), sAt W D yy Hp aK aV A q a q2 a2 q3 G0 H x := by
  subst hy
  refine List.forall_mem_cons.mpr ⟨sAt_of hP rfl rfl, ?_⟩
  refine List.forall_mem_cons.mpr ⟨sAt_of hP rfl rfl, ?_⟩
  refine List.forall_mem_cons.mpr ⟨sAt_of hP rfl rfl, ?_⟩
  refine List.forall_mem_cons.mpr ⟨sAt_of hP rfl rfl, ?_⟩
  refine List.forall_mem_cons.mpr ⟨sAt_of hP rfl rfl, ?_⟩
  refine List.forall_mem_cons.mpr ⟨sAt_of hP rfl rfl, ?_⟩
  refine List.forall_mem_cons.mpr ⟨sAt_of hP rfl rfl, ?_⟩
  refine List.forall_mem_cons.mpr ⟨sAt_of hP rfl rfl, ?_⟩
  refine List.forall_mem_cons.mpr ⟨sAt_of hP rfl rfl, ?_⟩
  refine List.forall_mem_cons.mpr ⟨sAt_of hP rfl rfl, ?_⟩
  refine List.forall_mem_cons.mpr ⟨sAt_of hP rfl rfl, ?_⟩
  refine List.forall_mem_cons.mpr ⟨sAt_of hP rfl rfl, ?_⟩
  refine List.forall_mem_cons.mpr ⟨sAt_of hP rfl rfl, ?_⟩
  refine List.forall_mem_cons.mpr ⟨sAt_of hP rfl rfl, ?_⟩
  refine List.forall_mem_cons.mpr ⟨sAt_of hP rfl rfl, ?_⟩
  refine List.forall_mem_cons.mpr ⟨sAt_of hP rfl rfl, ?_⟩
  refine List.forall_mem_cons.mpr ⟨sAt_of hP rfl rfl, ?_⟩
  refine List.forall_mem_cons.mpr ⟨sAt_of hP rfl rfl, ?_⟩
  refine List.forall_mem_cons.mpr ⟨sAt_of hP rfl rfl, ?_⟩
  refine List.forall_mem_cons.mpr ⟨sAt_of hP rfl rfl, ?_⟩
  refine List.forall_mem_cons.mpr ⟨sAt_of hP rfl rfl, ?_⟩
  refine List.forall_mem_cons.mpr ⟨sAt_of hP rfl rfl, ?_⟩
  refine List.forall_mem_cons.mpr ⟨sAt_of hP rfl rfl, ?_⟩
  exact fun _ h => absurd h List.not_mem_nil
theorem start_all (hy : gy G0 = yy) (hP : va_P D vwCl (stFW W G0 q a q2 a2 q3) H) : ∀ x ∈ piL, sAt W D yy Hp aK aV A q a q2 a2 q3 G0 H x := by
  have e : piL = [(0, 0), (1, 1), (2, 2), (3, 3), (4, 4), (5, 17), (6, 18), (7, 19), (8, 20), (9, 129), (10, 130), (11, 131), (12, 132), (13, 133), (14, 134), (15, 135), (16, 136), (17, 137), (18, 138), (19, 139), (20, 140), (21, 141), (22, 142), (23, 143), (24, 144)] ++ ([(25, 145), (26, 172), (32, 5), (33, 6), (34, 7), (35, 8), (36, 9), (37, 10), (40, 11), (41, 12), (42, 13), (43, 14), (44, 15), (45, 16), (48, 21), (49, 22), (50, 23), (51, 24), (52, 25), (53, 26), (56, 27), (57, 28), (58, 29), (59, 30), (60, 31)] ++ ([(61, 32), (64, 33), (65, 34), (66, 35), (67, 36), (68, 37), (69, 38), (72, 39), (73, 40), (74, 41), (75, 42), (76, 43), (77, 44), (80, 45), (81, 46), (82, 47), (83, 48), (84, 49), (85, 50), (88, 51), (89, 52), (90, 53), (91, 54), (92, 55), (93, 56)] ++ ([(96, 57), (97, 58), (98, 59), (99, 60), (100, 61), (101, 62), (104, 63), (105, 64), (106, 65), (107, 66), (108, 67), (109, 68), (112, 69), (113, 70), (114, 71), (115, 72), (116, 73), (117, 74), (120, 75), (121, 76), (122, 77), (123, 78), (124, 79), (125, 80), (128, 81)] ++ ([(129, 82), (130, 83), (131, 84), (132, 85), (133, 86), (136, 87), (137, 88), (138, 89), (139, 90), (140, 91), (141, 92), (144, 93), (145, 94), (146, 95), (147, 96), (148, 97), (149, 98), (152, 99), (153, 100), (154, 101), (155, 102), (156, 103), (157, 104), (160, 105), (161, 106)] ++ ([(162, 107), (163, 108), (164, 109), (165, 110), (168, 111), (169, 112), (170, 113), (171, 114), (172, 115), (173, 116), (176, 117), (177, 118), (178, 119), (179, 120), (180, 121), (181, 122), (184, 123), (185, 124), (186, 125), (187, 126), (188, 127), (189, 128), (300, 146), (302, 147), (305, 148)] ++ ([(306, 149), (307, 150), (308, 151), (313, 152), (315, 153), (316, 154), (319, 155), (320, 156), (322, 157), (323, 158), (324, 159), (325, 160), (328, 161), (329, 162), (330, 163), (332, 164), (333, 165), (334, 166), (335, 167), (336, 168), (338, 169), (339, 170), (340, 171)])))))) := by decide +kernel
  rw [e]
  exact List.forall_mem_append.mpr ⟨start_0 hy hP, List.forall_mem_append.mpr ⟨start_1 hy hP, List.forall_mem_append.mpr ⟨start_2 hy hP, List.forall_mem_append.mpr ⟨start_3 hy hP, List.forall_mem_append.mpr ⟨start_4 hy hP, List.forall_mem_append.mpr ⟨start_5 hy hP, start_6 hy hP⟩⟩⟩⟩⟩⟩
theorem start_P (hy : gy G0 = yy) (hP : va_P D vwCl (stWS G0 q a q2 a2 q3) H) (hD : va_D A (stWS G0 q a q2 a2 q3)) :
    va_P D vwCl (gW (sG D yy Hp aK aV A q a q2 a2 q3) (mF χ0 σ0) (mA χ0 σ0) (mL χ0 σ0) (cW χ0)) H ∧ va_D A (gW (sG D yy Hp aK aV A q a q2 a2 q3) (mF χ0 σ0) (mA χ0 σ0) (mL χ0 σ0) (cW χ0)) := by
  rw [st_flat] at hP hD
  have h := start_all (W := lawS) (aK := aK) (aV := aV) (A := A) (Hp := Hp) hy hP
  have hw : ∀ (k : Nat) (x : Nat × va_E), (gW (sG D yy Hp aK aV A q a q2 a2 q3) (mF χ0 σ0) (mA χ0 σ0) (mL χ0 σ0) (cW χ0))[k]? = some x → ∃ z : Nat × Nat, piL[k]? = some z ∧ x = (adF q a q2 a2 q3 z.1, eE (sG D yy Hp aK aV A q a q2 a2 q3) (mF χ0 σ0) (mA χ0 σ0) (mL χ0 σ0) (16, 21) z.1) := by
    intro k x hx
    unfold gW at hx
    rw [show gP (sG D yy Hp aK aV A q a q2 a2 q3) = piL.map Prod.fst from piL_ok.symm, List.map_map, List.getElem?_map] at hx
    cases hz : piL[k]? with
    | none => rw [hz] at hx; cases hx
    | some z =>
      rw [hz] at hx
      exact ⟨z, rfl, (Option.some.inj hx).symm⟩
  refine ⟨fun k x hx => ?_, fun i j x y hx hy2 hxy => ?_, fun k x hx => ?_⟩
  · obtain ⟨z, hz, rfl⟩ := hw k x hx
    exact (h z (List.mem_of_getElem? hz)).2
  · obtain ⟨z, hz, rfl⟩ := hw i x hx
    obtain ⟨v, hv, rfl⟩ := hw j y hy2
    obtain ⟨⟨e1, he1⟩, -⟩ := h z (List.mem_of_getElem? hz)
    obtain ⟨⟨e2, he2⟩, -⟩ := h v (List.mem_of_getElem? hv)
    have h3 := hD.1 _ _ _ _ he1 he2 hxy
    have hi : i < (piL.map Prod.snd).length := by rw [List.length_map]; exact (List.getElem?_eq_some_iff.mp hz).1
    refine (List.getElem?_inj hi piL_nd).mp ?_
    rw [List.getElem?_map, List.getElem?_map, hz, hv]
    show some z.2 = some v.2
    rw [h3]
  · obtain ⟨z, hz, rfl⟩ := hw k x hx
    obtain ⟨⟨e1, he1⟩, -⟩ := h z (List.mem_of_getElem? hz)
    have h5 := hD.2 _ _ he1
    exact h5
end START
