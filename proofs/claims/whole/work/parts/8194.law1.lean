/-- where an object, an array lies in the world that is made -/
def cposL (id : Nat × Nat × Nat) : Nat := match id with
  | (0, 0, 0) => 54
  | (0, 0, 1) => 55
  | (0, 0, 2) => 56
  | (0, 0, 3) => 57
  | (0, 0, 4) => 58
  | (0, 0, 5) => 59
  | (1, 0, 0) => 23
  | (1, 0, 1) => 24
  | (1, 0, 2) => 25
  | (1, 0, 3) => 26
  | (1, 0, 4) => 27
  | (1, 0, 5) => 28
  | (1, 1, 0) => 29
  | (1, 1, 1) => 30
  | (1, 1, 2) => 31
  | (1, 1, 3) => 32
  | (1, 1, 4) => 33
  | (1, 1, 5) => 34
  | (1, 2, 0) => 77
  | (1, 2, 1) => 78
  | (1, 2, 2) => 79
  | (1, 2, 3) => 80
  | (1, 2, 4) => 81
  | (1, 2, 5) => 82
  | (1, 3, 0) => 91
  | (1, 3, 1) => 92
  | (1, 3, 2) => 93
  | (1, 3, 3) => 94
  | (1, 3, 4) => 95
  | (1, 3, 5) => 96
  | (1, 4, 0) => 105
  | (1, 4, 1) => 106
  | (1, 4, 2) => 107
  | (1, 4, 3) => 108
  | (1, 4, 4) => 109
  | (1, 4, 5) => 110
  | (2, 0, 0) => 5
  | (2, 0, 1) => 6
  | (3, 0, 0) => 48
  | (3, 0, 1) => 49
  | (3, 0, 2) => 50
  | (3, 0, 3) => 51
  | (3, 0, 4) => 52
  | (3, 0, 5) => 53
  | (4, 0, 0) => 60
  | (5, 0, 0) => 37
  | (5, 0, 1) => 38
  | (5, 1, 0) => 39
  | (5, 1, 1) => 40
  | (6, 0, 0) => 41
  | (6, 0, 1) => 42
  | (6, 0, 2) => 43
  | (6, 0, 3) => 44
  | (6, 0, 4) => 45
  | (6, 0, 5) => 46
  | (6, 0, 6) => 47
  | (7, 0, 0) => 7
  | (7, 0, 1) => 8
  | (7, 0, 2) => 9
  | (7, 0, 3) => 10
  | (7, 0, 4) => 11
  | (7, 0, 5) => 12
  | (7, 0, 6) => 13
  | (7, 0, 7) => 14
  | (7, 1, 0) => 15
  | (7, 1, 1) => 16
  | (7, 1, 2) => 17
  | (7, 1, 3) => 18
  | (7, 1, 4) => 19
  | (7, 1, 5) => 20
  | (7, 1, 6) => 21
  | (7, 1, 7) => 22
  | (7, 2, 0) => 69
  | (7, 2, 1) => 70
  | (7, 2, 2) => 71
  | (7, 2, 3) => 72
  | (7, 2, 4) => 73
  | (7, 2, 5) => 74
  | (7, 2, 6) => 75
  | (7, 2, 7) => 76
  | (7, 3, 0) => 83
  | (7, 3, 1) => 84
  | (7, 3, 2) => 85
  | (7, 3, 3) => 86
  | (7, 3, 4) => 87
  | (7, 3, 5) => 88
  | (7, 3, 6) => 89
  | (7, 3, 7) => 90
  | (7, 4, 0) => 97
  | (7, 4, 1) => 98
  | (7, 4, 2) => 99
  | (7, 4, 3) => 100
  | (7, 4, 4) => 101
  | (7, 4, 5) => 102
  | (7, 4, 6) => 103
  | (7, 4, 7) => 104
  | (8, 0, 0) => 4
  | (9, 0, 0) => 2
  | (9, 0, 1) => 3
  | (10, 0, 0) => 61
  | (10, 0, 1) => 62
  | (10, 1, 0) => 63
  | (10, 1, 1) => 64
  | (10, 2, 0) => 65
  | (10, 2, 1) => 66
  | (10, 3, 0) => 67
  | (10, 3, 1) => 68
  | (11, 0, 0) => 0
  | (11, 0, 1) => 1
  | (11, 0, 9) => 35
  | (11, 0, 10) => 36
  | (12, 0, 0) => 111
  | (12, 0, 5) => 112
  | (12, 0, 6) => 113
  | (12, 0, 7) => 114
  | (12, 0, 8) => 115
  | (12, 0, 21) => 116
  | (12, 0, 22) => 117
  | (12, 0, 23) => 118
  | (12, 0, 27) => 119
  | (12, 0, 28) => 120
  | (12, 0, 29) => 121
  | (12, 0, 30) => 122
  | (12, 0, 32) => 123
  | (12, 0, 33) => 124
  | (12, 0, 34) => 125
  | (12, 0, 35) => 126
  | (12, 0, 36) => 127
  | (12, 0, 38) => 128
  | (12, 0, 39) => 129
  | (12, 0, 40) => 130
  | _ => 0
/-- the small heap with which the law's loop begins -/
def hv (c _i j k : Nat) : Int := match c with
  | 4 => if j = 1 ∧ k = 0 then 1 else 0
  | 6 => if j = 6 ∧ k = 0 then -1 else 0
  | 7 => if j = 9 ∧ k = 0 then 8 else if j = 10 ∧ k = 0 then 5 else 0
  | 10 => if j = 1 ∧ k = 0 then -1 else 0
  | 11 => if (j = 18 ∨ j = 19) ∧ k = 0 then -1 else 0
  | 12 => if j = 3 ∧ k = 0 then 1 else if (j = 10 ∨ j = 11) ∧ k = 0 then -1 else if j = 5 ∧ k < 4 then -1 else if j = 20 ∧ k = 2 then 8 else if j = 20 ∧ k = 3 then 5 else 0
  | _ => 0
def h0 (L : Nat) (xs : Nat → Int32) : qH := fun c i j k => if c = 90 then (if j = 0 ∧ k < 19 then qWORDS k else 0) else if c = 91 then (if j = 0 then (if k < L then (xs k).toInt else 0) else if j = 1 ∧ k = 0 then (L : Int) else 0) else hv c i j k
def ceq (v w : List cE) : Bool := match v, w with
  | [], [] => true
  | .inr (c, fs) :: r, .inr (c', fs') :: r' => Nat.beq c c' && decide (fs = fs') && ceq r r'
  | .inl (t, n, rs, log) :: r, .inl (t', n', rs', log') :: r' => Nat.beq t t' && Nat.beq n n' && decide (rs = rs') && decide (log = log') && ceq r r'
  | _, _ => false
theorem ceq_ok : ∀ {v w : List cE}, ceq v w = true → v = w := by
  intro v
  induction v with
  | nil =>
    intro w h
    cases w with
    | nil => rfl
    | cons a r => cases h
  | cons a r ih =>
    intro w h
    match a, w, h with
    | .inr (c, fs), .inr (c', fs') :: r', h =>
      have h : (Nat.beq c c' && decide (fs = fs') && ceq r r') = true := h
      simp only [Bool.and_eq_true, decide_eq_true_eq] at h
      have h1 := Nat.eq_of_beq_eq_true h.1.1
      have h2 := h.1.2
      rw [ih h.2, h1, h2]
    | .inl (t, n, rs, log), .inl (t', n', rs', log') :: r', h =>
      have h : (Nat.beq t t' && Nat.beq n n' && decide (rs = rs') && decide (log = log') && ceq r r') = true := h
      simp only [Bool.and_eq_true, decide_eq_true_eq] at h
      have h1 := Nat.eq_of_beq_eq_true h.1.1.1.1
      have h2 := Nat.eq_of_beq_eq_true h.1.1.1.2
      rw [ih h.2, h1, h2, h.1.1.2, h.1.2]
    | .inr _, [], h => cases h
    | .inl _, [], h => cases h
    | .inr _, .inl _ :: _, h => cases h
    | .inl _, .inr _ :: _, h => cases h
def cres : Option (cS ⊕ List cE) := cgo (crun 4) (cpg 14) 18 100 (0, [cn, cn, cn, cn], [], [])
def cw4 : List cE := match cres with
  | some (.inl s) => s.2.2.2
  | _ => []
def cresok : Bool := match cres with
  | some (.inl s) => Nat.beq s.1 18 && decide (s.2.1 = [cn, cr 0, cr 111, ci 0]) && decide (s.2.2.1 = [])
  | _ => false
theorem cresok_t : cresok = true := by decide +kernel
theorem cres_is : cres = some (.inl (18, [cn, cr 0, cr 111, ci 0], [], cw4)) := by
  have h := cresok_t
  unfold cresok at h
  unfold cw4
  generalize cres = r at h ⊢
  match r, h with
  | none, h => cases h
  | some (.inr _), h => cases h
  | some (.inl (pc, ls, st, w)), h =>
    simp only [Bool.and_eq_true, decide_eq_true_eq] at h
    obtain ⟨⟨h1, h2⟩, h3⟩ := h
    have h1 : pc = 18 := Nat.eq_of_beq_eq_true h1
    have h2 : ls = _ := h2
    have h3 : st = [] := h3
    subst h1; subst h2; subst h3
    rfl
def cw4L : List cE := [Sum.inr (11, [cr 1, cr 2, cr 4, cr 5, cr 7, cr 15, cr 23, cr 29, cr 35, cr 36, cr 37, cr 39, cr 41, cr 48, cr 54, cr 60, ci (0), ci (0), ci (-1), ci (-1)]), Sum.inl (3, 4, [some 61, some 63, some 65, some 67], []), Sum.inr (9, [cr 3, ci (0), ci (0), ci (0), ci (0), ci (0), ci (0), ci (0), ci (0), ci (0), cl (0), ci (0), ci (0), ci (0)]), Sum.inl (2, 900, [], []), Sum.inr (8, [ci (0), ci (0)]), Sum.inr (2, [cr 6, ci (0)]), Sum.inl (0, 3, [], []), Sum.inr (7, [cr 8, cr 9, cr 10, cr 11, cr 12, cr 13, cr 14, ci (0), ci (0), ci (8), ci (5), ci (0), ci (0), ci (0)]), Sum.inl (1, 7, [], []), Sum.inl (0, 7, [], []), Sum.inl (0, 7, [], []), Sum.inl (0, 49, [], []), Sum.inl (0, 10, [], []), Sum.inl (0, 10, [], []), Sum.inl (0, 10, [], []), Sum.inr (7, [cr 16, cr 17, cr 18, cr 19, cr 20, cr 21, cr 22, ci (0), ci (0), ci (8), ci (5), ci (0), ci (0), ci (0)]), Sum.inl (1, 7, [], []), Sum.inl (0, 7, [], []), Sum.inl (0, 7, [], []), Sum.inl (0, 49, [], []), Sum.inl (0, 10, [], []), Sum.inl (0, 10, [], []), Sum.inl (0, 10, [], []), Sum.inr (1, [cr 24, cr 25, cr 26, cr 27, cr 28, ci (0), ci (0), ci (0)]), Sum.inl (0, 60, [], []), Sum.inl (0, 60, [], []), Sum.inl (0, 60, [], []), Sum.inl (0, 60, [], []), Sum.inl (0, 60, [], []), Sum.inr (1, [cr 30, cr 31, cr 32, cr 33, cr 34, ci (0), ci (0), ci (0)]), Sum.inl (0, 60, [], []), Sum.inl (0, 60, [], []), Sum.inl (0, 60, [], []), Sum.inl (0, 60, [], []), Sum.inl (0, 60, [], []), Sum.inl (4, 3, [some 69, some 83, some 97], []), Sum.inl (5, 3, [some 77, some 91, some 105], []), Sum.inr (5, [cr 38, ci (0), ci (0), ci (0), ci (0), ci (0), ci (0), ci (0), ci (0)]), Sum.inl (0, 60, [], []), Sum.inr (5, [cr 40, ci (0), ci (0), ci (0), ci (0), ci (0), ci (0), ci (0), ci (0)]), Sum.inl (0, 60, [], []), Sum.inr (6, [cr 42, cr 43, cr 44, cr 45, cr 46, cr 47, ci (-1), ci (0), ci (0)]), Sum.inl (2, 5040, [], []), Sum.inl (0, 5040, [], []), Sum.inl (0, 10, [], []), Sum.inl (0, 10, [], []), Sum.inl (0, 7, [], []), Sum.inl (0, 24, [], []), Sum.inr (3, [cr 49, cr 50, cr 51, cr 52, cr 53, ci (0), ci (0), ci (0), ci (0)]), Sum.inl (0, 7, [], []), Sum.inl (0, 49, [], []), Sum.inl (0, 49, [], []), Sum.inl (0, 5, [], []), Sum.inl (0, 5, [], []), Sum.inr (0, [cr 55, cr 56, cr 57, cr 58, cr 59]), Sum.inl (0, 7, [], []), Sum.inl (0, 7, [], []), Sum.inl (0, 128, [], []), Sum.inl (0, 7, [], []), Sum.inl (0, 7, [], []), Sum.inr (4, [cl (0), cl (1)]), Sum.inr (10, [cr 62, ci (-1), ci (0)]), Sum.inl (1, 60, [], []), Sum.inr (10, [cr 64, ci (-1), ci (0)]), Sum.inl (1, 60, [], []), Sum.inr (10, [cr 66, ci (-1), ci (0)]), Sum.inl (1, 60, [], []), Sum.inr (10, [cr 68, ci (-1), ci (0)]), Sum.inl (1, 60, [], []), Sum.inr (7, [cr 70, cr 71, cr 72, cr 73, cr 74, cr 75, cr 76, ci (0), ci (0), ci (8), ci (5), ci (0), ci (0), ci (0)]), Sum.inl (1, 7, [], []), Sum.inl (0, 7, [], []), Sum.inl (0, 7, [], []), Sum.inl (0, 49, [], []), Sum.inl (0, 10, [], []), Sum.inl (0, 10, [], []), Sum.inl (0, 10, [], []), Sum.inr (1, [cr 78, cr 79, cr 80, cr 81, cr 82, ci (0), ci (0), ci (0)]), Sum.inl (0, 60, [], []), Sum.inl (0, 60, [], []), Sum.inl (0, 60, [], []), Sum.inl (0, 60, [], []), Sum.inl (0, 60, [], []), Sum.inr (7, [cr 84, cr 85, cr 86, cr 87, cr 88, cr 89, cr 90, ci (0), ci (0), ci (8), ci (5), ci (0), ci (0), ci (0)]), Sum.inl (1, 7, [], []), Sum.inl (0, 7, [], []), Sum.inl (0, 7, [], []), Sum.inl (0, 49, [], []), Sum.inl (0, 10, [], []), Sum.inl (0, 10, [], []), Sum.inl (0, 10, [], []), Sum.inr (1, [cr 92, cr 93, cr 94, cr 95, cr 96, ci (0), ci (0), ci (0)]), Sum.inl (0, 60, [], []), Sum.inl (0, 60, [], []), Sum.inl (0, 60, [], []), Sum.inl (0, 60, [], []), Sum.inl (0, 60, [], []), Sum.inr (7, [cr 98, cr 99, cr 100, cr 101, cr 102, cr 103, cr 104, ci (0), ci (0), ci (8), ci (5), ci (0), ci (0), ci (0)]), Sum.inl (1, 7, [], []), Sum.inl (0, 7, [], []), Sum.inl (0, 7, [], []), Sum.inl (0, 49, [], []), Sum.inl (0, 10, [], []), Sum.inl (0, 10, [], []), Sum.inl (0, 10, [], []), Sum.inr (1, [cr 106, cr 107, cr 108, cr 109, cr 110, ci (0), ci (0), ci (0)]), Sum.inl (0, 60, [], []), Sum.inl (0, 60, [], []), Sum.inl (0, 60, [], []), Sum.inl (0, 60, [], []), Sum.inl (0, 60, [], []), Sum.inr (12, [ci (0), ci (0), cl (0), cl (1), cr 112, cr 113, cr 114, cr 115, ci (0), ci (0), ci (-1), ci (-1), ci (0), ci (0), ci (0), ci (0), ci (0), ci (0), ci (0), cl (0), cr 116, cr 117, cr 118, ci (0), ci (0), ci (0), cr 119, cr 120, cr 121, cr 122, ci (0), cr 123, cr 124, cr 125, cr 126, cr 127, ci (0), cr 128, cr 129, cr 130, ci (0), ci (0), ci (0), ci (0), ci (0), ci (0), ci (0), ci (0), ci (0)]), Sum.inl (0, 4, [], []), Sum.inl (0, 4, [], [(3, -1), (2, -1), (1, -1), (0, -1)]), Sum.inl (1, 240, [], []), Sum.inl (2, 900, [], []), Sum.inl (0, 1860, [], [(3, 5), (2, 8), (371, 0), (370, 0), (369, 0), (368, 0), (367, 0), (366, 0), (365, 0), (364, 0), (363, 0), (362, 0), (361, 0), (360, 0), (359, 0), (358, 0), (357, 0), (356, 0), (355, 0), (354, 0), (353, 0), (352, 0), (351, 0), (350, 0), (349, 0), (348, 0), (347, 0), (346, 0), (345, 0), (344, 0), (343, 0), (342, 0), (341, 0), (340, 0), (339, 0), (338, 0), (337, 0), (336, 0), (335, 0), (334, 0), (333, 0), (332, 0), (331, 0), (330, 0), (329, 0), (328, 0), (327, 0), (326, 0), (325, 0), (324, 0), (323, 0), (322, 0), (321, 0), (320, 0), (319, 0), (318, 0), (317, 0), (316, 0), (315, 0), (314, 0), (313, 0), (312, 0), (311, 0), (310, 0), (309, 0), (308, 0), (307, 0), (306, 0), (305, 0), (304, 0), (303, 0), (302, 0), (301, 0), (300, 0), (299, 0), (298, 0), (297, 0), (296, 0), (295, 0), (294, 0), (293, 0), (292, 0), (291, 0), (290, 0), (289, 0), (288, 0), (287, 0), (286, 0), (285, 0), (284, 0), (283, 0), (282, 0), (281, 0), (280, 0), (279, 0), (278, 0), (277, 0), (276, 0), (275, 0), (274, 0), (273, 0), (272, 0), (271, 0), (270, 0), (269, 0), (268, 0), (267, 0), (266, 0), (265, 0), (264, 0), (263, 0), (262, 0), (261, 0), (260, 0), (259, 0), (258, 0), (257, 0), (256, 0), (255, 0), (254, 0), (253, 0), (252, 0), (251, 0), (250, 0), (249, 0), (248, 0), (247, 0), (246, 0), (245, 0), (244, 0), (243, 0), (242, 0), (241, 0), (240, 0), (239, 0), (238, 0), (237, 0), (236, 0), (235, 0), (234, 0), (233, 0), (232, 0), (231, 0), (230, 0), (229, 0), (228, 0), (227, 0), (226, 0), (225, 0), (224, 0), (223, 0), (222, 0), (221, 0), (220, 0), (219, 0), (218, 0), (217, 0), (216, 0), (215, 0), (214, 0), (213, 0), (212, 0), (211, 0), (210, 0), (209, 0), (208, 0), (207, 0), (206, 0), (205, 0), (204, 0), (203, 0), (202, 0), (201, 0), (200, 0), (199, 0), (198, 0), (197, 0), (196, 0), (195, 0), (194, 0), (193, 0), (192, 0), (191, 0), (190, 0), (189, 0), (188, 0), (187, 0), (186, 0), (185, 0), (184, 0), (183, 0), (182, 0), (181, 0), (180, 0), (179, 0), (178, 0), (177, 0), (176, 0), (175, 0), (174, 0), (173, 0), (172, 0), (171, 0), (170, 0), (169, 0), (168, 0), (167, 0), (166, 0), (165, 0), (164, 0), (163, 0), (162, 0), (161, 0), (160, 0), (159, 0), (158, 0), (157, 0), (156, 0), (155, 0), (154, 0), (153, 0), (152, 0), (151, 0), (150, 0), (149, 0), (148, 0), (147, 0), (146, 0), (145, 0), (144, 0), (143, 0), (142, 0), (141, 0), (140, 0), (139, 0), (138, 0), (137, 0), (136, 0), (135, 0), (134, 0), (133, 0), (132, 0), (131, 0), (130, 0), (129, 0), (128, 0), (127, 0), (126, 0), (125, 0), (124, 0), (123, 0), (122, 0), (121, 0), (120, 0), (119, 0), (118, 0), (117, 0), (116, 0), (115, 0), (114, 0), (113, 0), (112, 0), (111, 0), (110, 0), (109, 0), (108, 0), (107, 0), (106, 0), (105, 0), (104, 0), (103, 0), (102, 0), (101, 0), (100, 0), (99, 0), (98, 0), (97, 0), (96, 0), (95, 0), (94, 0), (93, 0), (92, 0), (91, 0), (90, 0), (89, 0), (88, 0), (87, 0), (86, 0), (85, 0), (84, 0), (83, 0), (82, 0), (81, 0), (80, 0), (79, 0), (78, 0), (77, 0), (76, 0), (75, 0), (74, 0), (73, 0), (72, 0), (71, 0), (70, 0), (69, 0), (68, 0), (67, 0), (66, 0), (65, 0), (64, 0), (63, 0), (62, 0), (61, 0), (60, 0), (59, 0), (58, 0), (57, 0), (56, 0), (55, 0), (54, 0), (53, 0), (52, 0), (51, 0), (50, 0), (49, 0), (48, 0), (47, 0), (46, 0), (45, 0), (44, 0), (43, 0), (42, 0), (41, 0), (40, 0), (39, 0), (38, 0), (37, 0), (36, 0), (35, 0), (34, 0), (33, 0), (32, 0), (31, 0), (30, 0), (29, 0), (28, 0), (27, 0), (26, 0), (25, 0), (24, 0), (23, 0), (22, 0), (21, 0), (20, 0), (19, 0), (18, 0), (17, 0), (16, 0), (15, 0), (14, 0), (13, 0), (12, 0), (11, 0), (10, 0), (9, 0), (8, 0), (7, 0), (6, 0), (5, 0), (4, 0), (3, 0), (2, 0), (1, 0), (0, 0)]), Sum.inl (0, 100, [], []), Sum.inl (1, 35, [], []), Sum.inl (0, 5040, [], []), Sum.inl (0, 5040, [], []), Sum.inl (0, 7, [], []), Sum.inl (0, 7, [], []), Sum.inl (0, 5, [], []), Sum.inl (0, 5, [], []), Sum.inl (0, 49, [], []), Sum.inl (0, 7, [], []), Sum.inl (0, 7, [], []), Sum.inl (1, 7, [], []), Sum.inl (1, 7, [], []), Sum.inl (0, 5, [], [])]
theorem cw4_is : cw4 = cw4L := ceq_ok (by decide +kernel)
theorem cw4_room : cw4.length ≤ 600000 ∧ cslots cw4 ≤ 7302250 := by
  rw [cw4_is]
  have h : (Nat.ble cw4L.length 600000 && Nat.ble (cslots cw4L) 7302250) = true := by decide +kernel
  simp only [Bool.and_eq_true, Nat.ble_eq] at h
  exact h
/-- the numbers of an array at the start that aren't 0 -/
def hl (c j : Nat) : List (Nat × Int) := match c, j with
  | 12, 5 => [(0, -1), (1, -1), (2, -1), (3, -1)]
  | 12, 20 => [(2, 8), (3, 5)]
  | _, _ => []
theorem clog_0 {log : List (Nat × Int)} {k : Nat} (h : ∀ q ∈ log, q.1 = k → q.2 = 0) : clog log k = 0 := by
  induction log with
  | nil => rfl
  | cons q r ih =>
    obtain ⟨a, x⟩ := q
    show (bif Nat.beq a k then x else clog r k) = 0
    cases hb : Nat.beq a k with
    | true => exact h (a, x) List.mem_cons_self (Nat.eq_of_beq_eq_true hb)
    | false => exact ih (fun q hq => h q (List.mem_cons_of_mem _ hq))
theorem hv_sc : ((List.range 13).all fun c => (List.range 60).all fun j => !(Nat.beq (qfk c j) 2) || (!(Nat.beq c 4 && Nat.beq j 1) && !(Nat.beq c 6 && Nat.beq j 6) && !(Nat.beq c 7 && (Nat.beq j 9 || Nat.beq j 10)) && !(Nat.beq c 10 && Nat.beq j 1) && !(Nat.beq c 11 && (Nat.beq j 18 || Nat.beq j 19)) && !(Nat.beq c 12 && (Nat.beq j 3 || Nat.beq j 10 || Nat.beq j 11)))) = true := by decide +kernel
theorem hv_arr {c i j k : Nat} (hc : c < 13) (hj : j < 60) (hk : qfk c j = 2) : hv c i j k = clog (hl c j) k := by
  have h1 := List.all_eq_true.mp (List.all_eq_true.mp hv_sc c (List.mem_range.mpr hc)) j (List.mem_range.mpr hj)
  rw [hk] at h1
  simp only [Nat.beq_eq_true_eq, Bool.or_eq_true, Bool.and_eq_true, Bool.not_eq_true', Bool.not_true, Bool.false_eq_true, false_or, Bool.and_eq_false_iff, Bool.or_eq_false_iff, show Nat.beq 2 2 = true from rfl] at h1
  have nb : ∀ a b : Nat, Nat.beq a b = false ↔ a ≠ b := fun a b => by
    cases hb : Nat.beq a b with
    | true => exact ⟨fun h => (by cases h), fun h => absurd (Nat.eq_of_beq_eq_true hb) h⟩
    | false => exact ⟨fun _ e => (by rw [e, Nat.beq_refl] at hb; cases hb), fun _ => rfl⟩
  simp only [nb] at h1
  obtain ⟨⟨⟨⟨⟨q4, q6⟩, q7⟩, q10⟩, q11⟩, q12⟩ := h1
  unfold hv
  split
  · rw [if_neg (by omega)]; rfl
  · rw [if_neg (by omega)]; rfl
  · rw [if_neg (by omega), if_neg (by omega)]; rfl
  · rw [if_neg (by omega)]; rfl
  · rw [if_neg (by omega)]; rfl
  · rw [if_neg (by omega), if_neg (by omega)]
    by_cases h5 : j = 5
    · subst h5
      by_cases hk4 : k < 4
      · rw [if_pos ⟨rfl, hk4⟩]
        match k, hk4 with
        | 0, _ => rfl
        | 1, _ => rfl
        | 2, _ => rfl
        | 3, _ => rfl
      · rw [if_neg (by omega), if_neg (by omega), if_neg (by omega)]
        refine (clog_0 (fun q hq e => ?_)).symm
        have hq : q ∈ [((0 : Nat), (-1 : Int)), (1, -1), (2, -1), (3, -1)] := hq
        simp only [List.mem_cons, List.not_mem_nil, or_false] at hq
        rcases hq with rfl | rfl | rfl | rfl <;> (dsimp only at e; omega)
    · rw [if_neg (by omega)]
      by_cases h20 : j = 20
      · subst h20
        by_cases k2 : k = 2
        · subst k2; rfl
        · by_cases k3 : k = 3
          · subst k3; rfl
          · rw [if_neg (by omega), if_neg (by omega)]
            refine (clog_0 (fun q hq e => ?_)).symm
            have hq : q ∈ [((2 : Nat), (8 : Int)), (3, 5)] := hq
            simp only [List.mem_cons, List.not_mem_nil, or_false] at hq
            rcases hq with rfl | rfl <;> (dsimp only at e; omega)
      · rw [if_neg (by omega), if_neg (by omega)]
        have : hl 12 j = [] := by
          unfold hl
          split
          · rename_i h; exact absurd rfl h5
          · rename_i h; exact absurd rfl h20
          · rfl
        rw [this]
        rfl
  · rename_i h1 h2 h3 h4 h5 h6
    have : hl c j = [] := by
      unfold hl
      split
      · exact absurd rfl (h6)
      · exact absurd rfl (h6)
      · rfl
    rw [this]
    rfl
/-- two logs say the same -/
def clsame (log sp : List (Nat × Int)) : Bool := sp.all (fun q => decide (clog log q.1 = clog sp q.1)) && log.all (fun q => decide (q.2 = 0) || sp.any (fun r => Nat.beq r.1 q.1))
theorem clsame_ok {log sp : List (Nat × Int)} (h : clsame log sp = true) (k : Nat) : clog log k = clog sp k := by
  unfold clsame at h
  rw [Bool.and_eq_true] at h
  by_cases hk : ∃ q ∈ sp, q.1 = k
  · obtain ⟨q, hq, rfl⟩ := hk
    exact of_decide_eq_true (List.all_eq_true.mp h.1 q hq)
  · have hs : clog sp k = 0 := clog_0 (fun q hq e => absurd ⟨q, hq, e⟩ hk)
    rw [hs]
    refine clog_0 (fun q hq e => ?_)
    have h2 := List.all_eq_true.mp h.2 q hq
    rw [Bool.or_eq_true] at h2
    rcases h2 with h2 | h2
    · exact of_decide_eq_true h2
    · obtain ⟨r, hr, h3⟩ := List.any_eq_true.mp h2
      exact absurd ⟨r, hr, (Nat.eq_of_beq_eq_true h3).trans e⟩ hk
/-- the cell of an id in the made world is as the small heap says -/
def cchk (id : Nat × Nat × Nat) : Bool := match id.2.2, cw4L[cposL id]? with
  | 0, some (.inr (c, fs)) => Nat.beq c id.1 && Nat.beq fs.length (qnf id.1) && (List.range (qnf id.1)).all (fun j => match qfk id.1 j, fs[j]? with
    | 1, some (.inr (.inl x)) => decide (x = hv id.1 id.2.1 j 0)
    | 2, some (.inr (.inr (some k))) => Nat.beq k (cposL (id.1, id.2.1, j + 1))
    | 3, some (.inr (.inr (some k))) => Nat.beq k (cposL ((qfo id.1 j).1, (qfo id.1 j).2, 0))
    | 0, some (.inl x) => decide (x = hv id.1 id.2.1 j 0)
    | 4, some (.inl x) => decide (x = hv id.1 id.2.1 j 0)
    | _, _ => false)
  | j + 1, some (.inl (t, n, rs, log)) => Nat.beq t (qat id.1 j) && Nat.beq n (qal id.1 j).2.toNat && Nat.blt j 60 && (match (qal id.1 j).1 with
    | 3 => (List.range n).all (fun k => decide (rs[k]? = some (some (cposL ((qra id.1 j).1, (qra id.1 j).2 + k, 0)))))
    | _ => clsame log (hl id.1 j))
  | _, _ => false
theorem cchk_all : qids.all cchk = true := by decide +kernel
theorem cpos_nd : (qids.map cposL).Nodup := by decide +kernel
theorem qids_90 : ∀ id ∈ qids, id.1 < 13 := fun id h => by
  have h1 := qids_ok id h
  by_cases h0 : id.2.2 = 0
  · exact h1.1 h0
  · exact (h1.2 h0).1
def adrL (B aW bs : Nat) : qA := fun id => if id.1 = 90 then aW else if id.1 = 91 then bs else B + cposL id
theorem adrL_in {B aW bs : Nat} {id : Nat × Nat × Nat} (h : id ∈ qids) : adrL B aW bs id = B + cposL id := by
  have := qids_90 id h
  unfold adrL
  rw [if_neg (by omega), if_neg (by omega)]
theorem arrV_congr {cI : ClassId} {N : Nat} {f g : Nat → Value} (h : ∀ j, j < N → f j = g j) : arrV cI N f = arrV cI N g := by
  unfold arrV
  congr 1
  apply Array.ext
  · simp
  · intro i h1 h2
    simp only [Array.size_ofFn] at h1
    simp [h i h1]
theorem h0_small {L : Nat} {xs : Nat → Int32} {c i j k : Nat} (h : c < 13) : h0 L xs c i j k = hv c i j k := by
  unfold h0
  rw [if_neg (by omega), if_neg (by omega)]
/-- the world that is made is the world of the small heap -/
theorem law_P {D : va_G} {dA : Nat → ClassId} {B aW bs L : Nat} {xs : Nat → Int32} {H : Heap} (hP0 : va_P D vwCl (cws B dA cw4) H) : va_P D vwCl (qws (adrL B aW bs) dA (h0 L xs)) H := by
  have hP : va_P D vwCl (cws B dA cw4L) H := by rw [← cw4_is]; exact hP0
  intro n q hq
  unfold qws at hq
  rw [List.getElem?_map] at hq
  cases hid : qids[n]? with
  | none => rw [hid] at hq; cases hq
  | some id =>
    rw [hid] at hq
    have hq : some (adrL B aW bs id, qce (adrL B aW bs) dA (h0 L xs) id) = some q := hq
    injection hq with hq
    subst hq
    have hm : id ∈ qids := List.mem_of_getElem? hid
    have hc := List.all_eq_true.mp cchk_all id hm
    have h13 := qids_90 id hm
    have had := adrL_in (B := B) (aW := aW) (bs := bs) hm
    obtain ⟨c, i, t⟩ := id
    dsimp only at h13
    cases hE : cw4L[cposL (c, i, t)]? with
    | none =>
      unfold cchk at hc
      rw [hE] at hc
      cases t <;> cases hc
    | some E =>
      have hat := hP _ _ (cws_at (b := B) (dA := dA) hE)
      unfold cchk at hc
      rw [hE] at hc
      rw [had]
      cases t with
      | zero =>
        match E, hc, hat with
        | .inl (t, n, rs, log), hc, hat => cases hc
        | .inr (c', fs), hc, hat =>
          dsimp only at hc
          simp only [Bool.and_eq_true] at hc
          obtain ⟨⟨hc1, hc2⟩, hc3⟩ := hc
          have e1 := Nat.eq_of_beq_eq_true hc1
          have e2 := Nat.eq_of_beq_eq_true hc2
          subst e1
          have hf : fs.map (ctr B) = (List.range (qnf c')).map (qfv (adrL B aW bs) (h0 L xs) c' i) := by
            apply List.ext_getElem?
            intro j
            rw [List.getElem?_map, List.getElem?_map]
            by_cases hj : j < qnf c'
            · rw [List.getElem?_range hj]
              have h3 := List.all_eq_true.mp hc3 j (List.mem_range.mpr hj)
              cases hfj : fs[j]? with
              | none => rw [List.getElem?_eq_none_iff] at hfj; omega
              | some v =>
                rw [hfj] at h3
                refine congrArg some ?_
                unfold qfv
                have hall := qids_all _ hm rfl j hj
                dsimp only at hall h3
                match hk : qfk c' j, v, h3 with
                | 1, .inr (.inl x), h3 =>
                  have h3 : x = hv c' i j 0 := of_decide_eq_true h3
                  show Value.long (Int64.ofInt x) = .long (Int64.ofInt (h0 L xs c' i j 0))
                  rw [h3, h0_small h13]
                | 2, .inr (.inr (some k)), h3 =>
                  have h3 : k = _ := Nat.eq_of_beq_eq_true h3
                  show Value.ref (B + k) = .ref (adrL B aW bs (c', i, j + 1))
                  rw [h3, adrL_in (hall.1 hk)]
                | 3, .inr (.inr (some k)), h3 =>
                  have h3 : k = _ := Nat.eq_of_beq_eq_true h3
                  show Value.ref (B + k) = .ref (adrL B aW bs ((qfo c' j).1, (qfo c' j).2, 0))
                  rw [h3, adrL_in (hall.2 hk)]
                | 0, .inl x, h3 =>
                  have h3 : x = hv c' i j 0 := of_decide_eq_true h3
                  show Value.int (Int32.ofInt x) = .int (Int32.ofInt (h0 L xs c' i j 0))
                  rw [h3, h0_small h13]
                | 4, .inl x, h3 =>
                  have h3 : x = hv c' i j 0 := of_decide_eq_true h3
                  show Value.int (Int32.ofInt x) = .int (Int32.ofInt (h0 L xs c' i j 0))
                  rw [h3, h0_small h13]
            · have e3 : fs[j]? = none := List.getElem?_eq_none (by omega)
              have e4 : (List.range (qnf c'))[j]? = none := List.getElem?_eq_none (by simpa using hj)
              rw [e3, e4]
              rfl
          show va_at D vwCl (B + cposL (c', i, 0), Sum.inr (c', (List.range (qnf c')).map (qfv (adrL B aW bs) (h0 L xs) c' i))) H
          rw [← hf]
          exact hat
      | succ j =>
        match E, hc, hat with
        | .inr (c', fs), hc, hat => cases hc
        | .inl (t, n, rs, log), hc, hat =>
          dsimp only at hc
          simp only [Bool.and_eq_true] at hc
          obtain ⟨⟨⟨hc1, hc2⟩, hc60⟩, hc3⟩ := hc
          have e1 := Nat.eq_of_beq_eq_true hc1
          have e2 := Nat.eq_of_beq_eq_true hc2
          have h60 : j < 60 := Nat.blt_eq.mp hc60
          subst e1; subst e2
          have hat : H[B + cposL (c, i, j + 1)]? = some (vp_cell (dA (qat c j)) _) := hat
          show H[B + cposL (c, i, j + 1)]? = some (vp_cell (dA (qat c j)) (qct (adrL B aW bs) (h0 L xs) c i j))
          rw [hat]
          refine congrArg some ?_
          have h4 := (qids_2 hm).2.2.1
          rcases (show (qal c j).1 = 0 ∨ (qal c j).1 = 1 ∨ (qal c j).1 = 2 ∨ (qal c j).1 = 3 by omega) with hk | hk | hk | hk
          · have ht : qat c j = 0 := by unfold qat; rw [hk] <;> rfl
            unfold qct
            rw [ht, hk]
            rw [hk] at hc3
            have h3 : ∀ k, clog log k = hv c i j k := fun k => by rw [hv_arr h13 h60 (qids_2 hm).2.1]; exact clsame_ok hc3 k
            have hcell : vp_cell (dA 0) ((qal c j).2.toNat, .inl (fun k => Int32.ofInt (clog log k))) = vp_cell (dA 0) ((qal c j).2.toNat, .inl (fun k => Int32.ofInt (h0 L xs c i j k))) := by
              rw [vp_cell_i, vp_cell_i]
              refine arrV_congr (fun k hk2 => ?_)
              show Value.int (Int32.ofInt (clog log k)) = .int (Int32.ofInt (h0 L xs c i j k))
              rw [h3, h0_small h13]
            exact hcell
          · have ht : qat c j = 1 := by unfold qat; rw [hk] <;> rfl
            unfold qct
            rw [ht, hk]
            rw [hk] at hc3
            have h3 : ∀ k, clog log k = hv c i j k := fun k => by rw [hv_arr h13 h60 (qids_2 hm).2.1]; exact clsame_ok hc3 k
            have hcell : vp_cell (dA 1) ((qal c j).2.toNat, .inr (.inl (fun k => Int64.ofInt (clog log k)))) = vp_cell (dA 1) ((qal c j).2.toNat, .inr (.inl (fun k => Int64.ofInt (h0 L xs c i j k)))) := by
              rw [vp_cell_l, vp_cell_l]
              refine arrV_congr (fun k hk2 => ?_)
              show Value.long (Int64.ofInt (clog log k)) = .long (Int64.ofInt (h0 L xs c i j k))
              rw [h3, h0_small h13]
            exact hcell
          · have ht : qat c j = 2 := by unfold qat; rw [hk] <;> rfl
            unfold qct
            rw [ht, hk]
            rw [hk] at hc3
            have h3 : ∀ k, clog log k = hv c i j k := fun k => by rw [hv_arr h13 h60 (qids_2 hm).2.1]; exact clsame_ok hc3 k
            have hcell : vp_cell (dA 2) ((qal c j).2.toNat, .inl (fun k => Int32.ofInt (clog log k))) = vp_cell (dA 2) ((qal c j).2.toNat, .inl (fun k => Int32.ofInt (h0 L xs c i j k))) := by
              rw [vp_cell_i, vp_cell_i]
              refine arrV_congr (fun k hk2 => ?_)
              show Value.int (Int32.ofInt (clog log k)) = .int (Int32.ofInt (h0 L xs c i j k))
              rw [h3, h0_small h13]
            exact hcell
          · have ht := qat_3 hk
            rw [hk] at hc3
            have hel : ∀ k, k < (qal c j).2.toNat → rs[k]? = some (some (cposL ((qra c j).1, (qra c j).2 + k, 0))) := fun k hk => of_decide_eq_true (List.all_eq_true.mp hc3 k (List.mem_range.mpr hk))
            unfold qct
            rw [hk]
            have hgo : ∀ t, (t = 3 ∨ t = 4 ∨ t = 5) → vp_cell (dA t) ((qal c j).2.toNat, (match t with | 0 => .inl (fun k => Int32.ofInt (clog log k)) | 1 => .inr (.inl (fun k => Int64.ofInt (clog log k))) | 2 => .inl (fun k => Int32.ofInt (clog log k)) | _ => .inr (.inr (.inr (.inr (crf B rs)))))) = vp_cell (dA t) ((qal c j).2.toNat, .inr (.inr (.inr (.inr (fun k => some (adrL B aW bs ((qra c j).1, (qra c j).2 + k, 0))))))) := by
              intro t ht
              have hcell : vp_cell (dA t) ((qal c j).2.toNat, .inr (.inr (.inr (.inr (crf B rs))))) = vp_cell (dA t) ((qal c j).2.toNat, .inr (.inr (.inr (.inr (fun k => some (adrL B aW bs ((qra c j).1, (qra c j).2 + k, 0))))))) := by
                rw [vp_cell_q, vp_cell_q]
                refine arrV_congr (fun k hk2 => ?_)
                have h3 := hel k hk2
                have hin : ((qra c j).1, (qra c j).2 + k, 0) ∈ qids := qids_ra hm hk (by omega)
                show va_rf (crf B rs k) = va_rf (some (adrL B aW bs ((qra c j).1, (qra c j).2 + k, 0)))
                unfold crf
                rw [h3, adrL_in hin]
              rcases ht with rfl | rfl | rfl <;> exact hcell
            exact hgo _ ht
theorem law_D {dA : Nat → ClassId} {B aW bs : Nat} (h : qH) : va_D (fun q => B ≤ q) (qws (adrL B aW bs) dA h) := by
  have key : ∀ (k : Nat) (q : Nat × va_E), (qws (adrL B aW bs) dA h)[k]? = some q → ∃ id, qids[k]? = some id ∧ q.1 = B + cposL id := by
    intro k q hq
    unfold qws at hq
    rw [List.getElem?_map] at hq
    cases hid : qids[k]? with
    | none => rw [hid] at hq; cases hq
    | some id =>
      rw [hid] at hq
      have hq : some (adrL B aW bs id, qce (adrL B aW bs) dA h id) = some q := hq
      injection hq with hq
      subst hq
      exact ⟨id, rfl, adrL_in (List.mem_of_getElem? hid)⟩
  refine ⟨fun i j p q h1 h2 h3 => ?_, fun k q hk => ?_⟩
  · obtain ⟨id1, g1, e1⟩ := key i p h1
    obtain ⟨id2, g2, e2⟩ := key j q h2
    have e3 : cposL id1 = cposL id2 := by omega
    refine (List.getElem?_inj (l := qids.map cposL) (i := i) (j := j) (by simpa using (List.getElem?_eq_some_iff.mp g1).1) cpos_nd).mp ?_
    rw [List.getElem?_map, List.getElem?_map, g1, g2, Option.map_some, Option.map_some, e3]
  · obtain ⟨id, g, e1⟩ := key k q hk
    show B ≤ q.1
    omega
theorem hv_ok : ∀ c i j k, qrg (qsk c j) (hv c i j k) := by
  intro c i j k
  have key : ∀ x : Int, (x = 0 ∨ x = 1 ∨ x = -1 ∨ x = 8 ∨ x = 5) → ∀ t, qrg t x := by
    intro x hx t
    unfold qrg
    split
    · unfold qRL; omega
    · omega
    · unfold qR; omega
  refine key _ ?_ _
  unfold hv
  split <;> (repeat' split) <;> decide
theorem qWORDS_ok : ∀ k, qRL (qWORDS k) := by
  intro k
  unfold qWORDS qRL
  split <;> decide
theorem h0_ok {L : Nat} {xs : Nat → Int32} (hL : L ≤ 3072) : qhok (h0 L xs) := by
  intro c i j k
  unfold h0
  split
  · rename_i hc
    subst hc
    split
    · rename_i hj
      rw [hj.1]
      exact qWORDS_ok k
    · have : qrg (qsk 90 j) 0 := hv_ok 99 0 0 0 |> fun _ => by
        unfold qrg
        split
        · unfold qRL; decide
        · decide
        · unfold qR; decide
      exact this
  · split
    · rename_i hc
      subst hc
      have hsk : ∀ j, qsk 91 j = 0 := by
        intro j
        cases j with
        | zero => rfl
        | succ j => rfl
      rw [hsk]
      show qR _
      split
      · split
        · exact qnR _
        · exact qn_0
      · split
        · exact ⟨by omega, by omega⟩
        · exact qn_0
    · exact hv_ok c i j k
theorem h0_ro {L : Nat} {xs : Nat → Int32} : qro L xs (h0 L xs) := ⟨fun k hk => by unfold h0; rw [if_pos rfl, if_pos ⟨rfl, hk⟩], fun k hk => by unfold h0; rw [if_neg (by decide), if_pos rfl, if_pos rfl, if_pos hk], by unfold h0; rw [if_neg (by decide), if_pos rfl, if_neg (by decide), if_pos ⟨rfl, rfl⟩]⟩

theorem inst_all {k : Nat} {C : String} {T : u_T} {N : Nat} (hc : vwCl[k]? = some (C, T, N)) : Cond.instantiable C N ∈ lw_good := by
  match k, hc with
  | 0, hc =>
    have hc : some (RX0, TX0, 5) = some (C, T, N) := hc
    cases hc
    exact lw_good_in (List.mem_append_right _ (List.mem_of_getElem? (i := 367) (by decide +kernel))) rfl
  | 1, hc =>
    have hc : some (RX1, TX1, 8) = some (C, T, N) := hc
    cases hc
    exact lw_good_in (List.mem_append_right _ (List.mem_of_getElem? (i := 210) (by decide +kernel))) rfl
  | 2, hc =>
    have hc : some (RX2, TX2, 2) = some (C, T, N) := hc
    cases hc
    exact lw_good_in (List.mem_append_right _ (List.mem_of_getElem? (i := 104) (by decide +kernel))) rfl
  | 3, hc =>
    have hc : some (RX3, TX3, 9) = some (C, T, N) := hc
    cases hc
    exact lw_good_in (List.mem_append_right _ (List.mem_of_getElem? (i := 331) (by decide +kernel))) rfl
  | 4, hc =>
    have hc : some (RX4, TX4, 2) = some (C, T, N) := hc
    cases hc
    exact lw_good_in (List.mem_append_right _ (List.mem_of_getElem? (i := 390) (by decide +kernel))) rfl
  | 5, hc =>
    have hc : some (RX5, TX5, 9) = some (C, T, N) := hc
    cases hc
    exact lw_good_in (List.mem_append_right _ (List.mem_of_getElem? (i := 254) (by decide +kernel))) rfl
  | 6, hc =>
    have hc : some (RX6, TX6, 9) = some (C, T, N) := hc
    cases hc
    exact lw_good_in (List.mem_append_right _ (List.mem_of_getElem? (i := 295) (by decide +kernel))) rfl
  | 7, hc =>
    have hc : some (RX7, TX7, 14) = some (C, T, N) := hc
    cases hc
    exact lw_good_in (List.mem_append_right _ (List.mem_of_getElem? (i := 118) (by decide +kernel))) rfl
  | 8, hc =>
    have hc : some (RX8, TX8, 2) = some (C, T, N) := hc
    cases hc
    exact lw_good_in (List.mem_append_right _ (List.mem_of_getElem? (i := 91) (by decide +kernel))) rfl
  | 9, hc =>
    have hc : some (RX9, TX9, 14) = some (C, T, N) := hc
    cases hc
    exact lw_good_in (List.mem_append_right _ (List.mem_of_getElem? (i := 28) (by decide +kernel))) rfl
  | 10, hc =>
    have hc : some (RX10, TX10, 3) = some (C, T, N) := hc
    cases hc
    exact lw_good_in (List.mem_append_right _ (List.mem_of_getElem? (i := 404) (by decide +kernel))) rfl
  | 11, hc =>
    have hc : some (RX11, TX11, 20) = some (C, T, N) := hc
    cases hc
    exact lw_good_in (List.mem_append_right _ (List.mem_of_getElem? (i := 18) (by decide +kernel))) rfl
  | 12, hc =>
    have hc : some (RX12, TX12, 49) = some (C, T, N) := hc
    cases hc
    exact lw_good_in (List.mem_append_right _ (List.mem_of_getElem? (i := 1241) (by decide +kernel))) rfl
  | n + 13, hc => simp [vwCl] at hc
theorem ao10 : Cond.arrayOver (.object RX10) ∈ lw_tbl := List.mem_append_right _ (List.mem_of_getElem? (i := 26) (by decide +kernel))
theorem ao7 : Cond.arrayOver (.object RX7) ∈ lw_tbl := List.mem_append_right _ (List.mem_of_getElem? (i := 251) (by decide +kernel))
theorem ao1 : Cond.arrayOver (.object RX1) ∈ lw_tbl := List.mem_append_right _ (List.mem_of_getElem? (i := 252) (by decide +kernel))
theorem lkws : Cond.laysStatic "QuarrelKeys" "WORDS" "[J" ∈ lw_tbl := List.mem_append_right _ (List.mem_of_getElem? (i := 597) (by decide +kernel))
theorem lkwn : Cond.fieldLinkNest "QuarrelKeys$Tape" 70 "QuarrelKeys" "WORDS" "[J" "QuarrelKeys" ∈ lw_tbl := List.mem_append_right _ (List.mem_of_getElem? (i := 596) (by decide +kernel))
theorem lkqi : Cond.initialized "QuarrelKeys" ∈ lw_good := lw_good_in (List.mem_append_right _ (List.mem_of_getElem? (i := 1) (by decide +kernel))) rfl
