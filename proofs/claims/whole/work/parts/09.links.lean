/-! the links of fields and methods, each word at its place in the tables -/
def bc_cn (k : Nat) : String := match k with
  | 0 => RX0
  | 1 => RX1
  | 2 => RX2
  | 3 => RX3
  | 4 => RX4
  | 5 => RX5
  | 6 => RX6
  | 7 => RX7
  | _ => RJ6
def bc_own (mi : Nat) : Nat := match mi with
  | 1 => 0
  | 2 => 0
  | 3 => 0
  | 4 => 0
  | 5 => 0
  | 6 => 0
  | 7 => 0
  | 8 => 0
  | 9 => 0
  | 10 => 0
  | 12 => 1
  | 13 => 1
  | 14 => 1
  | 15 => 1
  | 16 => 1
  | 17 => 1
  | 18 => 1
  | 19 => 1
  | 20 => 1
  | 21 => 1
  | 22 => 1
  | 23 => 1
  | 24 => 1
  | 26 => 2
  | 27 => 2
  | 28 => 2
  | 30 => 3
  | 31 => 3
  | 32 => 3
  | 33 => 3
  | 34 => 3
  | 35 => 3
  | 36 => 3
  | 37 => 3
  | 38 => 3
  | 39 => 3
  | 40 => 3
  | 41 => 3
  | 43 => 4
  | 44 => 4
  | 45 => 4
  | 46 => 4
  | 47 => 4
  | 48 => 4
  | 50 => 5
  | 51 => 5
  | 52 => 5
  | 54 => 6
  | 55 => 6
  | 56 => 6
  | 57 => 6
  | 58 => 6
  | 59 => 6
  | 60 => 6
  | 61 => 6
  | 62 => 6
  | 63 => 6
  | 64 => 6
  | 65 => 6
  | 66 => 6
  | 67 => 6
  | 68 => 6
  | 69 => 6
  | 70 => 6
  | 71 => 6
  | 72 => 6
  | 73 => 6
  | 74 => 6
  | 75 => 6
  | 76 => 6
  | 77 => 6
  | 78 => 6
  | 79 => 7
  | 80 => 7
  | 81 => 7
  | 82 => 7
  | 83 => 7
  | 84 => 7
  | 85 => 7
  | 86 => 7
  | 87 => 7
  | 88 => 7
  | 89 => 7
  | 90 => 7
  | 91 => 7
  | 93 => 7
  | 94 => 7
  | 95 => 7
  | 96 => 7
  | 97 => 7
  | 98 => 7
  | 99 => 7
  | 100 => 7
  | 101 => 7
  | 102 => 7
  | 103 => 7
  | 104 => 7
  | 105 => 7
  | 106 => 7
  | 107 => 7
  | 108 => 7
  | 109 => 7
  | 110 => 7
  | 111 => 7
  | 112 => 7
  | 113 => 7
  | 114 => 7
  | 115 => 7
  | 116 => 7
  | 117 => 7
  | 118 => 7
  | 119 => 7
  | 120 => 7
  | 121 => 7
  | 122 => 7
  | 123 => 7
  | 124 => 7
  | 125 => 7
  | 126 => 7
  | 127 => 7
  | 128 => 7
  | 129 => 7
  | 130 => 7
  | 131 => 7
  | 132 => 7
  | 133 => 7
  | 134 => 7
  | 135 => 7
  | 136 => 8
  | _ => 0
theorem bc_own0 : ∀ mi ∈ bc_gl0, bc_cn (bc_own mi) = (bc_y mi).cls := List.forall_mem_cons.mpr ⟨rfl, List.forall_mem_cons.mpr ⟨rfl, List.forall_mem_cons.mpr ⟨rfl, List.forall_mem_cons.mpr ⟨rfl, List.forall_mem_cons.mpr ⟨rfl, List.forall_mem_cons.mpr ⟨rfl, List.forall_mem_cons.mpr ⟨rfl, List.forall_mem_cons.mpr ⟨rfl, List.forall_mem_cons.mpr ⟨rfl, List.forall_mem_cons.mpr ⟨rfl, List.forall_mem_cons.mpr ⟨rfl, List.forall_mem_cons.mpr ⟨rfl, List.forall_mem_cons.mpr ⟨rfl, List.forall_mem_cons.mpr ⟨rfl, List.forall_mem_cons.mpr ⟨rfl, List.forall_mem_cons.mpr ⟨rfl, List.forall_mem_cons.mpr ⟨rfl, List.forall_mem_cons.mpr ⟨rfl, List.forall_mem_cons.mpr ⟨rfl, List.forall_mem_cons.mpr ⟨rfl, List.forall_mem_cons.mpr ⟨rfl, List.forall_mem_cons.mpr ⟨rfl, List.forall_mem_cons.mpr ⟨rfl, List.forall_mem_cons.mpr ⟨rfl, fun _ h => by cases h⟩⟩⟩⟩⟩⟩⟩⟩⟩⟩⟩⟩⟩⟩⟩⟩⟩⟩⟩⟩⟩⟩⟩⟩
theorem bc_own1 : ∀ mi ∈ bc_gl1, bc_cn (bc_own mi) = (bc_y mi).cls := List.forall_mem_cons.mpr ⟨rfl, List.forall_mem_cons.mpr ⟨rfl, List.forall_mem_cons.mpr ⟨rfl, List.forall_mem_cons.mpr ⟨rfl, List.forall_mem_cons.mpr ⟨rfl, List.forall_mem_cons.mpr ⟨rfl, List.forall_mem_cons.mpr ⟨rfl, List.forall_mem_cons.mpr ⟨rfl, List.forall_mem_cons.mpr ⟨rfl, List.forall_mem_cons.mpr ⟨rfl, List.forall_mem_cons.mpr ⟨rfl, List.forall_mem_cons.mpr ⟨rfl, List.forall_mem_cons.mpr ⟨rfl, List.forall_mem_cons.mpr ⟨rfl, List.forall_mem_cons.mpr ⟨rfl, List.forall_mem_cons.mpr ⟨rfl, List.forall_mem_cons.mpr ⟨rfl, List.forall_mem_cons.mpr ⟨rfl, List.forall_mem_cons.mpr ⟨rfl, List.forall_mem_cons.mpr ⟨rfl, List.forall_mem_cons.mpr ⟨rfl, List.forall_mem_cons.mpr ⟨rfl, List.forall_mem_cons.mpr ⟨rfl, List.forall_mem_cons.mpr ⟨rfl, fun _ h => by cases h⟩⟩⟩⟩⟩⟩⟩⟩⟩⟩⟩⟩⟩⟩⟩⟩⟩⟩⟩⟩⟩⟩⟩⟩
theorem bc_own2 : ∀ mi ∈ bc_gl2, bc_cn (bc_own mi) = (bc_y mi).cls := List.forall_mem_cons.mpr ⟨rfl, List.forall_mem_cons.mpr ⟨rfl, List.forall_mem_cons.mpr ⟨rfl, List.forall_mem_cons.mpr ⟨rfl, List.forall_mem_cons.mpr ⟨rfl, List.forall_mem_cons.mpr ⟨rfl, List.forall_mem_cons.mpr ⟨rfl, List.forall_mem_cons.mpr ⟨rfl, List.forall_mem_cons.mpr ⟨rfl, List.forall_mem_cons.mpr ⟨rfl, List.forall_mem_cons.mpr ⟨rfl, List.forall_mem_cons.mpr ⟨rfl, List.forall_mem_cons.mpr ⟨rfl, List.forall_mem_cons.mpr ⟨rfl, List.forall_mem_cons.mpr ⟨rfl, List.forall_mem_cons.mpr ⟨rfl, List.forall_mem_cons.mpr ⟨rfl, List.forall_mem_cons.mpr ⟨rfl, List.forall_mem_cons.mpr ⟨rfl, List.forall_mem_cons.mpr ⟨rfl, List.forall_mem_cons.mpr ⟨rfl, List.forall_mem_cons.mpr ⟨rfl, List.forall_mem_cons.mpr ⟨rfl, List.forall_mem_cons.mpr ⟨rfl, fun _ h => by cases h⟩⟩⟩⟩⟩⟩⟩⟩⟩⟩⟩⟩⟩⟩⟩⟩⟩⟩⟩⟩⟩⟩⟩⟩
theorem bc_own3 : ∀ mi ∈ bc_gl3, bc_cn (bc_own mi) = (bc_y mi).cls := List.forall_mem_cons.mpr ⟨rfl, List.forall_mem_cons.mpr ⟨rfl, List.forall_mem_cons.mpr ⟨rfl, List.forall_mem_cons.mpr ⟨rfl, List.forall_mem_cons.mpr ⟨rfl, List.forall_mem_cons.mpr ⟨rfl, List.forall_mem_cons.mpr ⟨rfl, List.forall_mem_cons.mpr ⟨rfl, List.forall_mem_cons.mpr ⟨rfl, List.forall_mem_cons.mpr ⟨rfl, List.forall_mem_cons.mpr ⟨rfl, List.forall_mem_cons.mpr ⟨rfl, List.forall_mem_cons.mpr ⟨rfl, List.forall_mem_cons.mpr ⟨rfl, List.forall_mem_cons.mpr ⟨rfl, List.forall_mem_cons.mpr ⟨rfl, List.forall_mem_cons.mpr ⟨rfl, List.forall_mem_cons.mpr ⟨rfl, List.forall_mem_cons.mpr ⟨rfl, List.forall_mem_cons.mpr ⟨rfl, List.forall_mem_cons.mpr ⟨rfl, List.forall_mem_cons.mpr ⟨rfl, List.forall_mem_cons.mpr ⟨rfl, List.forall_mem_cons.mpr ⟨rfl, fun _ h => by cases h⟩⟩⟩⟩⟩⟩⟩⟩⟩⟩⟩⟩⟩⟩⟩⟩⟩⟩⟩⟩⟩⟩⟩⟩
theorem bc_own4 : ∀ mi ∈ bc_gl4, bc_cn (bc_own mi) = (bc_y mi).cls := List.forall_mem_cons.mpr ⟨rfl, List.forall_mem_cons.mpr ⟨rfl, List.forall_mem_cons.mpr ⟨rfl, List.forall_mem_cons.mpr ⟨rfl, List.forall_mem_cons.mpr ⟨rfl, List.forall_mem_cons.mpr ⟨rfl, List.forall_mem_cons.mpr ⟨rfl, List.forall_mem_cons.mpr ⟨rfl, List.forall_mem_cons.mpr ⟨rfl, List.forall_mem_cons.mpr ⟨rfl, List.forall_mem_cons.mpr ⟨rfl, List.forall_mem_cons.mpr ⟨rfl, List.forall_mem_cons.mpr ⟨rfl, List.forall_mem_cons.mpr ⟨rfl, List.forall_mem_cons.mpr ⟨rfl, List.forall_mem_cons.mpr ⟨rfl, List.forall_mem_cons.mpr ⟨rfl, List.forall_mem_cons.mpr ⟨rfl, List.forall_mem_cons.mpr ⟨rfl, List.forall_mem_cons.mpr ⟨rfl, List.forall_mem_cons.mpr ⟨rfl, List.forall_mem_cons.mpr ⟨rfl, List.forall_mem_cons.mpr ⟨rfl, List.forall_mem_cons.mpr ⟨rfl, fun _ h => by cases h⟩⟩⟩⟩⟩⟩⟩⟩⟩⟩⟩⟩⟩⟩⟩⟩⟩⟩⟩⟩⟩⟩⟩⟩
theorem bc_own5 : ∀ mi ∈ bc_gl5, bc_cn (bc_own mi) = (bc_y mi).cls := List.forall_mem_cons.mpr ⟨rfl, List.forall_mem_cons.mpr ⟨rfl, List.forall_mem_cons.mpr ⟨rfl, List.forall_mem_cons.mpr ⟨rfl, List.forall_mem_cons.mpr ⟨rfl, List.forall_mem_cons.mpr ⟨rfl, List.forall_mem_cons.mpr ⟨rfl, List.forall_mem_cons.mpr ⟨rfl, List.forall_mem_cons.mpr ⟨rfl, fun _ h => by cases h⟩⟩⟩⟩⟩⟩⟩⟩⟩
theorem bc_own_ok : ∀ mi ∈ bc_gl, bc_cn (bc_own mi) = (bc_y mi).cls := (List.forall_mem_append.mpr ⟨bc_own0, (List.forall_mem_append.mpr ⟨bc_own1, (List.forall_mem_append.mpr ⟨bc_own2, (List.forall_mem_append.mpr ⟨bc_own3, (List.forall_mem_append.mpr ⟨bc_own4, bc_own5⟩)⟩)⟩)⟩)⟩)
def bc_LF0 : List (Nat × Nat × Nat × Nat × Nat × Nat) := [(0, 25, 0, 5, 253, 0), (0, 33, 0, 6, 254, 0), (0, 12, 0, 1, 248, 0), (0, 43, 0, 4, 252, 0), (0, 18, 0, 2, 249, 0), (0, 50, 0, 7, 255, 0), (0, 53, 0, 8, 256, 0), (0, 56, 0, 9, 258, 0), (0, 22, 0, 3, 250, 0), (0, 29, 0, 0, 247, 0), (0, 86, 1, 0, 155, 1), (0, 89, 1, 4, 166, 1), (0, 96, 1, 1, 158, 1), (0, 109, 1, 8, 177, 1), (0, 118, 1, 2, 162, 1), (1, 43, 1, 8, 174, 0), (1, 46, 1, 9, 178, 0), (1, 49, 1, 10, 181, 0), (1, 52, 1, 11, 183, 0), (1, 36, 1, 12, 185, 0), (1, 40, 1, 13, 187, 0), (1, 55, 1, 14, 189, 0), (1, 9, 1, 0, 154, 0), (1, 15, 1, 1, 157, 0), (1, 18, 1, 2, 160, 0), (1, 21, 1, 3, 163, 0), (1, 24, 1, 4, 165, 0), (1, 27, 1, 5, 168, 0), (1, 30, 1, 6, 170, 0), (1, 33, 1, 7, 172, 0)]
theorem bc_LF0_ok : ∀ q ∈ bc_LF0, bc_fw (bc_cn q.1) q.2.1 q.2.2.1 q.2.2.2.1 q.2.2.2.2.1 q.2.2.2.2.2 = true := by decide +kernel
def bc_LF1 : List (Nat × Nat × Nat × Nat × Nat × Nat) := [(2, 16, 2, 1, 291, 0), (2, 11, 2, 0, 290, 0), (2, 24, 2, 2, 292, 0), (3, 20, 3, 1, 125, 0), (3, 24, 3, 5, 129, 0), (3, 30, 3, 3, 127, 0), (3, 9, 3, 0, 124, 0), (3, 33, 5, 1, 110, 1), (3, 59, 3, 4, 128, 0), (3, 62, 1, 9, 179, 1), (3, 73, 1, 8, 175, 1), (3, 80, 3, 2, 126, 0), (3, 83, 3, 6, 132, 0), (4, 9, 4, 0, 234, 0), (4, 15, 4, 1, 235, 0), (4, 18, 4, 2, 236, 0), (4, 21, 4, 3, 237, 0), (5, 15, 5, 1, 109, 0), (5, 11, 5, 0, 108, 0), (6, 10, 6, 0, 301, 0), (6, 59, 5, 1, 111, 1), (6, 21, 6, 1, 302, 0), (6, 32, 6, 3, 304, 0), (6, 67, 3, 6, 131, 1), (6, 28, 6, 2, 303, 0), (6, 47, 6, 5, 306, 0), (6, 76, 3, 5, 130, 1), (6, 79, 1, 8, 176, 1), (6, 86, 1, 9, 180, 1), (6, 89, 1, 10, 182, 1)]
theorem bc_LF1_ok : ∀ q ∈ bc_LF1, bc_fw (bc_cn q.1) q.2.1 q.2.2.1 q.2.2.2.1 q.2.2.2.2.1 q.2.2.2.2.2 = true := by decide +kernel
def bc_LF2 : List (Nat × Nat × Nat × Nat × Nat × Nat) := [(6, 92, 1, 11, 184, 1), (6, 95, 1, 12, 186, 1), (6, 98, 1, 13, 188, 1), (6, 101, 1, 14, 190, 1), (6, 104, 2, 2, 293, 1), (6, 40, 6, 4, 305, 0), (6, 160, 0, 8, 257, 1), (6, 163, 0, 9, 259, 1), (6, 169, 0, 3, 251, 1), (6, 121, 1, 2, 161, 1), (6, 114, 1, 0, 156, 1), (6, 124, 1, 3, 164, 1), (6, 118, 1, 1, 159, 1), (6, 130, 1, 5, 169, 1), (7, 1, 7, 0, 772, 0), (7, 7, 7, 1, 773, 0), (7, 11, 7, 2, 774, 0), (7, 18, 7, 3, 775, 0), (7, 21, 7, 4, 776, 0), (7, 24, 7, 5, 777, 0), (7, 27, 7, 6, 778, 0), (7, 37, 7, 10, 782, 0), (7, 41, 7, 7, 779, 0), (7, 52, 7, 8, 780, 0), (7, 55, 7, 9, 781, 0), (7, 67, 7, 12, 784, 0), (7, 64, 7, 11, 783, 0), (7, 132, 7, 14, 786, 0), (7, 156, 7, 16, 788, 0), (7, 73, 7, 15, 787, 0)]
theorem bc_LF2_ok : ∀ q ∈ bc_LF2, bc_fw (bc_cn q.1) q.2.1 q.2.2.1 q.2.2.2.1 q.2.2.2.2.1 q.2.2.2.2.2 = true := by decide +kernel
def bc_LF3 : List (Nat × Nat × Nat × Nat × Nat × Nat) := [(7, 76, 7, 17, 789, 0), (7, 79, 7, 18, 790, 0), (7, 82, 7, 19, 791, 0), (7, 85, 7, 20, 792, 0), (7, 88, 7, 21, 793, 0), (7, 91, 7, 22, 794, 0), (7, 172, 7, 23, 795, 0), (7, 175, 7, 24, 796, 0), (7, 178, 7, 25, 797, 0), (7, 181, 7, 26, 798, 0), (7, 94, 7, 27, 799, 0), (7, 70, 7, 13, 785, 0)]
theorem bc_LF3_ok : ∀ q ∈ bc_LF3, bc_fw (bc_cn q.1) q.2.1 q.2.2.1 q.2.2.2.1 q.2.2.2.2.1 q.2.2.2.2.2 = true := by decide +kernel
def bc_LF : List (Nat × Nat × Nat × Nat × Nat × Nat) := bc_LF0 ++ (bc_LF1 ++ (bc_LF2 ++ (bc_LF3)))
theorem bc_LF_ok : ∀ q ∈ bc_LF, bc_fw (bc_cn q.1) q.2.1 q.2.2.1 q.2.2.2.1 q.2.2.2.2.1 q.2.2.2.2.2 = true := (List.forall_mem_append.mpr ⟨bc_LF0_ok, (List.forall_mem_append.mpr ⟨bc_LF1_ok, (List.forall_mem_append.mpr ⟨bc_LF2_ok, bc_LF3_ok⟩)⟩)⟩)
def bc_LM0 : List (Nat × Nat × Nat × Nat × Nat) := [(0, 36, 6, 515, 0), (0, 40, 43, 523, 1), (0, 46, 9, 527, 0), (0, 59, 3, 539, 0), (0, 62, 47, 543, 1), (0, 66, 8, 551, 0), (0, 69, 78, 519, 1), (0, 73, 7, 572, 0), (0, 76, 15, 531, 1), (0, 82, 10, 555, 0), (0, 92, 48, 576, 1), (0, 105, 45, 559, 1), (0, 112, 20, 522, 1), (0, 115, 46, 532, 1), (1, 64, 15, 479, 0), (1, 68, 16, 475, 0), (1, 71, 17, 507, 0), (1, 75, 20, 492, 0), (1, 78, 24, 664, 0), (1, 82, 78, 668, 1), (2, 20, 13, 637, 1), (3, 15, 12, 344, 1), (3, 27, 36, 348, 0), (3, 38, 31, 372, 0), (3, 42, 32, 441, 0), (3, 47, 38, 377, 0), (3, 51, 35, 429, 0), (3, 55, 33, 433, 0), (3, 65, 34, 437, 0), (3, 76, 14, 447, 1)]
theorem bc_LM0_ok : ∀ q ∈ bc_LM0, bc_cw (bc_cn q.1) q.2.1 q.2.2.1 q.2.2.2.1 q.2.2.2.2 = true := by decide +kernel
def bc_LM1 : List (Nat × Nat × Nat × Nat × Nat) := [(3, 92, 52, 355, 1), (3, 96, 39, 359, 0), (3, 99, 37, 362, 0), (3, 102, 40, 366, 0), (3, 105, 41, 369, 0), (4, 24, 44, 536, 0), (6, 51, 50, 324, 1), (6, 55, 51, 328, 1), (6, 63, 30, 340, 1), (6, 70, 13, 451, 1), (6, 73, 28, 458, 1), (6, 82, 18, 471, 1), (6, 143, 16, 487, 1), (6, 146, 21, 488, 1), (6, 150, 77, 500, 0), (6, 153, 19, 503, 1), (6, 156, 2, 511, 1), (6, 107, 15, 567, 1), (6, 166, 5, 568, 1), (6, 133, 17, 585, 1), (6, 172, 22, 586, 1), (6, 175, 78, 590, 0), (6, 178, 4, 595, 1), (6, 181, 75, 603, 0), (6, 184, 1, 611, 1), (6, 187, 136, 627, 0), (6, 192, 26, 633, 1), (6, 195, 14, 639, 1), (6, 199, 76, 648, 0), (6, 203, 23, 660, 1)]
theorem bc_LM1_ok : ∀ q ∈ bc_LM1, bc_cw (bc_cn q.1) q.2.1 q.2.2.1 q.2.2.2.1 q.2.2.2.2 = true := by decide +kernel
def bc_LM2 : List (Nat × Nat × Nat × Nat × Nat) := [(6, 207, 27, 674, 1), (7, 14, 83, 755, 0), (7, 30, 88, 865, 0), (7, 34, 87, 868, 0), (7, 44, 86, 871, 0), (7, 101, 91, 893, 0), (7, 104, 81, 897, 0), (7, 108, 89, 861, 0), (7, 111, 94, 889, 0), (7, 114, 90, 881, 0), (7, 118, 95, 885, 0), (7, 122, 96, 900, 0), (7, 97, 93, 769, 0), (7, 126, 97, 877, 0), (7, 129, 98, 904, 0), (7, 135, 101, 924, 0), (7, 138, 102, 928, 0), (7, 142, 103, 920, 0), (7, 145, 105, 916, 0), (7, 149, 80, 936, 0), (7, 152, 104, 940, 0), (7, 159, 108, 952, 0), (7, 162, 109, 948, 0), (7, 165, 82, 968, 0), (7, 168, 112, 975, 0), (7, 184, 113, 971, 0), (7, 187, 111, 960, 0), (7, 190, 114, 964, 0), (7, 194, 115, 986, 0), (7, 197, 117, 982, 0)]
theorem bc_LM2_ok : ∀ q ∈ bc_LM2, bc_cw (bc_cn q.1) q.2.1 q.2.2.1 q.2.2.2.1 q.2.2.2.2 = true := by decide +kernel
def bc_LM3 : List (Nat × Nat × Nat × Nat × Nat) := [(7, 200, 119, 994, 0), (7, 203, 120, 998, 0), (7, 206, 127, 1026, 0), (7, 209, 130, 1038, 0), (7, 212, 133, 1050, 0)]
theorem bc_LM3_ok : ∀ q ∈ bc_LM3, bc_cw (bc_cn q.1) q.2.1 q.2.2.1 q.2.2.2.1 q.2.2.2.2 = true := by decide +kernel
def bc_LM : List (Nat × Nat × Nat × Nat × Nat) := bc_LM0 ++ (bc_LM1 ++ (bc_LM2 ++ (bc_LM3)))
theorem bc_LM_ok : ∀ q ∈ bc_LM, bc_cw (bc_cn q.1) q.2.1 q.2.2.1 q.2.2.2.1 q.2.2.2.2 = true := (List.forall_mem_append.mpr ⟨bc_LM0_ok, (List.forall_mem_append.mpr ⟨bc_LM1_ok, (List.forall_mem_append.mpr ⟨bc_LM2_ok, bc_LM3_ok⟩)⟩)⟩)
