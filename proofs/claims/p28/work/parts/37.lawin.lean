/-! The law's words are the tables'. -/
theorem in_r {big ws : List Cond} (ps : List Nat) (hp : ws = ps.filterMap (fun i => big[i]?)) : ∀ w ∈ ws, w ∈ big := by
  intro w hw
  rw [hp] at hw
  obtain ⟨i, -, hi⟩ := List.mem_filterMap.mp hw
  exact List.mem_of_getElem? hi
set_option maxRecDepth 100000 in
set_option maxHeartbeats 4000000 in
theorem lwi_1 : ∀ w ∈ wsL_law0_r1, w ∈ lw_tbl := in_r [23, 24, 12, 25, 26, 27, 28, 29, 30, 31, 32, 13, 108, 71, 72, 14, 109, 70, 110, 111, 112, 34, 35, 36] rfl
set_option maxRecDepth 100000 in
set_option maxHeartbeats 4000000 in
theorem lwi_2 : ∀ w ∈ wsL_law0_r2, w ∈ lw_tbl := in_r [37, 38, 39, 40, 41, 43, 45, 47, 49, 74, 75, 76, 77, 79, 81, 82, 84, 85, 87, 89, 391, 392, 11, 393] rfl
set_option maxRecDepth 100000 in
set_option maxHeartbeats 4000000 in
theorem lwi_3 : ∀ w ∈ wsL_law0_r3, w ∈ lw_tbl := in_r [394, 395, 396, 397, 124, 125, 126, 127, 203, 19, 225, 20, 128, 130, 0, 131, 132, 18, 50, 200, 201, 202, 221, 222] rfl
set_option maxRecDepth 100000 in
set_option maxHeartbeats 4000000 in
theorem lwi_4 : ∀ w ∈ wsL_law0_r4, w ∈ lw_tbl := in_r [223, 224, 241, 242, 243, 244, 245, 246, 247, 248, 253, 254, 21, 255, 256, 257, 258, 249, 250, 251, 252, 383, 384, 385] rfl
set_option maxRecDepth 100000 in
set_option maxHeartbeats 4000000 in
theorem lwi_5 : ∀ w ∈ wsL_law0_r5, w ∈ lw_tbl := in_r [386, 281, 283, 3, 284, 42, 285, 286, 287, 288, 289, 290, 291, 387, 388, 389, 390, 303, 304, 305, 306, 307, 308, 309] rfl
set_option maxRecDepth 100000 in
set_option maxHeartbeats 4000000 in
theorem lwi_6 : ∀ w ∈ wsL_law0_r6, w ∈ lw_tbl := in_r [310, 311, 312, 313, 314, 301, 302, 300, 267, 268, 269, 270, 273, 275, 2, 276, 277, 278, 279, 280, 293, 295, 4, 296] rfl
set_option maxRecDepth 100000 in
set_option maxHeartbeats 4000000 in
theorem lwi_7 : ∀ w ∈ wsL_law0_r7, w ∈ lw_tbl := in_r [297, 298, 299, 317, 319, 5, 320, 321, 323, 6, 324, 325, 326, 327, 328, 329, 368, 369, 370, 371, 372, 374, 8, 375] rfl
set_option maxRecDepth 100000 in
set_option maxHeartbeats 4000000 in
theorem lwi_8 : ∀ w ∈ wsL_law0_r8, w ∈ lw_tbl := in_r [90, 377, 353, 354, 355, 378, 379, 380, 381, 382, 349, 350, 351, 259, 260, 261, 262, 44, 263, 264, 265, 266, 330, 331] rfl
set_option maxRecDepth 100000 in
set_option maxHeartbeats 4000000 in
theorem lwi_9 : ∀ w ∈ wsL_law0_r9, w ∈ lw_tbl := in_r [332, 333, 336, 338, 7, 339, 88, 78, 80, 86, 83, 340, 341, 342, 343, 344, 345, 346, 347, 348, 352, 356, 357, 358] rfl
set_option maxRecDepth 100000 in
set_option maxHeartbeats 4000000 in
theorem lwi_10 : ∀ w ∈ wsL_law0_r10, w ∈ lw_tbl := in_r [359, 364, 365, 366, 367, 360, 361, 362, 363, 448, 449, 450, 451, 452, 453, 454, 455, 456, 457, 458, 460, 461, 462, 463] rfl
set_option maxRecDepth 100000 in
set_option maxHeartbeats 4000000 in
theorem lwi_11 : ∀ w ∈ wsL_law0_r11, w ∈ lw_tbl := in_r [464, 465, 466, 467, 468, 469, 470, 471, 48, 472, 473, 474, 475, 46, 398, 399, 400, 401, 402, 403, 404, 405, 407, 9] rfl
set_option maxRecDepth 100000 in
set_option maxHeartbeats 4000000 in
theorem lwi_12 : ∀ w ∈ wsL_law0_r12, w ∈ lw_tbl := in_r [408, 409, 410, 411, 412, 415, 416, 417, 418, 419, 421, 10, 422, 423, 424, 22, 425, 426, 427, 428, 429, 430, 431, 432] rfl
set_option maxRecDepth 100000 in
set_option maxHeartbeats 4000000 in
theorem lwi_13 : ∀ w ∈ wsL_law0_r13, w ∈ lw_tbl := in_r [433, 434, 435, 436, 437, 438, 439, 440, 441, 442, 444, 445, 446, 447] rfl
set_option maxRecDepth 100000 in
set_option maxHeartbeats 4000000 in
theorem inX0 : ∀ w ∈ wsX00, w ∈ lw_tbl := in_r [91, 93, 95, 97, 99, 101, 103, 105] rfl
set_option maxRecDepth 100000 in
set_option maxHeartbeats 4000000 in
theorem inX1 : ∀ w ∈ wsX10, w ∈ lw_tbl := in_r [51, 53, 55, 57, 59, 61, 63, 65, 67] rfl
set_option maxRecDepth 100000 in
set_option maxHeartbeats 4000000 in
theorem inX2 : ∀ w ∈ wsX20, w ∈ lw_tbl := in_r [113, 115, 117, 119, 121] rfl
set_option maxRecDepth 100000 in
theorem lwi_x0 : ∀ w ∈ (vx_atS RX2 45 "java/lang/IllegalArgumentException" ["java/lang/RuntimeException", "java/lang/Exception"]).filter goodWord, w ∈ lw_tbl := by decide +kernel
set_option maxRecDepth 100000 in
theorem lwi_x1 : ∀ w ∈ (vx_atS RX2 58 "java/lang/IllegalStateException" ["java/lang/RuntimeException", "java/lang/Exception"]).filter goodWord, w ∈ lw_tbl := by decide +kernel
set_option maxRecDepth 100000 in
theorem lwi_x2 : ∀ w ∈ (vx_atS RX2 134 "java/lang/IndexOutOfBoundsException" ["java/lang/RuntimeException", "java/lang/Exception"]).filter goodWord, w ∈ lw_tbl := by decide +kernel
theorem in_a {a b : List Cond} (h1 : ∀ w ∈ a, w ∈ lw_tbl) (h2 : ∀ w ∈ b, w ∈ lw_tbl) : ∀ w ∈ a ++ b, w ∈ lw_tbl := fun w h => (List.mem_append.mp h).elim (h1 w) (h2 w)
theorem wsL_law_in : ∀ w ∈ wsL_law, w ∈ lw_tbl := in_a (in_a (in_a (in_a (in_a (in_a (in_a (in_a lwi_1 (in_a lwi_2 (in_a lwi_3 (in_a lwi_4 (in_a lwi_5 (in_a lwi_6 (in_a lwi_7 (in_a lwi_8 (in_a lwi_9 (in_a lwi_10 (in_a lwi_11 (in_a lwi_12 lwi_13)))))))))))) inX2) inX1) inX0) (fun w h => absurd h List.not_mem_nil)) lwi_x0) lwi_x1) lwi_x2
