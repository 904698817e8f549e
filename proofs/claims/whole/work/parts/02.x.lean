theorem mem_ps {big : List Cond} (ws : List Cond) (ps : List Nat) (hp : ws = ps.filterMap (fun i => big[i]?)) : ∀ w ∈ ws, w ∈ big := by
  intro w hw
  rw [hp] at hw
  obtain ⟨i, -, hi⟩ := List.mem_filterMap.mp hw
  exact List.mem_of_getElem? hi
set_option maxRecDepth 20000 in
theorem wsL_in_r1 : ∀ w ∈ wsL_law_r1, w ∈ lw_tbl := mem_ps _ [35, 36, 26, 428, 429, 33, 37, 38, 39, 40, 41, 42, 43, 44, 27, 124, 60, 61, 28, 125, 76, 77, 29, 126] (by decide +kernel)
set_option maxRecDepth 20000 in
theorem wsL_in_r2 : ∀ w ∈ wsL_law_r2, w ∈ lw_tbl := mem_ps _ [92, 93, 30, 127, 111, 112, 32, 128, 46, 47, 48, 59, 49, 50, 51, 63, 64, 65, 66, 67, 68, 79, 80, 81] (by decide +kernel)
set_option maxRecDepth 20000 in
theorem wsL_in_r3 : ∀ w ∈ wsL_law_r3, w ∈ lw_tbl := mem_ps _ [82, 83, 84, 94, 95, 96, 97, 104, 105, 98, 99, 31, 100, 101, 102, 103, 113, 114, 115, 116, 117, 118, 430, 431] (by decide +kernel)
set_option maxRecDepth 20000 in
theorem wsL_in_r4 : ∀ w ∈ wsL_law_r4, w ∈ lw_tbl := mem_ps _ [432, 433, 435, 436, 437, 438, 440, 474, 441, 442, 443, 444, 446, 140, 141, 142, 143, 144, 145, 146, 147, 148, 149, 150] (by decide +kernel)
set_option maxRecDepth 20000 in
theorem wsL_in_r5 : ∀ w ∈ wsL_law_r5, w ∈ lw_tbl := mem_ps _ [151, 152, 153, 154, 155, 156, 157, 159, 160, 475, 476, 477, 478, 434, 479, 480, 481, 161, 162, 163, 164, 165, 166, 167] (by decide +kernel)
set_option maxRecDepth 20000 in
theorem wsL_in_r6 : ∀ w ∈ wsL_law_r6, w ∈ lw_tbl := mem_ps _ [168, 482, 483, 484, 485, 169, 170, 171, 172, 173, 174, 175, 176, 178, 179, 180, 486, 487, 488, 489, 181, 182, 183, 184] (by decide +kernel)
set_option maxRecDepth 20000 in
theorem wsL_in_r7 : ∀ w ∈ wsL_law_r7, w ∈ lw_tbl := mem_ps _ [185, 186, 187, 188, 189, 190, 191, 192, 193, 490, 491, 492, 493, 494, 496, 9, 497, 498, 500, 10, 501, 502, 195, 196] (by decide +kernel)
set_option maxRecDepth 20000 in
theorem wsL_in_r8 : ∀ w ∈ wsL_law_r8, w ∈ lw_tbl := mem_ps _ [197, 198, 199, 201, 0, 202, 203, 204, 205, 206, 207, 208, 210, 1, 211, 212, 214, 2, 215, 229, 230, 34, 231, 216] (by decide +kernel)
set_option maxRecDepth 20000 in
theorem wsL_in_r9 : ∀ w ∈ wsL_law_r9, w ∈ lw_tbl := mem_ps _ [217, 218, 219, 221, 222, 223, 224, 225, 226, 227, 228, 232, 234, 3, 235, 236, 238, 4, 239, 240, 242, 5, 243, 244] (by decide +kernel)
set_option maxRecDepth 20000 in
theorem wsL_in_r10 : ∀ w ∈ wsL_law_r10, w ∈ lw_tbl := mem_ps _ [245, 246, 247, 248, 249, 250, 251, 252, 253, 254, 255, 256, 257, 258, 503, 504, 505, 506, 507, 509, 11, 510, 511, 513] (by decide +kernel)
set_option maxRecDepth 20000 in
theorem wsL_in_r11 : ∀ w ∈ wsL_law_r11, w ∈ lw_tbl := mem_ps _ [12, 514, 445, 515, 516, 517, 518, 519, 520, 521, 523, 13, 524, 525, 527, 14, 528, 529, 531, 15, 532, 533, 535, 16] (by decide +kernel)
set_option maxRecDepth 20000 in
theorem wsL_in_r12 : ∀ w ∈ wsL_law_r12, w ∈ lw_tbl := mem_ps _ [536, 537, 539, 17, 540, 541, 543, 18, 544, 259, 260, 261, 262, 263, 264, 265, 266, 267, 268, 545, 546, 547, 548, 269] (by decide +kernel)
set_option maxRecDepth 20000 in
theorem wsL_in_r13 : ∀ w ∈ wsL_law_r13, w ∈ lw_tbl := mem_ps _ [270, 271, 272, 273, 274, 275, 276, 549, 550, 551, 552, 277, 278, 279, 280, 281, 282, 283, 284, 553, 554, 555, 556, 286] (by decide +kernel)
set_option maxRecDepth 20000 in
theorem wsL_in_r14 : ∀ w ∈ wsL_law_r14, w ∈ lw_tbl := mem_ps _ [287, 288, 289, 290, 291, 292, 293, 298, 299, 300, 294, 296, 6, 297, 557, 558, 559, 560, 301, 302, 303, 304, 305, 306] (by decide +kernel)
set_option maxRecDepth 20000 in
theorem wsL_in_r15 : ∀ w ∈ wsL_law_r15, w ∈ lw_tbl := mem_ps _ [307, 308, 309, 310, 311, 561, 562, 563, 564, 565, 566, 567, 313, 314, 315, 316, 317, 318, 319, 320, 321, 322, 323, 324] (by decide +kernel)
set_option maxRecDepth 20000 in
theorem wsL_in_r16 : ∀ w ∈ wsL_law_r16, w ∈ lw_tbl := mem_ps _ [325, 326, 327, 328, 330, 331, 332, 333, 334, 335, 336, 337, 338, 568, 569, 570, 571, 572, 574, 19, 575, 339, 340, 341] (by decide +kernel)
set_option maxRecDepth 20000 in
theorem wsL_in_r17 : ∀ w ∈ wsL_law_r17, w ∈ lw_tbl := mem_ps _ [342, 343, 344, 345, 346, 347, 348, 349, 350, 351, 352, 353, 354, 355, 357, 7, 358, 359, 360, 361, 362, 364, 365, 366] (by decide +kernel)
set_option maxRecDepth 20000 in
theorem wsL_in_r18 : ∀ w ∈ wsL_law_r18, w ∈ lw_tbl := mem_ps _ [367, 372, 373, 576, 577, 578, 579, 439, 374, 375, 376, 377, 378, 379, 380, 381, 580, 581, 582, 583, 383, 384, 385, 386] (by decide +kernel)
set_option maxRecDepth 20000 in
theorem wsL_in_r19 : ∀ w ∈ wsL_law_r19, w ∈ lw_tbl := mem_ps _ [387, 584, 585, 586, 587, 588, 590, 20, 591, 388, 389, 390, 391, 392, 393, 394, 395, 592, 593, 594, 595, 596, 598, 21] (by decide +kernel)
set_option maxRecDepth 20000 in
theorem wsL_in_r20 : ∀ w ∈ wsL_law_r20, w ∈ lw_tbl := mem_ps _ [599, 600, 602, 22, 603, 397, 398, 399, 400, 401, 402, 403, 404, 405, 406, 408, 8, 409, 604, 605, 606, 607, 411, 412] (by decide +kernel)
set_option maxRecDepth 20000 in
theorem wsL_in_r21 : ∀ w ∈ wsL_law_r21, w ∈ lw_tbl := mem_ps _ [413, 414, 608, 609, 610, 611, 612, 614, 23, 615, 616, 618, 24, 619, 415, 416, 417, 418, 620, 621, 622, 623, 419, 420] (by decide +kernel)
set_option maxRecDepth 20000 in
theorem wsL_in_r22 : ∀ w ∈ wsL_law_r22, w ∈ lw_tbl := mem_ps _ [421, 422, 423, 424, 425, 426, 427, 624, 625, 626, 627] (by decide +kernel)
set_option maxRecDepth 20000 in
theorem wsL_in_X0 : ∀ w ∈ wsX00, w ∈ lw_tbl := mem_ps _ [69, 71, 73] (by decide +kernel)
set_option maxRecDepth 20000 in
theorem wsL_in_X1 : ∀ w ∈ wsX10, w ∈ lw_tbl := mem_ps _ [85, 87, 89] (by decide +kernel)
set_option maxRecDepth 20000 in
theorem wsL_in_X2 : ∀ w ∈ wsX20, w ∈ lw_tbl := mem_ps _ [119, 121] (by decide +kernel)
set_option maxRecDepth 20000 in
theorem wsL_in_X3 : ∀ w ∈ wsX30, w ∈ lw_tbl := mem_ps _ [52, 54, 56] (by decide +kernel)
set_option maxRecDepth 20000 in
theorem wsL_in_X4 : ∀ w ∈ wsX40, w ∈ lw_tbl := mem_ps _ [106, 108] (by decide +kernel)
set_option maxRecDepth 20000 in
theorem wsL_in_X5 : ∀ w ∈ wsX50, w ∈ lw_tbl := mem_ps _ [129, 131, 133, 135, 137] (by decide +kernel)
set_option maxRecDepth 20000 in
theorem wsL_in_X6 : ∀ w ∈ wsX60, w ∈ lw_tbl := mem_ps _ [447, 449, 451, 453, 455, 457, 459, 461, 463, 465, 467, 469, 471] (by decide +kernel)
theorem wsL_law_in : ∀ w ∈ wsL_law, w ∈ lw_tbl := by
  unfold wsL_law
  exact List.forall_mem_append.mpr ⟨List.forall_mem_append.mpr ⟨List.forall_mem_append.mpr ⟨List.forall_mem_append.mpr ⟨List.forall_mem_append.mpr ⟨List.forall_mem_append.mpr ⟨List.forall_mem_append.mpr ⟨List.forall_mem_append.mpr ⟨List.forall_mem_append.mpr ⟨wsL_in_r1, List.forall_mem_append.mpr ⟨wsL_in_r2, List.forall_mem_append.mpr ⟨wsL_in_r3, List.forall_mem_append.mpr ⟨wsL_in_r4, List.forall_mem_append.mpr ⟨wsL_in_r5, List.forall_mem_append.mpr ⟨wsL_in_r6, List.forall_mem_append.mpr ⟨wsL_in_r7, List.forall_mem_append.mpr ⟨wsL_in_r8, List.forall_mem_append.mpr ⟨wsL_in_r9, List.forall_mem_append.mpr ⟨wsL_in_r10, List.forall_mem_append.mpr ⟨wsL_in_r11, List.forall_mem_append.mpr ⟨wsL_in_r12, List.forall_mem_append.mpr ⟨wsL_in_r13, List.forall_mem_append.mpr ⟨wsL_in_r14, List.forall_mem_append.mpr ⟨wsL_in_r15, List.forall_mem_append.mpr ⟨wsL_in_r16, List.forall_mem_append.mpr ⟨wsL_in_r17, List.forall_mem_append.mpr ⟨wsL_in_r18, List.forall_mem_append.mpr ⟨wsL_in_r19, List.forall_mem_append.mpr ⟨wsL_in_r20, List.forall_mem_append.mpr ⟨wsL_in_r21, wsL_in_r22⟩⟩⟩⟩⟩⟩⟩⟩⟩⟩⟩⟩⟩⟩⟩⟩⟩⟩⟩⟩⟩, wsL_in_X5⟩, wsL_in_X6⟩, wsL_in_X3⟩, wsL_in_X0⟩, wsL_in_X1⟩, wsL_in_X4⟩, wsL_in_X2⟩, fun _ h => absurd h List.not_mem_nil⟩
theorem inlX0 : ∀ w ∈ wsX00, w ∈ wsL_law := fun _ h => List.mem_append_left _ (List.mem_append_left _ (List.mem_append_left _ (List.mem_append_left _ (List.mem_append_right _ h))))
theorem inX0 : ∀ w ∈ wsX00, w ∈ lw_tbl := fun w h => wsL_law_in w (inlX0 w h)
theorem inlX1 : ∀ w ∈ wsX10, w ∈ wsL_law := fun _ h => List.mem_append_left _ (List.mem_append_left _ (List.mem_append_left _ (List.mem_append_right _ h)))
theorem inX1 : ∀ w ∈ wsX10, w ∈ lw_tbl := fun w h => wsL_law_in w (inlX1 w h)
theorem inlX2 : ∀ w ∈ wsX20, w ∈ wsL_law := fun _ h => List.mem_append_left _ (List.mem_append_right _ h)
theorem inX2 : ∀ w ∈ wsX20, w ∈ lw_tbl := fun w h => wsL_law_in w (inlX2 w h)
theorem inlX3 : ∀ w ∈ wsX30, w ∈ wsL_law := fun _ h => List.mem_append_left _ (List.mem_append_left _ (List.mem_append_left _ (List.mem_append_left _ (List.mem_append_left _ (List.mem_append_right _ h)))))
theorem inX3 : ∀ w ∈ wsX30, w ∈ lw_tbl := fun w h => wsL_law_in w (inlX3 w h)
theorem inlX4 : ∀ w ∈ wsX40, w ∈ wsL_law := fun _ h => List.mem_append_left _ (List.mem_append_left _ (List.mem_append_right _ h))
theorem inX4 : ∀ w ∈ wsX40, w ∈ lw_tbl := fun w h => wsL_law_in w (inlX4 w h)
theorem inlX5 : ∀ w ∈ wsX50, w ∈ wsL_law := fun _ h => List.mem_append_left _ (List.mem_append_left _ (List.mem_append_left _ (List.mem_append_left _ (List.mem_append_left _ (List.mem_append_left _ (List.mem_append_left _ (List.mem_append_right _ h)))))))
theorem inX5 : ∀ w ∈ wsX50, w ∈ lw_tbl := fun w h => wsL_law_in w (inlX5 w h)
theorem inlX6 : ∀ w ∈ wsX60, w ∈ wsL_law := fun _ h => List.mem_append_left _ (List.mem_append_left _ (List.mem_append_left _ (List.mem_append_left _ (List.mem_append_left _ (List.mem_append_left _ (List.mem_append_right _ h))))))
theorem inX6 : ∀ w ∈ wsX60, w ∈ lw_tbl := fun w h => wsL_law_in w (inlX6 w h)
theorem inJ6 : ∀ w ∈ wsJ60, w ∈ lw_tbl := by decide +kernel
theorem inJ9 : ∀ w ∈ wsJ90, w ∈ lw_tbl := by decide +kernel
