/-! the law's words among the tables, by their places -/
theorem in_places {big ws : List Cond} (ps : List Nat) (hp : ws = ps.filterMap (fun i => big[i]?)) : ∀ w ∈ ws, w ∈ big := by
  intro w hw
  rw [hp] at hw
  obtain ⟨i, -, hi⟩ := List.mem_filterMap.mp hw
  exact List.mem_of_getElem? hi
theorem in_app {big a b : List Cond} (ha : ∀ w ∈ a, w ∈ big) (hb : ∀ w ∈ b, w ∈ big) : ∀ w ∈ a ++ b, w ∈ big := fun w h => (List.mem_append.mp h).elim (ha w) (hb w)
set_option maxRecDepth 20000 in
theorem inwsL_law_r1 : ∀ w ∈ wsL_law_r1, w ∈ lw_tbl := in_places [42, 43, 37, 429, 430, 39, 44, 45, 46, 47, 48, 49, 50, 69, 52, 38, 70, 71, 72, 73, 74, 75, 76, 53] (by decide +kernel)
set_option maxRecDepth 20000 in
theorem inwsL_law_r2 : ∀ w ∈ wsL_law_r2, w ∈ lw_tbl := in_places [54, 55, 56, 68, 57, 58, 59, 431, 432, 433, 434, 435, 436, 437, 438, 439, 440, 443, 446, 447, 94, 95, 96, 97] (by decide +kernel)
set_option maxRecDepth 20000 in
theorem inwsL_law_r3 : ∀ w ∈ wsL_law_r3, w ∈ lw_tbl := in_places [98, 100, 0, 101, 102, 103, 104, 105, 106, 107, 108, 109, 110, 111, 112, 475, 476, 477, 478, 479, 480, 481, 482, 483] (by decide +kernel)
set_option maxRecDepth 20000 in
theorem inwsL_law_r4 : ∀ w ∈ wsL_law_r4, w ∈ lw_tbl := in_places [484, 485, 486, 487, 113, 114, 115, 116, 117, 118, 119, 120, 121, 488, 489, 490, 491, 492, 494, 19, 495, 122, 123, 124] (by decide +kernel)
set_option maxRecDepth 20000 in
theorem inwsL_law_r5 : ∀ w ∈ wsL_law_r5, w ∈ lw_tbl := in_places [125, 496, 497, 498, 499, 126, 127, 128, 129, 130, 131, 132, 133, 134, 135, 136, 137, 138, 139, 140, 500, 501, 502, 503] (by decide +kernel)
set_option maxRecDepth 20000 in
theorem inwsL_law_r6 : ∀ w ∈ wsL_law_r6, w ∈ lw_tbl := in_places [504, 506, 20, 507, 508, 510, 21, 511, 141, 142, 143, 144, 145, 146, 147, 148, 149, 150, 151, 152, 153, 154, 155, 512] (by decide +kernel)
set_option maxRecDepth 20000 in
theorem inwsL_law_r7 : ∀ w ∈ wsL_law_r7, w ∈ lw_tbl := in_places [513, 514, 515, 445, 516, 518, 22, 519, 520, 522, 23, 523, 156, 157, 158, 159, 160, 165, 161, 162, 163, 164, 166, 167] (by decide +kernel)
set_option maxRecDepth 20000 in
theorem inwsL_law_r8 : ∀ w ∈ wsL_law_r8, w ∈ lw_tbl := in_places [168, 169, 170, 171, 172, 173, 524, 525, 526, 527, 528, 537, 529, 531, 24, 532, 533, 535, 25, 536, 174, 175, 176, 177] (by decide +kernel)
set_option maxRecDepth 20000 in
theorem inwsL_law_r9 : ∀ w ∈ wsL_law_r9, w ∈ lw_tbl := in_places [178, 179, 180, 181, 182, 183, 184, 185, 186, 188, 1, 189, 190, 192, 2, 193, 194, 196, 3, 197, 198, 200, 4, 201] (by decide +kernel)
set_option maxRecDepth 20000 in
theorem inwsL_law_r10 : ∀ w ∈ wsL_law_r10, w ∈ lw_tbl := in_places [202, 203, 204, 205, 206, 40, 207, 208, 209, 210, 211, 213, 5, 214, 215, 216, 217, 538, 539, 540, 541, 542, 544, 26] (by decide +kernel)
set_option maxRecDepth 20000 in
theorem inwsL_law_r11 : ∀ w ∈ wsL_law_r11, w ∈ lw_tbl := in_places [545, 546, 548, 27, 549, 550, 552, 28, 553, 554, 555, 556, 557, 558, 559, 218, 219, 220, 221, 222, 223, 224, 225, 226] (by decide +kernel)
set_option maxRecDepth 20000 in
theorem inwsL_law_r12 : ∀ w ∈ wsL_law_r12, w ∈ lw_tbl := in_places [227, 228, 229, 560, 561, 562, 563, 564, 566, 29, 567, 230, 231, 232, 233, 234, 235, 236, 568, 569, 570, 571, 237, 238] (by decide +kernel)
set_option maxRecDepth 20000 in
theorem inwsL_law_r13 : ∀ w ∈ wsL_law_r13, w ∈ lw_tbl := in_places [239, 240, 244, 263, 241, 242, 243, 245, 247, 6, 248, 249, 250, 251, 252, 253, 254, 255, 256, 257, 258, 259, 260, 261] (by decide +kernel)
set_option maxRecDepth 20000 in
theorem inwsL_law_r14 : ∀ w ∈ wsL_law_r14, w ∈ lw_tbl := in_places [262, 264, 265, 266, 267, 268, 269, 270, 271, 272, 273, 274, 275, 572, 573, 574, 575, 579, 588, 576, 577, 578, 580, 582] (by decide +kernel)
set_option maxRecDepth 20000 in
theorem inwsL_law_r15 : ∀ w ∈ wsL_law_r15, w ∈ lw_tbl := in_places [30, 583, 584, 586, 31, 587, 589, 590, 591, 592, 593, 594, 276, 277, 278, 279, 595, 596, 597, 598, 280, 281, 282, 283] (by decide +kernel)
set_option maxRecDepth 20000 in
theorem inwsL_law_r16 : ∀ w ∈ wsL_law_r16, w ∈ lw_tbl := in_places [284, 286, 7, 287, 288, 289, 290, 291, 292, 293, 294, 295, 296, 297, 41, 298, 299, 301, 8, 302, 303, 599, 600, 601] (by decide +kernel)
set_option maxRecDepth 20000 in
theorem inwsL_law_r17 : ∀ w ∈ wsL_law_r17, w ∈ lw_tbl := in_places [602, 603, 605, 32, 606, 607, 609, 33, 610, 304, 305, 306, 307, 308, 310, 9, 311, 312, 313, 315, 10, 316, 317, 318] (by decide +kernel)
set_option maxRecDepth 20000 in
theorem inwsL_law_r18 : ∀ w ∈ wsL_law_r18, w ∈ lw_tbl := in_places [319, 320, 321, 323, 11, 324, 611, 612, 613, 614, 615, 616, 618, 34, 619, 620, 621, 622, 623, 325, 326, 327, 328, 329] (by decide +kernel)
set_option maxRecDepth 20000 in
theorem inwsL_law_r19 : ∀ w ∈ wsL_law_r19, w ∈ lw_tbl := in_places [331, 12, 332, 333, 334, 624, 625, 626, 627, 628, 629, 335, 336, 337, 338, 630, 631, 632, 633, 339, 340, 341, 342, 634] (by decide +kernel)
set_option maxRecDepth 20000 in
theorem inwsL_law_r20 : ∀ w ∈ wsL_law_r20, w ∈ lw_tbl := in_places [635, 636, 637, 441, 442, 444, 343, 344, 345, 346, 347, 348, 350, 13, 351, 638, 639, 640, 641, 642, 352, 353, 354, 355] (by decide +kernel)
set_option maxRecDepth 20000 in
theorem inwsL_law_r21 : ∀ w ∈ wsL_law_r21, w ∈ lw_tbl := in_places [356, 358, 14, 359, 360, 362, 15, 363, 643, 644, 645, 646, 647, 649, 35, 650, 364, 365, 366, 367, 651, 652, 653, 654] (by decide +kernel)
set_option maxRecDepth 20000 in
theorem inwsL_law_r22 : ∀ w ∈ wsL_law_r22, w ∈ lw_tbl := in_places [368, 369, 370, 371, 655, 656, 657, 658, 372, 373, 374, 375, 376, 377, 378, 379, 380, 381, 382, 383, 384, 385, 386, 659] (by decide +kernel)
set_option maxRecDepth 20000 in
theorem inwsL_law_r23 : ∀ w ∈ wsL_law_r23, w ∈ lw_tbl := in_places [660, 661, 662, 663, 664, 665, 666, 667, 668, 669, 387, 388, 389, 390, 670, 671, 672, 673, 391, 392, 393, 394, 395, 396] (by decide +kernel)
set_option maxRecDepth 20000 in
theorem inwsL_law_r24 : ∀ w ∈ wsL_law_r24, w ∈ lw_tbl := in_places [397, 398, 399, 400, 674, 675, 676, 677, 401, 402, 403, 404, 405, 406, 407, 408, 409, 411, 16, 412, 413, 414, 415, 416] (by decide +kernel)
set_option maxRecDepth 20000 in
theorem inwsL_law_r25 : ∀ w ∈ wsL_law_r25, w ∈ lw_tbl := in_places [417, 419, 17, 420, 421, 423, 18, 424, 425, 426, 427, 428, 678, 679, 680, 681] (by decide +kernel)
set_option maxRecDepth 20000 in
theorem inX0 : ∀ w ∈ wsX00, w ∈ lw_tbl := in_places [61, 63, 65] (by decide +kernel)
set_option maxRecDepth 20000 in
theorem inX1 : ∀ w ∈ wsX10, w ∈ lw_tbl := in_places [77, 79, 81, 83, 85, 87, 89, 91] (by decide +kernel)
set_option maxRecDepth 20000 in
theorem inX2 : ∀ w ∈ wsX20, w ∈ lw_tbl := in_places [448, 450, 452, 454, 456, 458, 460, 462, 464, 466, 468, 470, 472] (by decide +kernel)
theorem wsL_law_in : ∀ w ∈ wsL_law, w ∈ lw_tbl := in_app (in_app (in_app (in_app (in_app inwsL_law_r1 (in_app inwsL_law_r2 (in_app inwsL_law_r3 (in_app inwsL_law_r4 (in_app inwsL_law_r5 (in_app inwsL_law_r6 (in_app inwsL_law_r7 (in_app inwsL_law_r8 (in_app inwsL_law_r9 (in_app inwsL_law_r10 (in_app inwsL_law_r11 (in_app inwsL_law_r12 (in_app inwsL_law_r13 (in_app inwsL_law_r14 (in_app inwsL_law_r15 (in_app inwsL_law_r16 (in_app inwsL_law_r17 (in_app inwsL_law_r18 (in_app inwsL_law_r19 (in_app inwsL_law_r20 (in_app inwsL_law_r21 (in_app inwsL_law_r22 (in_app inwsL_law_r23 (in_app inwsL_law_r24 inwsL_law_r25)))))))))))))))))))))))) inX1) inX2) inX0) (fun _ h => absurd h List.not_mem_nil)
