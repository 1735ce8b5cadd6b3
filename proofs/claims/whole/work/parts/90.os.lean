/-! what holds of the machine beside class and reference, at the law's start -/
def oFL : List Cond := flatC (Jvm.Cond.and given_1 narrow_1)
/-- what the Statement tells of a String constant -/
def oSw (q : String × Nat × String) : List Cond := .exactly (.string q.1 q.2.1) "java/lang/String" :: .eq (.field (.string q.1 q.2.1) "java/lang/String" "coder" "B") (.int 0) :: .arrayOf (.field (.string q.1 q.2.1) "java/lang/String" "value" "[B") .byte :: .eq (.length (.field (.string q.1 q.2.1) "java/lang/String" "value" "[B")) (.int (Int32.ofNat q.2.2.toList.length)) :: (List.range q.2.2.toList.length).map (fun j => .eq (.elem (.field (.string q.1 q.2.1) "java/lang/String" "value" "[B") (.int (Int32.ofNat j))) (.int (zch q.2.2 j)))
theorem oflat (ws : List Cond) (pl : List Nat) (hp : ws = pl.filterMap (fun i => oFL[i]?)) : ∀ w ∈ ws, w ∈ oFL := by
  intro w hw
  rw [hp] at hw
  obtain ⟨i, -, hi⟩ := List.mem_filterMap.mp hw
  exact List.mem_of_getElem? hi
def zKn : List (String × Nat × String) := zKm.map (fun q => (RX13, q.1, q.2))
set_option maxRecDepth 100000 in
set_option maxHeartbeats 4000000 in
theorem okt_fl : ∀ w ∈ okt.flatMap oSw, w ∈ oFL := oflat _ [29, 30, 31, 32, 33, 34, 35, 36, 37, 38, 39, 40, 41, 42, 43, 44, 45, 46, 47, 48, 49, 50, 51, 52, 53, 54, 55, 56, 57, 58, 59, 60, 61, 62, 63, 64, 65, 66, 67, 68, 69, 70, 71, 72, 73, 74, 75, 76, 77, 78, 79, 80, 81, 82, 83, 84, 85, 86, 87, 88, 89, 90, 91, 92, 93, 94, 95, 96, 97, 98, 99, 100, 101, 102, 103, 104, 105, 106, 107, 108, 109, 110, 111, 112, 113, 114, 115, 116, 117, 118, 119, 120, 121, 122, 123, 124, 125, 126, 127, 128, 129, 130, 131, 132, 133, 134, 135, 136, 137, 138, 139, 140, 141, 142, 143, 144, 145, 146, 147, 148, 149, 150, 151, 152, 153, 154, 155, 156, 157, 158, 159, 160, 161, 162, 163, 164, 165, 166, 167, 168, 169, 170, 171, 172, 173, 174, 175, 176, 177, 178, 179, 180, 182, 183, 184, 185, 195, 196, 197, 198, 199, 200, 201, 202, 203, 204, 205, 206, 207, 208, 209, 210, 211, 212, 213, 214, 215, 216, 217, 218, 219, 220, 221, 222, 223, 224, 225, 226, 227, 228, 229, 230, 231, 232, 233, 234, 235, 236, 237, 238, 239, 244, 245, 246, 247, 248, 249, 250, 251, 252, 253, 254, 255, 256, 257, 258, 259, 260, 261, 262, 263, 264, 265, 266, 267, 268, 269, 270, 271, 272, 273, 274, 275, 276, 277, 278, 279, 280, 281] (by decide +kernel)
set_option maxRecDepth 100000 in
theorem okt_sr : ∀ w ∈ okt.map (fun q => Cond.stringRef q.1 q.2.1 q.2.2), w ∈ lw_tbl := zmem _ [(2, 27), (2, 148), (2, 216), (3, 142), (3, 195), (8, 4), (8, 5), (8, 10), (8, 11), (8, 16), (8, 17), (8, 18), (8, 19), (8, 20), (8, 21), (8, 22), (8, 23)] (by decide +kernel)
set_option maxRecDepth 100000 in
set_option maxHeartbeats 4000000 in
theorem zKn_fl : ∀ w ∈ zKn.flatMap oSw, w ∈ oFL := oflat _ [282, 283, 284, 285, 286, 287, 288, 289, 290, 291, 292, 293, 294, 295, 296, 297, 298, 299, 300, 301, 302, 303, 304, 305, 306, 307, 308, 309, 310, 311, 312, 313, 314, 315, 316, 317, 318, 319, 320, 321, 322, 323, 324, 325, 326, 327, 328, 329, 330, 331, 332, 333, 334, 335, 336, 337, 338, 339, 340, 341, 342, 343, 344, 345, 346, 347, 348, 349, 350, 351, 352, 353, 354, 355, 356, 357, 358, 359, 360, 361, 362, 363, 364, 365, 366, 367, 368, 369, 370, 371, 372, 373, 374, 375, 376, 377, 378, 379, 380, 381, 382, 383, 384, 385, 386, 387, 388, 389, 390, 391, 392, 393, 394, 395, 396, 397, 398, 399, 400, 401, 402, 403, 404, 405, 407, 408, 409, 410, 411, 412, 413, 414, 415, 416, 417, 418, 419, 420, 421, 422, 423, 425, 426, 427, 428, 429, 430, 431, 432, 434, 435, 436, 437, 438, 439, 440, 442, 443, 444, 445, 446, 447, 448, 449, 450, 451, 452, 453, 454, 455, 456, 457, 458, 459, 460, 461, 462, 463, 464, 465, 466, 467, 469, 470, 471, 472, 473, 474, 475, 476, 477, 478, 479, 481, 482, 483, 484, 485, 486, 487, 488, 489, 490, 491, 492, 493, 494, 495, 496, 497, 498, 499, 500, 501, 502, 503, 504, 505, 506, 507, 508, 509, 510, 511, 512, 513, 514, 515, 516, 517, 518, 519, 520, 521, 522, 524, 525, 526, 527, 528, 529, 530, 531, 532, 533, 534, 535, 536, 537, 538, 539, 540, 541, 542, 543, 544, 545, 546, 547, 548, 549, 550, 551, 552, 553, 554, 555, 556, 558, 559, 560, 561, 562, 563, 564, 565, 566, 567, 568, 569, 570, 571, 572, 573, 574, 575, 576, 577, 578, 579, 580, 581, 582, 583, 584, 585, 586, 587, 588, 589, 590, 591, 592, 593, 594, 595, 596, 597, 598, 599, 600, 601, 602, 603, 604, 605, 606, 607, 608, 609, 610, 611, 612, 613, 614, 615, 616, 617, 618, 619, 620, 621, 622, 623, 624, 625, 626, 627, 628, 629, 630, 631, 632, 633, 634, 635, 636, 637, 638, 639, 640, 641, 642, 643, 644, 645, 646, 647, 648, 649, 650, 651, 652, 653, 654, 655, 656, 657, 658, 659, 660, 661, 662, 663, 664, 665, 666, 667, 668, 669, 670, 671, 672, 673, 674, 675, 676, 677, 678, 679, 680, 681, 682, 683, 684, 685, 686, 687, 688, 689, 690, 691, 692, 693, 694, 695, 696, 697, 698, 699, 700, 701, 702, 703, 704, 705, 706, 707, 708, 709, 710, 711, 712, 713, 714, 715, 716, 717, 718, 719, 720, 721, 722, 723, 724, 725, 727, 728, 729, 730, 731, 732, 733, 734] (by decide +kernel)
set_option maxRecDepth 100000 in
theorem zKn_sr : ∀ w ∈ zKn.map (fun q => Cond.stringRef q.1 q.2.1 q.2.2), w ∈ lw_tbl := zmem _ [(11, 87), (11, 94), (11, 107), (11, 108), (11, 109), (11, 110), (11, 119), (11, 124), (11, 125), (11, 126), (11, 127), (11, 128), (11, 129), (11, 130), (11, 131), (11, 132), (11, 141), (11, 142), (11, 147), (11, 152), (11, 153), (11, 162), (11, 163), (11, 164), (11, 165), (11, 178), (11, 179), (11, 180), (11, 181), (11, 182), (11, 191), (11, 192), (11, 193), (11, 194), (11, 195), (11, 196), (11, 197), (11, 198), (11, 199), (11, 200), (11, 201), (11, 202), (11, 203), (11, 204), (11, 209), (11, 222), (11, 223), (13, 96), (13, 97)] (by decide +kernel)
/-- a String constant at the law's start -/
theorem oS1 {b : Nat} {s : State} (q : String × Nat × String) (hlen : q.2.2.toList.length < 2 ^ 31) (hw : ∀ w ∈ oSw q, w.before #[Value.ref b] s = true) (h1 : (Cond.stringRef q.1 q.2.1 q.2.2).before #[Value.ref b] s = true) : ∃ k v : Nat, vk_R q.1 q.2.1 q.2.2 k s ∧ va_O "java/lang/String" k (fun x => s.heap.size ≤ x) s s.heap ∧ va_OF "java/lang/String" "coder" "B" (.int 0) k (fun x => s.heap.size ≤ x) s s.heap ∧ va_OF "java/lang/String" "value" "[B" (.ref v) k (fun x => s.heap.size ≤ x) s s.heap ∧ va_T .byte v q.2.2.toList.length (fun j => .int (zch q.2.2 j)) (fun x => s.heap.size ≤ x) s s.heap := by
  have hA : ∀ a : Nat, a < s.heap.size → ¬ (fun q : Nat => s.heap.size ≤ q) a := fun a h q => absurd h (Nat.not_lt.mpr q)
  have hcur : ∃ cur, s.vm.findClass q.1 = some cur := by
    have h2 := h1
    simp only [Cond.before, Cond.holds, Cond.value] at h2
    cases hc : s.vm.findClass q.1 with
    | none => simp [hc] at h2
    | some cur => exact ⟨cur, rfl⟩
  obtain ⟨cO, hfc⟩ := hcur
  obtain ⟨k, cf, i, k0, -, -, -, -, -, hev⟩ := Cond.stringRef_spec hfc h1
  have hev : (Term.string q.1 q.2.1).eval #[Value.ref b] s none [] s = some (.ref k0) := hev
  obtain ⟨a, c, cA, kA, q1, q2, q3, q4, q5, q6, -⟩ := Cond.exactly_spec (args := #[Value.ref b]) (first := s) (o := none) (s := s) (idx := []) (t := .string q.1 q.2.1) (cls := "java/lang/String") (hw _ List.mem_cons_self)
  cases hev.symm.trans q1
  have hco := hw (.eq (.field (.string q.1 q.2.1) "java/lang/String" "coder" "B") (.int 0)) (List.mem_cons_of_mem _ List.mem_cons_self)
  have har := hw (.arrayOf (.field (.string q.1 q.2.1) "java/lang/String" "value" "[B") .byte) (List.mem_cons_of_mem _ (List.mem_cons_of_mem _ List.mem_cons_self))
  have hle := hw (.eq (.length (.field (.string q.1 q.2.1) "java/lang/String" "value" "[B")) (.int (Int32.ofNat q.2.2.toList.length))) (List.mem_cons_of_mem _ (List.mem_cons_of_mem _ (List.mem_cons_of_mem _ List.mem_cons_self)))
  obtain ⟨v, hv, hT⟩ := va_Tof (N := q.2.2.toList.length) (f := fun j => .int (zch q.2.2 j)) (A := fun q : Nat => s.heap.size ≤ q) hlen har (va_eqt hle) (fun j hj => va_eqt (hw _ (List.mem_cons_of_mem _ (List.mem_cons_of_mem _ (List.mem_cons_of_mem _ (List.mem_cons_of_mem _ (List.mem_map.mpr ⟨j, List.mem_range.mpr hj, rfl⟩))))))) hA
  exact ⟨k0, v, vk_R.of h1 hev, ⟨cA, q3, q5, by rw [q6]; exact q2, hA _ (Array.getElem?_eq_some_iff.mp q3).1⟩, vk_OFof hev (va_eqt hco) hA, vk_OFof hev hv hA, hT⟩
theorem okt_len : ∀ q ∈ okt, q.2.2.toList.length < 1000 := by decide +kernel
theorem zKn_len : ∀ q ∈ zKn, q.2.2.toList.length < 1000 := by decide +kernel
theorem oS_fm {b : Nat} {s : State} (hts : ∀ w ∈ lw_tbl, w.before #[Value.ref b] s = true) (hgv : (Jvm.Cond.and given_1 narrow_1).before #[Value.ref b] s = true) : va_Zq "jdk/internal/util/Preconditions" "SIOOBE_FORMATTER" "Ljava/util/function/BiFunction;" (fun x => s.heap.size ≤ x) s s.heap := by
  have hA : ∀ a : Nat, a < s.heap.size → ¬ (fun q : Nat => s.heap.size ≤ q) a := fun a h q => absurd h (Nat.not_lt.mpr q)
  exact va_Zqof (hts (.laysStatic "jdk/internal/util/Preconditions" "SIOOBE_FORMATTER" "Ljava/util/function/BiFunction;") (zw_in 2 71 rfl)) (hts (.initialized "jdk/internal/util/Preconditions") (zw_in 1 12 rfl)) (flat_of_before _ hgv (.isRef (.static "jdk/internal/util/Preconditions" "SIOOBE_FORMATTER" "Ljava/util/function/BiFunction;")) (List.mem_of_getElem? (i := 12) rfl)) hA
theorem oS_cs {b : Nat} {s : State} (hts : ∀ w ∈ lw_tbl, w.before #[Value.ref b] s = true) (hgv : (Jvm.Cond.and given_1 narrow_1).before #[Value.ref b] s = true) : va_Z "java/lang/String" "COMPACT_STRINGS" "Z" (.int 1) (fun x => s.heap.size ≤ x) s s.heap := by
  have hA : ∀ a : Nat, a < s.heap.size → ¬ (fun q : Nat => s.heap.size ≤ q) a := fun a h q => absurd h (Nat.not_lt.mpr q)
  exact va_Zof (hts (.laysStatic "java/lang/String" "COMPACT_STRINGS" "Z") (zw_in 2 29 rfl)) (hts (.initialized "java/lang/String") (zw_in 1 10 rfl)) (va_eqi (flat_of_before _ hgv (.eq (.static "java/lang/String" "COMPACT_STRINGS" "Z") (.int 1)) (List.mem_of_getElem? (i := 8) rfl))) hA
theorem ocast_in : ∀ w ∈ ([0, 2, 3, 4, 5, 6, 7, 8, 9, 10, 11, 12, 13, 14] : List Nat).map (fun ci => Cond.castable (oq ci).1 "java/lang/Object"), w ∈ lw_tbl := zmem _ [(13, 205), (13, 211), (13, 200), (13, 212), (13, 202), (13, 207), (13, 208), (13, 201), (13, 206), (13, 213), (13, 209), (13, 210), (13, 204), (13, 199)] rfl
theorem oCI14 : ∀ ci, ci < 15 → ci ≠ 1 → ci ∈ ([0, 2, 3, 4, 5, 6, 7, 8, 9, 10, 11, 12, 13, 14] : List Nat) := by decide
theorem zKm_one : ∀ q ∈ zKm, ∀ q2 ∈ zKm, q.1 = q2.1 → q = q2 := by decide +kernel
/-- what holds of the machine beside the class, at the law's start -/
theorem oEv_start {b : Nat} {s : State} (hts : ∀ w ∈ lw_tbl, w.before #[Value.ref b] s = true) (hgv : (Jvm.Cond.and given_1 narrow_1).before #[Value.ref b] s = true) : ∃ κ : oKv, oEv κ s.heap.size s := by
  obtain ⟨e0, hE, hT0⟩ := zE_start hts hgv
  have hfl := flat_of_before _ hgv
  have hK : ∀ i : Nat, ∃ p : Nat × Nat, ∀ q, okt[i]? = some q → vk_R q.1 q.2.1 q.2.2 p.1 s ∧ va_O "java/lang/String" p.1 (fun x => s.heap.size ≤ x) s s.heap ∧ va_OF "java/lang/String" "coder" "B" (.int 0) p.1 (fun x => s.heap.size ≤ x) s s.heap ∧ va_OF "java/lang/String" "value" "[B" (.ref p.2) p.1 (fun x => s.heap.size ≤ x) s s.heap ∧ va_T .byte p.2 q.2.2.toList.length (fun j => .int (zch q.2.2 j)) (fun x => s.heap.size ≤ x) s s.heap := by
    intro i
    cases h : okt[i]? with
    | none => exact ⟨(0, 0), fun q hq => by cases hq⟩
    | some q =>
      have hm := List.mem_of_getElem? h
      obtain ⟨k, v, hk⟩ := oS1 (b := b) (s := s) q (Nat.lt_trans (okt_len q hm) (by decide)) (fun w hw => hfl w (okt_fl w (List.mem_flatMap.mpr ⟨q, hm, hw⟩))) (hts _ (okt_sr _ (List.mem_map.mpr ⟨q, hm, rfl⟩)))
      exact ⟨(k, v), fun q' hq' => by cases hq'; exact hk⟩
  obtain ⟨ad, had⟩ := Classical.axiomOfChoice hK
  obtain ⟨mo, hmo⟩ := va_Mi.of (hfl (.isRef (.mirror "[Ljava/lang/Object;")) (List.mem_of_getElem? (i := 28) rfl))
  have hdc := va_Dc.of (hts (.declares ⟨"java/lang/Object", "getClass", "()Ljava/lang/Class;"⟩) (zw_in 13 198 rfl))
  have hfm : ∃ fm : Option Nat, va_Z "jdk/internal/util/Preconditions" "SIOOBE_FORMATTER" "Ljava/util/function/BiFunction;" (va_rf fm) (fun x => s.heap.size ≤ x) s s.heap := by
    rcases oS_fm hts hgv with h | ⟨t, h⟩
    · exact ⟨none, h⟩
    · exact ⟨some t, h⟩
  obtain ⟨fm, hfm⟩ := hfm
  refine ⟨(fun i => (ad i).1, fun i => (ad i).2, e0, mo, fm), hE.1, fun i q hq => had i q hq, oS_cs hts hgv, hE.2, hT0, hfm, fun ci hci hc1 => va_Nw.of rfl (hts _ (ocast_in _ (List.mem_map.mpr ⟨ci, oCI14 ci hci hc1, rfl⟩))), hmo, hdc⟩
/-- what holds of the machine beside the reference, at the law's start -/
theorem zKe_start {b : Nat} {s : State} (hts : ∀ w ∈ lw_tbl, w.before #[Value.ref b] s = true) (hgv : (Jvm.Cond.and given_1 narrow_1).before #[Value.ref b] s = true) : ∃ ks : Nat → Nat, zKe ks s.heap.size s := by
  have hfl := flat_of_before _ hgv
  have hK : ∀ i : Nat, ∃ k : Nat, ∀ q ∈ zKm, q.1 = i → vk_R RX13 q.1 q.2 k s ∧ ∃ vb : Nat, va_O "java/lang/String" k (fun x => s.heap.size ≤ x) s s.heap ∧ va_OF "java/lang/String" "coder" "B" (.int 0) k (fun x => s.heap.size ≤ x) s s.heap ∧ va_OF "java/lang/String" "value" "[B" (.ref vb) k (fun x => s.heap.size ≤ x) s s.heap ∧ va_T .byte vb q.2.toList.length (fun j => .int (zch q.2 j)) (fun x => s.heap.size ≤ x) s s.heap := by
    intro i
    by_cases h : ∃ q ∈ zKm, q.1 = i
    · obtain ⟨q, hq, hqi⟩ := h
      have hm : (RX13, q.1, q.2) ∈ zKn := List.mem_map.mpr ⟨q, hq, rfl⟩
      obtain ⟨k, v, h1, h2, h3, h4, h5⟩ := oS1 (b := b) (s := s) (RX13, q.1, q.2) (Nat.lt_trans (zKn_len _ hm) (by decide)) (fun w hw => hfl w (zKn_fl w (List.mem_flatMap.mpr ⟨_, hm, hw⟩))) (hts _ (zKn_sr _ (List.mem_map.mpr ⟨_, hm, rfl⟩)))
      refine ⟨k, fun q' hq' he => ?_⟩
      have e2 : q' = q := zKm_one q' hq' q hq (he.trans hqi.symm)
      subst e2
      exact ⟨h1, v, h2, h3, h4, h5⟩
    · exact ⟨0, fun q hq he => absurd ⟨q, hq, he⟩ h⟩
  obtain ⟨ks, hks⟩ := Classical.axiomOfChoice hK
  exact ⟨ks, fun q hq => (hks q.1 q hq rfl).1, fun q hq => (hks q.1 q hq rfl).2, oS_cs hts hgv, oS_fm hts hgv⟩
