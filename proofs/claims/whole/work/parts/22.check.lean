/-! the checks of each method -/
def mq_tyf : Nat → Nat → FieldType := fun ci k => match ci with
  | 0 => tyX0 k
  | 1 => tyX1 k
  | 2 => tyX2 k
  | 3 => tyX3 k
  | 4 => tyX6 k
  | 5 => tyX7 k
  | 6 => tyX8 k
  | 7 => tyX9 k
  | 8 => tyX10 k
  | _ => .int
set_option maxRecDepth 100000 in
theorem mq_ok_X0_settle : mz_okI mq_LK vwCl mq_tyf mq_tab mq_X0_settle (239, 240, 241, 242) = true := by decide +kernel
set_option maxRecDepth 100000 in
theorem mq_ok_X0_fills : mz_okI mq_LK vwCl mq_tyf mq_tab mq_X0_fills (243, 240, 244, 245) = true := by decide +kernel
set_option maxRecDepth 100000 in
theorem mq_ok_X0_multiplied : mz_okI mq_LK vwCl mq_tyf mq_tab mq_X0_multiplied (246, 240, 247, 248) = true := by decide +kernel
set_option maxRecDepth 100000 in
theorem mq_ok_X0_times : mz_okI mq_LK vwCl mq_tyf mq_tab mq_X0_times (249, 240, 250, 251) = true := by decide +kernel
set_option maxRecDepth 100000 in
theorem mq_ok_X0_turned : mz_okI mq_LK vwCl mq_tyf mq_tab mq_X0_turned (252, 240, 253, 254) = true := by decide +kernel
set_option maxRecDepth 100000 in
theorem mq_ok_X0_raised : mz_okI mq_LK vwCl mq_tyf mq_tab mq_X0_raised (255, 240, 256, 257) = true := by decide +kernel
set_option maxRecDepth 100000 in
theorem mq_ok_X0_squared : mz_okI mq_LK vwCl mq_tyf mq_tab mq_X0_squared (258, 240, 259, 260) = true := by decide +kernel
set_option maxRecDepth 100000 in
theorem mq_ok_X0_orderOf : mz_okI mq_LK vwCl mq_tyf mq_tab mq_X0_orderOf (261, 240, 262, 263) = true := by decide +kernel
set_option maxRecDepth 100000 in
theorem mq_ok_X0_generates : mz_okI mq_LK vwCl mq_tyf mq_tab mq_X0_generates (264, 240, 265, 266) = true := by decide +kernel
set_option maxRecDepth 100000 in
theorem mq_ok_X0_howManyOfOrder : mz_okI mq_LK vwCl mq_tyf mq_tab mq_X0_howManyOfOrder (267, 240, 268, 269) = true := by decide +kernel
set_option maxRecDepth 100000 in
theorem mq_ok_X0_sizeOf : mz_okI mq_LK vwCl mq_tyf mq_tab mq_X0_sizeOf (270, 240, 271, 272) = true := by decide +kernel
set_option maxRecDepth 100000 in
theorem mq_ok_X0_hasSubfield : mz_okI mq_LK vwCl mq_tyf mq_tab mq_X0_hasSubfield (273, 240, 274, 275) = true := by decide +kernel
set_option maxRecDepth 100000 in
theorem mq_ok_X0_tracedTo : mz_okI mq_LK vwCl mq_tyf mq_tab mq_X0_tracedTo (276, 240, 277, 278) = true := by decide +kernel
set_option maxRecDepth 100000 in
theorem mq_ok_X0_tracedToOne : mz_okI mq_LK vwCl mq_tyf mq_tab mq_X0_tracedToOne (279, 240, 280, 281) = true := by decide +kernel
set_option maxRecDepth 100000 in
theorem mq_ok_X0_normedTo : mz_okI mq_LK vwCl mq_tyf mq_tab mq_X0_normedTo (282, 240, 283, 284) = true := by decide +kernel
set_option maxRecDepth 100000 in
theorem mq_ok_X0_valueAt : mz_okI mq_LK vwCl mq_tyf mq_tab mq_X0_valueAt (285, 240, 286, 287) = true := by decide +kernel
set_option maxRecDepth 100000 in
theorem mq_ok_X0_fillsPowers : mz_okI mq_LK vwCl mq_tyf mq_tab mq_X0_fillsPowers (288, 240, 289, 290) = true := by decide +kernel
set_option maxRecDepth 100000 in
theorem mq_ok_X0_fillsConjugates : mz_okI mq_LK vwCl mq_tyf mq_tab mq_X0_fillsConjugates (291, 240, 292, 293) = true := by decide +kernel
set_option maxRecDepth 100000 in
theorem mq_ok_X1_empties : mz_okI mq_LK vwCl mq_tyf mq_tab mq_X1_empties (294, 295, 296, 297) = true := by decide +kernel
set_option maxRecDepth 100000 in
theorem mq_ok_X1_takes : mz_okI mq_LK vwCl mq_tyf mq_tab mq_X1_takes (298, 295, 299, 300) = true := by decide +kernel
set_option maxRecDepth 100000 in
theorem mq_ok_X1_holds : mz_okI mq_LK vwCl mq_tyf mq_tab mq_X1_holds (301, 295, 302, 303) = true := by decide +kernel
set_option maxRecDepth 100000 in
theorem mq_ok_X1_located : mz_okI mq_LK vwCl mq_tyf mq_tab mq_X1_located (304, 295, 305, 306) = true := by decide +kernel
set_option maxRecDepth 100000 in
theorem mq_ok_X2_complexityOf : mz_okI mq_LK vwCl mq_tyf mq_tab mq_X2_complexityOf (307, 308, 309, 310) = true := by decide +kernel
set_option maxRecDepth 100000 in
theorem mq_ok_X2_bitsOfFirst : mz_okI mq_LK vwCl mq_tyf mq_tab mq_X2_bitsOfFirst (311, 308, 312, 313) = true := by decide +kernel
set_option maxRecDepth 100000 in
theorem mq_ok_X2_bitsOfAll : mz_okI mq_LK vwCl mq_tyf mq_tab mq_X2_bitsOfAll (314, 308, 315, 316) = true := by decide +kernel
set_option maxRecDepth 100000 in
theorem mq_ok_X2_whoseNormal : mz_okI mq_LK vwCl mq_tyf mq_tab mq_X2_whoseNormal (317, 308, 318, 319) = true := by decide +kernel
set_option maxRecDepth 100000 in
theorem mq_ok_X2_sumAt : mz_okI mq_LK vwCl mq_tyf mq_tab mq_X2_sumAt (320, 308, 321, 322) = true := by decide +kernel
set_option maxRecDepth 100000 in
theorem mq_ok_X2_placeOf : mz_okI mq_LK vwCl mq_tyf mq_tab mq_X2_placeOf (323, 308, 324, 325) = true := by decide +kernel
set_option maxRecDepth 100000 in
theorem mq_ok_X2_leastPolynomial : mz_okI mq_LK vwCl mq_tyf mq_tab mq_X2_leastPolynomial (326, 308, 327, 328) = true := by decide +kernel
set_option maxRecDepth 100000 in
theorem mq_ok_X2_fillsSubbase : mz_okI mq_LK vwCl mq_tyf mq_tab mq_X2_fillsSubbase (329, 308, 330, 331) = true := by decide +kernel
set_option maxRecDepth 100000 in
theorem mq_ok_X2_fillsOverSubbase : mz_okI mq_LK vwCl mq_tyf mq_tab mq_X2_fillsOverSubbase (332, 308, 333, 334) = true := by decide +kernel
set_option maxRecDepth 100000 in
theorem mq_ok_X2_fillsTower : mz_okI mq_LK vwCl mq_tyf mq_tab mq_X2_fillsTower (335, 308, 336, 337) = true := by decide +kernel
set_option maxRecDepth 100000 in
theorem mq_ok_X2_traceBits : mz_okI mq_LK vwCl mq_tyf mq_tab mq_X2_traceBits (338, 308, 339, 340) = true := by decide +kernel
set_option maxRecDepth 100000 in
theorem mq_ok_X2_fillsDual : mz_okI mq_LK vwCl mq_tyf mq_tab mq_X2_fillsDual (341, 308, 342, 343) = true := by decide +kernel
set_option maxRecDepth 100000 in
theorem mq_ok_X2_fillsPlaces : mz_okI mq_LK vwCl mq_tyf mq_tab mq_X2_fillsPlaces (344, 308, 345, 346) = true := by decide +kernel
set_option maxRecDepth 100000 in
theorem mq_ok_X3_remembers : mz_okI mq_LK vwCl mq_tyf mq_tab mq_X3_remembers (347, 348, 349, 350) = true := by decide +kernel
set_option maxRecDepth 100000 in
theorem mq_ok_X3_restores : mz_okI mq_LK vwCl mq_tyf mq_tab mq_X3_restores (351, 348, 352, 353) = true := by decide +kernel
set_option maxRecDepth 100000 in
theorem mq_ok_X4_degreeOf : mz_okI mq_LK vwCl mq_tyf mq_tab mq_X4_degreeOf (354, 355, 356, 0) = true := by decide +kernel
set_option maxRecDepth 100000 in
theorem mq_ok_X4_remainder : mz_okI mq_LK vwCl mq_tyf mq_tab mq_X4_remainder (357, 355, 358, 0) = true := by decide +kernel
set_option maxRecDepth 100000 in
theorem mq_ok_X4_quotient : mz_okI mq_LK vwCl mq_tyf mq_tab mq_X4_quotient (359, 355, 360, 0) = true := by decide +kernel
set_option maxRecDepth 100000 in
theorem mq_ok_X4_isIrreducible : mz_okI mq_LK vwCl mq_tyf mq_tab mq_X4_isIrreducible (361, 355, 362, 0) = true := by decide +kernel
set_option maxRecDepth 100000 in
theorem mq_ok_X4_isGeneratedByX : mz_okI mq_LK vwCl mq_tyf mq_tab mq_X4_isGeneratedByX (363, 355, 364, 0) = true := by decide +kernel
set_option maxRecDepth 100000 in
theorem mq_ok_X5_isPrime : mz_okI mq_LK vwCl mq_tyf mq_tab mq_X5_isPrime (365, 366, 367, 0) = true := by decide +kernel
set_option maxRecDepth 100000 in
theorem mq_ok_X5_powersOfTwo : mz_okI mq_LK vwCl mq_tyf mq_tab mq_X5_powersOfTwo (368, 366, 369, 0) = true := by decide +kernel
set_option maxRecDepth 100000 in
theorem mq_ok_X6_empties : mz_okI mq_LK vwCl mq_tyf mq_tab mq_X6_empties (370, 371, 372, 373) = true := by decide +kernel
set_option maxRecDepth 100000 in
theorem mq_ok_X6_puts : mz_okI mq_LK vwCl mq_tyf mq_tab mq_X6_puts (374, 371, 375, 376) = true := by decide +kernel
set_option maxRecDepth 100000 in
theorem mq_ok_X6_putsAll : mz_okI mq_LK vwCl mq_tyf mq_tab mq_X6_putsAll (377, 371, 378, 379) = true := by decide +kernel
set_option maxRecDepth 100000 in
theorem mq_ok_X7_start : mz_okI mq_LK vwCl mq_tyf mq_tab mq_X7_start (380, 381, 382, 383) = true := by decide +kernel
set_option maxRecDepth 100000 in
theorem mq_ok_X7_becomes : mz_okI mq_LK vwCl mq_tyf mq_tab mq_X7_becomes (384, 381, 385, 386) = true := by decide +kernel
set_option maxRecDepth 100000 in
theorem mq_ok_X7_setsSlot : mz_okI mq_LK vwCl mq_tyf mq_tab mq_X7_setsSlot (387, 381, 388, 389) = true := by decide +kernel
set_option maxRecDepth 100000 in
theorem mq_ok_X7_copiesSlot : mz_okI mq_LK vwCl mq_tyf mq_tab mq_X7_copiesSlot (390, 381, 391, 392) = true := by decide +kernel
set_option maxRecDepth 100000 in
theorem mq_ok_X7_isPlain : mz_okI mq_LK vwCl mq_tyf mq_tab mq_X7_isPlain (393, 381, 394, 395) = true := by decide +kernel
set_option maxRecDepth 100000 in
theorem mq_ok_X8_takes : mz_okI mq_LK vwCl mq_tyf mq_tab mq_X8_takes (396, 397, 398, 399) = true := by decide +kernel
set_option maxRecDepth 100000 in
theorem mq_ok_X8_shortens : mz_okI mq_LK vwCl mq_tyf mq_tab mq_X8_shortens (400, 397, 401, 402) = true := by decide +kernel
set_option maxRecDepth 100000 in
theorem mq_ok_X8_empties : mz_okI mq_LK vwCl mq_tyf mq_tab mq_X8_empties (403, 397, 404, 405) = true := by decide +kernel
set_option maxRecDepth 100000 in
theorem mq_ok_X8_signAt : mz_okI mq_LK vwCl mq_tyf mq_tab mq_X8_signAt (406, 397, 407, 408) = true := by decide +kernel
set_option maxRecDepth 100000 in
theorem mq_ok_X8_polynomialRead : mz_okI mq_LK vwCl mq_tyf mq_tab mq_X8_polynomialRead (409, 397, 410, 411) = true := by decide +kernel
set_option maxRecDepth 100000 in
theorem mq_ok_X8_powerRead : mz_okI mq_LK vwCl mq_tyf mq_tab mq_X8_powerRead (412, 397, 413, 414) = true := by decide +kernel
set_option maxRecDepth 100000 in
theorem mq_ok_X8_elementsRead : mz_okI mq_LK vwCl mq_tyf mq_tab mq_X8_elementsRead (415, 397, 416, 417) = true := by decide +kernel
set_option maxRecDepth 100000 in
theorem mq_ok_X8_numberRead : mz_okI mq_LK vwCl mq_tyf mq_tab mq_X8_numberRead (418, 397, 419, 420) = true := by decide +kernel
set_option maxRecDepth 100000 in
theorem mq_ok_X8_isDigit : mz_okI mq_LK vwCl mq_tyf mq_tab mq_X8_isDigit (421, 397, 422, 0) = true := by decide +kernel
set_option maxRecDepth 100000 in
theorem mq_ok_X8_signOf : mz_okI mq_LK vwCl mq_tyf mq_tab mq_X8_signOf (423, 397, 424, 425) = true := by decide +kernel
set_option maxRecDepth 100000 in
theorem mq_ok_X8_puts : mz_okI mq_LK vwCl mq_tyf mq_tab mq_X8_puts (426, 397, 427, 428) = true := by decide +kernel
set_option maxRecDepth 100000 in
theorem mq_ok_X9_sign : mz_okI mq_LK vwCl mq_tyf mq_tab mq_X9_sign (429, 430, 431, 432) = true := by decide +kernel
set_option maxRecDepth 100000 in
theorem mq_ok_X9_end : mz_okI mq_LK vwCl mq_tyf mq_tab mq_X9_end (433, 430, 434, 435) = true := by decide +kernel
set_option maxRecDepth 100000 in
theorem mq_ok_X9_field : mz_okI mq_LK vwCl mq_tyf mq_tab mq_X9_field (436, 430, 437, 438) = true := by decide +kernel
set_option maxRecDepth 100000 in
theorem mq_ok_X9_poly : mz_okI mq_LK vwCl mq_tyf mq_tab mq_X9_poly (439, 430, 440, 441) = true := by decide +kernel
set_option maxRecDepth 100000 in
theorem mq_ok_X9_product : mz_okI mq_LK vwCl mq_tyf mq_tab mq_X9_product (442, 430, 443, 444) = true := by decide +kernel
set_option maxRecDepth 100000 in
theorem mq_ok_X9_inverse : mz_okI mq_LK vwCl mq_tyf mq_tab mq_X9_inverse (445, 430, 446, 447) = true := by decide +kernel
set_option maxRecDepth 100000 in
theorem mq_ok_X9_power : mz_okI mq_LK vwCl mq_tyf mq_tab mq_X9_power (448, 430, 449, 450) = true := by decide +kernel
set_option maxRecDepth 100000 in
theorem mq_ok_X9_order : mz_okI mq_LK vwCl mq_tyf mq_tab mq_X9_order (451, 430, 452, 453) = true := by decide +kernel
set_option maxRecDepth 100000 in
theorem mq_ok_X9_conjugate : mz_okI mq_LK vwCl mq_tyf mq_tab mq_X9_conjugate (454, 430, 455, 456) = true := by decide +kernel
set_option maxRecDepth 100000 in
theorem mq_ok_X9_conjugates : mz_okI mq_LK vwCl mq_tyf mq_tab mq_X9_conjugates (457, 430, 458, 459) = true := by decide +kernel
set_option maxRecDepth 100000 in
theorem mq_ok_X9_least : mz_okI mq_LK vwCl mq_tyf mq_tab mq_X9_least (460, 430, 461, 462) = true := by decide +kernel
set_option maxRecDepth 100000 in
theorem mq_ok_X9_trace : mz_okI mq_LK vwCl mq_tyf mq_tab mq_X9_trace (463, 430, 464, 465) = true := by decide +kernel
set_option maxRecDepth 100000 in
theorem mq_ok_X9_norm : mz_okI mq_LK vwCl mq_tyf mq_tab mq_X9_norm (466, 430, 467, 468) = true := by decide +kernel
set_option maxRecDepth 100000 in
theorem mq_ok_X9_root : mz_okI mq_LK vwCl mq_tyf mq_tab mq_X9_root (469, 430, 470, 471) = true := by decide +kernel
set_option maxRecDepth 100000 in
theorem mq_ok_X9_solves : mz_okI mq_LK vwCl mq_tyf mq_tab mq_X9_solves (472, 430, 473, 474) = true := by decide +kernel
set_option maxRecDepth 100000 in
theorem mq_ok_X9_log : mz_okI mq_LK vwCl mq_tyf mq_tab mq_X9_log (475, 430, 476, 477) = true := by decide +kernel
set_option maxRecDepth 100000 in
theorem mq_ok_X9_traced : mz_okI mq_LK vwCl mq_tyf mq_tab mq_X9_traced (478, 430, 479, 480) = true := by decide +kernel
set_option maxRecDepth 100000 in
theorem mq_ok_X9_factors : mz_okI mq_LK vwCl mq_tyf mq_tab mq_X9_factors (481, 430, 482, 483) = true := by decide +kernel
set_option maxRecDepth 100000 in
theorem mq_ok_X9_orders : mz_okI mq_LK vwCl mq_tyf mq_tab mq_X9_orders (484, 430, 485, 486) = true := by decide +kernel
set_option maxRecDepth 100000 in
theorem mq_ok_X9_quadratic : mz_okI mq_LK vwCl mq_tyf mq_tab mq_X9_quadratic (487, 430, 488, 489) = true := by decide +kernel
set_option maxRecDepth 100000 in
theorem mq_ok_X9_classes : mz_okI mq_LK vwCl mq_tyf mq_tab mq_X9_classes (490, 430, 491, 492) = true := by decide +kernel
set_option maxRecDepth 100000 in
theorem mq_ok_X9_generators : mz_okI mq_LK vwCl mq_tyf mq_tab mq_X9_generators (493, 430, 494, 495) = true := by decide +kernel
set_option maxRecDepth 100000 in
theorem mq_ok_X9_subfield : mz_okI mq_LK vwCl mq_tyf mq_tab mq_X9_subfield (496, 430, 497, 498) = true := by decide +kernel
set_option maxRecDepth 100000 in
theorem mq_ok_X9_normal : mz_okI mq_LK vwCl mq_tyf mq_tab mq_X9_normal (499, 430, 500, 501) = true := by decide +kernel
set_option maxRecDepth 100000 in
theorem mq_ok_X9_normals : mz_okI mq_LK vwCl mq_tyf mq_tab mq_X9_normals (502, 430, 503, 504) = true := by decide +kernel
set_option maxRecDepth 100000 in
theorem mq_ok_X9_complete : mz_okI mq_LK vwCl mq_tyf mq_tab mq_X9_complete (505, 430, 506, 507) = true := by decide +kernel
set_option maxRecDepth 100000 in
theorem mq_ok_X9_leastNormal : mz_okI mq_LK vwCl mq_tyf mq_tab mq_X9_leastNormal (508, 430, 509, 510) = true := by decide +kernel
set_option maxRecDepth 100000 in
theorem mq_ok_X9_leastPowers : mz_okI mq_LK vwCl mq_tyf mq_tab mq_X9_leastPowers (511, 430, 512, 513) = true := by decide +kernel
set_option maxRecDepth 100000 in
theorem mq_ok_X9_types : mz_okI mq_LK vwCl mq_tyf mq_tab mq_X9_types (514, 430, 515, 516) = true := by decide +kernel
set_option maxRecDepth 100000 in
theorem mq_ok_X9_base : mz_okI mq_LK vwCl mq_tyf mq_tab mq_X9_base (517, 430, 518, 519) = true := by decide +kernel
set_option maxRecDepth 100000 in
theorem mq_ok_X9_makes : mz_okI mq_LK vwCl mq_tyf mq_tab mq_X9_makes (520, 430, 521, 522) = true := by decide +kernel
set_option maxRecDepth 100000 in
theorem mq_ok_X9_copies : mz_okI mq_LK vwCl mq_tyf mq_tab mq_X9_copies (523, 430, 524, 525) = true := by decide +kernel
set_option maxRecDepth 100000 in
theorem mq_ok_X9_scales : mz_okI mq_LK vwCl mq_tyf mq_tab mq_X9_scales (526, 430, 527, 528) = true := by decide +kernel
set_option maxRecDepth 100000 in
theorem mq_ok_X9_moves : mz_okI mq_LK vwCl mq_tyf mq_tab mq_X9_moves (529, 430, 530, 531) = true := by decide +kernel
set_option maxRecDepth 100000 in
theorem mq_ok_X9_adds : mz_okI mq_LK vwCl mq_tyf mq_tab mq_X9_adds (532, 430, 533, 534) = true := by decide +kernel
set_option maxRecDepth 100000 in
theorem mq_ok_X9_at : mz_okI mq_LK vwCl mq_tyf mq_tab mq_X9_at (535, 430, 536, 537) = true := by decide +kernel
set_option maxRecDepth 100000 in
theorem mq_ok_X9_coordinates : mz_okI mq_LK vwCl mq_tyf mq_tab mq_X9_coordinates (538, 430, 539, 540) = true := by decide +kernel
set_option maxRecDepth 100000 in
theorem mq_ok_X9_made : mz_okI mq_LK vwCl mq_tyf mq_tab mq_X9_made (541, 430, 542, 543) = true := by decide +kernel
set_option maxRecDepth 100000 in
theorem mq_ok_X9_change : mz_okI mq_LK vwCl mq_tyf mq_tab mq_X9_change (544, 430, 545, 546) = true := by decide +kernel
set_option maxRecDepth 100000 in
theorem mq_ok_X9_table : mz_okI mq_LK vwCl mq_tyf mq_tab mq_X9_table (547, 430, 548, 549) = true := by decide +kernel
set_option maxRecDepth 100000 in
theorem mq_ok_X9_complexity : mz_okI mq_LK vwCl mq_tyf mq_tab mq_X9_complexity (550, 430, 551, 552) = true := by decide +kernel
set_option maxRecDepth 100000 in
theorem mq_ok_X9_by : mz_okI mq_LK vwCl mq_tyf mq_tab mq_X9_by (553, 430, 554, 555) = true := by decide +kernel
set_option maxRecDepth 100000 in
theorem mq_ok_X9_squares : mz_okI mq_LK vwCl mq_tyf mq_tab mq_X9_squares (556, 430, 557, 558) = true := by decide +kernel
set_option maxRecDepth 100000 in
theorem mq_ok_X9_productIn : mz_okI mq_LK vwCl mq_tyf mq_tab mq_X9_productIn (559, 430, 560, 561) = true := by decide +kernel
set_option maxRecDepth 100000 in
theorem mq_ok_X9_far : mz_okI mq_LK vwCl mq_tyf mq_tab mq_X9_far (562, 430, 563, 564) = true := by decide +kernel
set_option maxRecDepth 100000 in
theorem mq_ok_X9_steady : mz_okI mq_LK vwCl mq_tyf mq_tab mq_X9_steady (565, 430, 566, 567) = true := by decide +kernel
set_option maxRecDepth 100000 in
theorem mq_ok_X9_bestScale : mz_okI mq_LK vwCl mq_tyf mq_tab mq_X9_bestScale (568, 430, 569, 570) = true := by decide +kernel
set_option maxRecDepth 100000 in
theorem mq_ok_X9_same : mz_okI mq_LK vwCl mq_tyf mq_tab mq_X9_same (571, 430, 572, 573) = true := by decide +kernel
set_option maxRecDepth 100000 in
theorem mq_ok_X9_dual : mz_okI mq_LK vwCl mq_tyf mq_tab mq_X9_dual (574, 430, 575, 576) = true := by decide +kernel
set_option maxRecDepth 100000 in
theorem mq_ok_X9_weakly : mz_okI mq_LK vwCl mq_tyf mq_tab mq_X9_weakly (577, 430, 578, 579) = true := by decide +kernel
set_option maxRecDepth 100000 in
theorem mq_ok_X9_traces : mz_okI mq_LK vwCl mq_tyf mq_tab mq_X9_traces (580, 430, 581, 582) = true := by decide +kernel
set_option maxRecDepth 100000 in
theorem mq_ok_X9_tower : mz_okI mq_LK vwCl mq_tyf mq_tab mq_X9_tower (583, 430, 584, 585) = true := by decide +kernel
set_option maxRecDepth 100000 in
theorem mq_ok_X9_fits : mz_okI mq_LK vwCl mq_tyf mq_tab mq_X9_fits (586, 430, 587, 588) = true := by decide +kernel
set_option maxRecDepth 100000 in
theorem mq_ok_X9_maps : mz_okI mq_LK vwCl mq_tyf mq_tab mq_X9_maps (589, 430, 590, 591) = true := by decide +kernel
set_option maxRecDepth 100000 in
theorem mq_ok_X9_irreducibles : mz_okI mq_LK vwCl mq_tyf mq_tab mq_X9_irreducibles (592, 430, 593, 594) = true := by decide +kernel
set_option maxRecDepth 100000 in
theorem mq_ok_X9_undo : mz_okI mq_LK vwCl mq_tyf mq_tab mq_X9_undo (595, 430, 596, 597) = true := by decide +kernel
set_option maxRecDepth 100000 in
theorem mq_ok_X9_keeps : mz_okI mq_LK vwCl mq_tyf mq_tab mq_X9_keeps (598, 430, 599, 600) = true := by decide +kernel
set_option maxRecDepth 100000 in
theorem mq_ok_X9_back : mz_okI mq_LK vwCl mq_tyf mq_tab mq_X9_back (601, 430, 602, 603) = true := by decide +kernel
set_option maxRecDepth 100000 in
theorem mq_ok_X9_written : mz_okI mq_LK vwCl mq_tyf mq_tab mq_X9_written (604, 430, 605, 606) = true := by decide +kernel
set_option maxRecDepth 100000 in
theorem mq_ok_X9_count : mz_okI mq_LK vwCl mq_tyf mq_tab mq_X9_count (607, 430, 608, 609) = true := by decide +kernel
set_option maxRecDepth 100000 in
theorem mq_ok_X9_isElement : mz_okI mq_LK vwCl mq_tyf mq_tab mq_X9_isElement (610, 430, 611, 612) = true := by decide +kernel
set_option maxRecDepth 100000 in
theorem mq_ok_X9_isSlot : mz_okI mq_LK vwCl mq_tyf mq_tab mq_X9_isSlot (613, 430, 614, 615) = true := by decide +kernel
set_option maxRecDepth 100000 in
theorem mq_ok_X9_isPlace : mz_okI mq_LK vwCl mq_tyf mq_tab mq_X9_isPlace (616, 430, 617, 618) = true := by decide +kernel
set_option maxRecDepth 100000 in
theorem mq_ok_X9_tellsField : mz_okI mq_LK vwCl mq_tyf mq_tab mq_X9_tellsField (619, 430, 620, 621) = true := by decide +kernel
set_option maxRecDepth 100000 in
theorem mq_ok_X9_setsSlot : mz_okI mq_LK vwCl mq_tyf mq_tab mq_X9_setsSlot (622, 430, 623, 624) = true := by decide +kernel
set_option maxRecDepth 100000 in
theorem mq_ok_X9_followsState : mz_okI mq_LK vwCl mq_tyf mq_tab mq_X9_followsState (625, 430, 626, 627) = true := by decide +kernel
set_option maxRecDepth 100000 in
theorem mq_ok_X9_tellsLocated : mz_okI mq_LK vwCl mq_tyf mq_tab mq_X9_tellsLocated (628, 430, 629, 630) = true := by decide +kernel
set_option maxRecDepth 100000 in
theorem mq_ok_X9_normalSlots : mz_okI mq_LK vwCl mq_tyf mq_tab mq_X9_normalSlots (631, 430, 632, 633) = true := by decide +kernel
set_option maxRecDepth 100000 in
theorem mq_ok_X9_plainSlots : mz_okI mq_LK vwCl mq_tyf mq_tab mq_X9_plainSlots (634, 430, 635, 636) = true := by decide +kernel
set_option maxRecDepth 100000 in
theorem mq_ok_X10_thrown : mz_okI mq_LK vwCl mq_tyf mq_tab mq_X10_thrown (637, 638, 639, 640) = true := by decide +kernel
set_option maxRecDepth 100000 in
theorem mq_ok_X10_in : mz_okI mq_LK vwCl mq_tyf mq_tab mq_X10_in (641, 638, 642, 0) = true := by decide +kernel
set_option maxRecDepth 100000 in
theorem mq_ok_X10_lost : mz_okI mq_LK vwCl mq_tyf mq_tab mq_X10_lost (643, 638, 644, 645) = true := by decide +kernel
set_option maxRecDepth 100000 in
theorem mq_ok_X10_tell : mz_okI mq_LK vwCl mq_tyf mq_tab mq_X10_tell (646, 638, 647, 648) = true := by decide +kernel
set_option maxRecDepth 100000 in
theorem mq_ok_X10_bits : mz_okI mq_LK vwCl mq_tyf mq_tab mq_X10_bits (649, 638, 650, 0) = true := by decide +kernel
set_option maxRecDepth 100000 in
theorem mq_ok_X10_sign : mz_okI mq_LK vwCl mq_tyf mq_tab mq_X10_sign (651, 638, 652, 653) = true := by decide +kernel
set_option maxRecDepth 100000 in
theorem mq_ok_X10_end : mz_okI mq_LK vwCl mq_tyf mq_tab mq_X10_end (654, 638, 655, 656) = true := by decide +kernel
set_option maxRecDepth 100000 in
theorem mq_ok_X10_degree : mz_okI mq_LK vwCl mq_tyf mq_tab mq_X10_degree (657, 638, 658, 0) = true := by decide +kernel
set_option maxRecDepth 100000 in
theorem mq_ok_X10_modulo : mz_okI mq_LK vwCl mq_tyf mq_tab mq_X10_modulo (659, 638, 660, 0) = true := by decide +kernel
set_option maxRecDepth 100000 in
theorem mq_ok_X10_timesPoly : mz_okI mq_LK vwCl mq_tyf mq_tab mq_X10_timesPoly (661, 638, 662, 0) = true := by decide +kernel
set_option maxRecDepth 100000 in
theorem mq_ok_X10_quotient : mz_okI mq_LK vwCl mq_tyf mq_tab mq_X10_quotient (663, 638, 664, 0) = true := by decide +kernel
set_option maxRecDepth 100000 in
theorem mq_ok_X10_leastFactor : mz_okI mq_LK vwCl mq_tyf mq_tab mq_X10_leastFactor (665, 638, 666, 0) = true := by decide +kernel
set_option maxRecDepth 100000 in
theorem mq_ok_X10_isIrreducible : mz_okI mq_LK vwCl mq_tyf mq_tab mq_X10_isIrreducible (667, 638, 668, 0) = true := by decide +kernel
set_option maxRecDepth 100000 in
theorem mq_ok_X10_lays : mz_okI mq_LK vwCl mq_tyf mq_tab mq_X10_lays (669, 638, 670, 671) = true := by decide +kernel
set_option maxRecDepth 100000 in
theorem mq_ok_X10_fields : mz_okI mq_LK vwCl mq_tyf mq_tab mq_X10_fields (672, 638, 673, 674) = true := by decide +kernel
set_option maxRecDepth 100000 in
theorem mq_ok_X10_times : mz_okI mq_LK vwCl mq_tyf mq_tab mq_X10_times (675, 638, 676, 677) = true := by decide +kernel
set_option maxRecDepth 100000 in
theorem mq_ok_X10_conj : mz_okI mq_LK vwCl mq_tyf mq_tab mq_X10_conj (678, 638, 679, 680) = true := by decide +kernel
set_option maxRecDepth 100000 in
theorem mq_ok_X10_powered : mz_okI mq_LK vwCl mq_tyf mq_tab mq_X10_powered (681, 638, 682, 683) = true := by decide +kernel
set_option maxRecDepth 100000 in
theorem mq_ok_X10_inverseOf : mz_okI mq_LK vwCl mq_tyf mq_tab mq_X10_inverseOf (684, 638, 685, 686) = true := by decide +kernel
set_option maxRecDepth 100000 in
theorem mq_ok_X10_sizeOf : mz_okI mq_LK vwCl mq_tyf mq_tab mq_X10_sizeOf (687, 638, 688, 689) = true := by decide +kernel
set_option maxRecDepth 100000 in
theorem mq_ok_X10_orderOf : mz_okI mq_LK vwCl mq_tyf mq_tab mq_X10_orderOf (690, 638, 691, 692) = true := by decide +kernel
set_option maxRecDepth 100000 in
theorem mq_ok_X10_isGenerator : mz_okI mq_LK vwCl mq_tyf mq_tab mq_X10_isGenerator (693, 638, 694, 695) = true := by decide +kernel
set_option maxRecDepth 100000 in
theorem mq_ok_X10_traceTo : mz_okI mq_LK vwCl mq_tyf mq_tab mq_X10_traceTo (696, 638, 697, 698) = true := by decide +kernel
set_option maxRecDepth 100000 in
theorem mq_ok_X10_normTo : mz_okI mq_LK vwCl mq_tyf mq_tab mq_X10_normTo (699, 638, 700, 701) = true := by decide +kernel
set_option maxRecDepth 100000 in
theorem mq_ok_X10_isElement : mz_okI mq_LK vwCl mq_tyf mq_tab mq_X10_isElement (702, 638, 703, 704) = true := by decide +kernel
set_option maxRecDepth 100000 in
theorem mq_ok_X10_isPart : mz_okI mq_LK vwCl mq_tyf mq_tab mq_X10_isPart (705, 638, 706, 707) = true := by decide +kernel
set_option maxRecDepth 100000 in
theorem mq_ok_X10_isSlot : mz_okI mq_LK vwCl mq_tyf mq_tab mq_X10_isSlot (708, 638, 709, 0) = true := by decide +kernel
set_option maxRecDepth 100000 in
theorem mq_ok_X10_isPlace : mz_okI mq_LK vwCl mq_tyf mq_tab mq_X10_isPlace (710, 638, 711, 712) = true := by decide +kernel
set_option maxRecDepth 100000 in
theorem mq_ok_X10_rank : mz_okI mq_LK vwCl mq_tyf mq_tab mq_X10_rank (713, 638, 714, 715) = true := by decide +kernel
set_option maxRecDepth 100000 in
theorem mq_ok_X10_takesConjugates : mz_okI mq_LK vwCl mq_tyf mq_tab mq_X10_takesConjugates (716, 638, 717, 718) = true := by decide +kernel
set_option maxRecDepth 100000 in
theorem mq_ok_X10_isNormal : mz_okI mq_LK vwCl mq_tyf mq_tab mq_X10_isNormal (719, 638, 720, 721) = true := by decide +kernel
set_option maxRecDepth 100000 in
theorem mq_ok_X10_takesSubbase : mz_okI mq_LK vwCl mq_tyf mq_tab mq_X10_takesSubbase (722, 638, 723, 724) = true := by decide +kernel
set_option maxRecDepth 100000 in
theorem mq_ok_X10_isNormalOver : mz_okI mq_LK vwCl mq_tyf mq_tab mq_X10_isNormalOver (725, 638, 726, 727) = true := by decide +kernel
set_option maxRecDepth 100000 in
theorem mq_ok_X10_madeOf : mz_okI mq_LK vwCl mq_tyf mq_tab mq_X10_madeOf (728, 638, 729, 730) = true := by decide +kernel
set_option maxRecDepth 100000 in
theorem mq_ok_X10_laysCoordinates : mz_okI mq_LK vwCl mq_tyf mq_tab mq_X10_laysCoordinates (731, 638, 732, 733) = true := by decide +kernel
set_option maxRecDepth 100000 in
theorem mq_ok_X10_baseAt : mz_okI mq_LK vwCl mq_tyf mq_tab mq_X10_baseAt (734, 638, 735, 736) = true := by decide +kernel
set_option maxRecDepth 100000 in
theorem mq_ok_X10_looksAt : mz_okI mq_LK vwCl mq_tyf mq_tab mq_X10_looksAt (737, 638, 738, 739) = true := by decide +kernel
set_option maxRecDepth 100000 in
theorem mq_ok_X10_complexityNow : mz_okI mq_LK vwCl mq_tyf mq_tab mq_X10_complexityNow (740, 638, 741, 742) = true := by decide +kernel
set_option maxRecDepth 100000 in
theorem mq_ok_X10_weightNow : mz_okI mq_LK vwCl mq_tyf mq_tab mq_X10_weightNow (743, 638, 744, 745) = true := by decide +kernel
set_option maxRecDepth 100000 in
theorem mq_ok_X10_isNormalBase : mz_okI mq_LK vwCl mq_tyf mq_tab mq_X10_isNormalBase (746, 638, 747, 748) = true := by decide +kernel
set_option maxRecDepth 100000 in
theorem mq_ok_X10_someIsBase : mz_okI mq_LK vwCl mq_tyf mq_tab mq_X10_someIsBase (749, 638, 750, 751) = true := by decide +kernel
set_option maxRecDepth 100000 in
theorem mq_ok_X10_does : mz_okI mq_LK vwCl mq_tyf mq_tab mq_X10_does (752, 638, 753, 754) = true := by decide +kernel
set_option maxRecDepth 100000 in
theorem mq_ok_X10_holds : mz_okI mq_LK vwCl mq_tyf mq_tab mq_X10_holds (755, 638, 756, 757) = true := by decide +kernel
set_option maxRecDepth 100000 in
theorem mq_ok_X10_begin : mz_okI mq_LK vwCl mq_tyf mq_tab mq_X10_begin (758, 638, 759, 760) = true := by decide +kernel
set_option maxRecDepth 100000 in
theorem mq_ok_X10_sees : mz_okI mq_LK vwCl mq_tyf mq_tab mq_X10_sees (761, 638, 762, 763) = true := by decide +kernel
set_option maxRecDepth 100000 in
theorem mq_ok_X10_fault : mz_okI mq_LK vwCl mq_tyf mq_tab mq_X10_fault (764, 638, 765, 766) = true := by decide +kernel
set_option maxRecDepth 100000 in
theorem mq_ok_X10_readsPower : mz_okI mq_LK vwCl mq_tyf mq_tab mq_X10_readsPower (767, 638, 768, 769) = true := by decide +kernel
set_option maxRecDepth 100000 in
theorem mq_ok_X10_readsPoly : mz_okI mq_LK vwCl mq_tyf mq_tab mq_X10_readsPoly (770, 638, 771, 772) = true := by decide +kernel
set_option maxRecDepth 100000 in
theorem mq_ok_X10_field : mz_okI mq_LK vwCl mq_tyf mq_tab mq_X10_field (773, 638, 774, 775) = true := by decide +kernel
set_option maxRecDepth 100000 in
theorem mq_ok_X10_poly : mz_okI mq_LK vwCl mq_tyf mq_tab mq_X10_poly (776, 638, 777, 778) = true := by decide +kernel
set_option maxRecDepth 100000 in
theorem mq_ok_X10_product : mz_okI mq_LK vwCl mq_tyf mq_tab mq_X10_product (779, 638, 780, 781) = true := by decide +kernel
set_option maxRecDepth 100000 in
theorem mq_ok_X10_inverse : mz_okI mq_LK vwCl mq_tyf mq_tab mq_X10_inverse (782, 638, 783, 784) = true := by decide +kernel
set_option maxRecDepth 100000 in
theorem mq_ok_X10_power : mz_okI mq_LK vwCl mq_tyf mq_tab mq_X10_power (785, 638, 786, 787) = true := by decide +kernel
set_option maxRecDepth 100000 in
theorem mq_ok_X10_order : mz_okI mq_LK vwCl mq_tyf mq_tab mq_X10_order (788, 638, 789, 790) = true := by decide +kernel
set_option maxRecDepth 100000 in
theorem mq_ok_X10_conjugate : mz_okI mq_LK vwCl mq_tyf mq_tab mq_X10_conjugate (791, 638, 792, 793) = true := by decide +kernel
set_option maxRecDepth 100000 in
theorem mq_ok_X10_conjugates : mz_okI mq_LK vwCl mq_tyf mq_tab mq_X10_conjugates (794, 638, 795, 796) = true := by decide +kernel
set_option maxRecDepth 100000 in
theorem mq_ok_X10_rooted : mz_okI mq_LK vwCl mq_tyf mq_tab mq_X10_rooted (797, 638, 798, 799) = true := by decide +kernel
set_option maxRecDepth 100000 in
theorem mq_ok_X10_least : mz_okI mq_LK vwCl mq_tyf mq_tab mq_X10_least (800, 638, 801, 802) = true := by decide +kernel
set_option maxRecDepth 100000 in
theorem mq_ok_X10_trace : mz_okI mq_LK vwCl mq_tyf mq_tab mq_X10_trace (803, 638, 804, 805) = true := by decide +kernel
set_option maxRecDepth 100000 in
theorem mq_ok_X10_norm : mz_okI mq_LK vwCl mq_tyf mq_tab mq_X10_norm (806, 638, 807, 808) = true := by decide +kernel
set_option maxRecDepth 100000 in
theorem mq_ok_X10_root : mz_okI mq_LK vwCl mq_tyf mq_tab mq_X10_root (809, 638, 810, 811) = true := by decide +kernel
set_option maxRecDepth 100000 in
theorem mq_ok_X10_solves : mz_okI mq_LK vwCl mq_tyf mq_tab mq_X10_solves (812, 638, 813, 814) = true := by decide +kernel
set_option maxRecDepth 100000 in
theorem mq_ok_X10_log : mz_okI mq_LK vwCl mq_tyf mq_tab mq_X10_log (815, 638, 816, 817) = true := by decide +kernel
set_option maxRecDepth 100000 in
theorem mq_ok_X10_traced : mz_okI mq_LK vwCl mq_tyf mq_tab mq_X10_traced (818, 638, 819, 820) = true := by decide +kernel
set_option maxRecDepth 100000 in
theorem mq_ok_X10_factors : mz_okI mq_LK vwCl mq_tyf mq_tab mq_X10_factors (821, 638, 822, 823) = true := by decide +kernel
set_option maxRecDepth 100000 in
theorem mq_ok_X10_classes : mz_okI mq_LK vwCl mq_tyf mq_tab mq_X10_classes (824, 638, 825, 826) = true := by decide +kernel
set_option maxRecDepth 100000 in
theorem mq_ok_X10_generators : mz_okI mq_LK vwCl mq_tyf mq_tab mq_X10_generators (827, 638, 828, 829) = true := by decide +kernel
set_option maxRecDepth 100000 in
theorem mq_ok_X10_orders : mz_okI mq_LK vwCl mq_tyf mq_tab mq_X10_orders (830, 638, 831, 832) = true := by decide +kernel
set_option maxRecDepth 100000 in
theorem mq_ok_X10_quadratic : mz_okI mq_LK vwCl mq_tyf mq_tab mq_X10_quadratic (833, 638, 834, 835) = true := by decide +kernel
set_option maxRecDepth 100000 in
theorem mq_ok_X10_subfield : mz_okI mq_LK vwCl mq_tyf mq_tab mq_X10_subfield (836, 638, 837, 838) = true := by decide +kernel
set_option maxRecDepth 100000 in
theorem mq_ok_X10_normal : mz_okI mq_LK vwCl mq_tyf mq_tab mq_X10_normal (839, 638, 840, 841) = true := by decide +kernel
set_option maxRecDepth 100000 in
theorem mq_ok_X10_normals : mz_okI mq_LK vwCl mq_tyf mq_tab mq_X10_normals (842, 638, 843, 844) = true := by decide +kernel
set_option maxRecDepth 100000 in
theorem mq_ok_X10_complete : mz_okI mq_LK vwCl mq_tyf mq_tab mq_X10_complete (845, 638, 846, 847) = true := by decide +kernel
set_option maxRecDepth 100000 in
theorem mq_ok_X10_leastNormal : mz_okI mq_LK vwCl mq_tyf mq_tab mq_X10_leastNormal (848, 638, 849, 850) = true := by decide +kernel
set_option maxRecDepth 100000 in
theorem mq_ok_X10_takesPowers : mz_okI mq_LK vwCl mq_tyf mq_tab mq_X10_takesPowers (851, 638, 852, 853) = true := by decide +kernel
set_option maxRecDepth 100000 in
theorem mq_ok_X10_leastPowers : mz_okI mq_LK vwCl mq_tyf mq_tab mq_X10_leastPowers (854, 638, 855, 856) = true := by decide +kernel
set_option maxRecDepth 100000 in
theorem mq_ok_X10_isPrime : mz_okI mq_LK vwCl mq_tyf mq_tab mq_X10_isPrime (857, 638, 858, 0) = true := by decide +kernel
set_option maxRecDepth 100000 in
theorem mq_ok_X10_powersOfTwo : mz_okI mq_LK vwCl mq_tyf mq_tab mq_X10_powersOfTwo (859, 638, 860, 0) = true := by decide +kernel
set_option maxRecDepth 100000 in
theorem mq_ok_X10_types : mz_okI mq_LK vwCl mq_tyf mq_tab mq_X10_types (861, 638, 862, 863) = true := by decide +kernel
set_option maxRecDepth 100000 in
theorem mq_ok_X10_readsElement : mz_okI mq_LK vwCl mq_tyf mq_tab mq_X10_readsElement (864, 638, 865, 866) = true := by decide +kernel
set_option maxRecDepth 100000 in
theorem mq_ok_X10_base : mz_okI mq_LK vwCl mq_tyf mq_tab mq_X10_base (867, 638, 868, 869) = true := by decide +kernel
set_option maxRecDepth 100000 in
theorem mq_ok_X10_makes : mz_okI mq_LK vwCl mq_tyf mq_tab mq_X10_makes (870, 638, 871, 872) = true := by decide +kernel
set_option maxRecDepth 100000 in
theorem mq_ok_X10_copies : mz_okI mq_LK vwCl mq_tyf mq_tab mq_X10_copies (873, 638, 874, 875) = true := by decide +kernel
set_option maxRecDepth 100000 in
theorem mq_ok_X10_scales : mz_okI mq_LK vwCl mq_tyf mq_tab mq_X10_scales (876, 638, 877, 878) = true := by decide +kernel
set_option maxRecDepth 100000 in
theorem mq_ok_X10_takesBase : mz_okI mq_LK vwCl mq_tyf mq_tab mq_X10_takesBase (879, 638, 880, 881) = true := by decide +kernel
set_option maxRecDepth 100000 in
theorem mq_ok_X10_moves : mz_okI mq_LK vwCl mq_tyf mq_tab mq_X10_moves (882, 638, 883, 884) = true := by decide +kernel
set_option maxRecDepth 100000 in
theorem mq_ok_X10_adds : mz_okI mq_LK vwCl mq_tyf mq_tab mq_X10_adds (885, 638, 886, 887) = true := by decide +kernel
set_option maxRecDepth 100000 in
theorem mq_ok_X10_at : mz_okI mq_LK vwCl mq_tyf mq_tab mq_X10_at (888, 638, 889, 890) = true := by decide +kernel
set_option maxRecDepth 100000 in
theorem mq_ok_X10_coordinates : mz_okI mq_LK vwCl mq_tyf mq_tab mq_X10_coordinates (891, 638, 892, 893) = true := by decide +kernel
set_option maxRecDepth 100000 in
theorem mq_ok_X10_made : mz_okI mq_LK vwCl mq_tyf mq_tab mq_X10_made (894, 638, 895, 896) = true := by decide +kernel
set_option maxRecDepth 100000 in
theorem mq_ok_X10_tellsCoordinates : mz_okI mq_LK vwCl mq_tyf mq_tab mq_X10_tellsCoordinates (897, 638, 898, 899) = true := by decide +kernel
set_option maxRecDepth 100000 in
theorem mq_ok_X10_change : mz_okI mq_LK vwCl mq_tyf mq_tab mq_X10_change (900, 638, 901, 902) = true := by decide +kernel
set_option maxRecDepth 100000 in
theorem mq_ok_X10_table : mz_okI mq_LK vwCl mq_tyf mq_tab mq_X10_table (903, 638, 904, 905) = true := by decide +kernel
set_option maxRecDepth 100000 in
theorem mq_ok_X10_complexity : mz_okI mq_LK vwCl mq_tyf mq_tab mq_X10_complexity (906, 638, 907, 908) = true := by decide +kernel
set_option maxRecDepth 100000 in
theorem mq_ok_X10_by : mz_okI mq_LK vwCl mq_tyf mq_tab mq_X10_by (909, 638, 910, 911) = true := by decide +kernel
set_option maxRecDepth 100000 in
theorem mq_ok_X10_squares : mz_okI mq_LK vwCl mq_tyf mq_tab mq_X10_squares (912, 638, 913, 914) = true := by decide +kernel
set_option maxRecDepth 100000 in
theorem mq_ok_X10_productIn : mz_okI mq_LK vwCl mq_tyf mq_tab mq_X10_productIn (915, 638, 916, 917) = true := by decide +kernel
set_option maxRecDepth 100000 in
theorem mq_ok_X10_far : mz_okI mq_LK vwCl mq_tyf mq_tab mq_X10_far (918, 638, 919, 920) = true := by decide +kernel
set_option maxRecDepth 100000 in
theorem mq_ok_X10_steady : mz_okI mq_LK vwCl mq_tyf mq_tab mq_X10_steady (921, 638, 922, 923) = true := by decide +kernel
set_option maxRecDepth 100000 in
theorem mq_ok_X10_bestScale : mz_okI mq_LK vwCl mq_tyf mq_tab mq_X10_bestScale (924, 638, 925, 926) = true := by decide +kernel
set_option maxRecDepth 100000 in
theorem mq_ok_X10_same : mz_okI mq_LK vwCl mq_tyf mq_tab mq_X10_same (927, 638, 928, 929) = true := by decide +kernel
set_option maxRecDepth 100000 in
theorem mq_ok_X10_dualAt : mz_okI mq_LK vwCl mq_tyf mq_tab mq_X10_dualAt (930, 638, 931, 932) = true := by decide +kernel
set_option maxRecDepth 100000 in
theorem mq_ok_X10_takesDual : mz_okI mq_LK vwCl mq_tyf mq_tab mq_X10_takesDual (933, 638, 934, 935) = true := by decide +kernel
set_option maxRecDepth 100000 in
theorem mq_ok_X10_dual : mz_okI mq_LK vwCl mq_tyf mq_tab mq_X10_dual (936, 638, 937, 938) = true := by decide +kernel
set_option maxRecDepth 100000 in
theorem mq_ok_X10_placeOf : mz_okI mq_LK vwCl mq_tyf mq_tab mq_X10_placeOf (939, 638, 940, 941) = true := by decide +kernel
set_option maxRecDepth 100000 in
theorem mq_ok_X10_weakly : mz_okI mq_LK vwCl mq_tyf mq_tab mq_X10_weakly (942, 638, 943, 944) = true := by decide +kernel
set_option maxRecDepth 100000 in
theorem mq_ok_X10_traces : mz_okI mq_LK vwCl mq_tyf mq_tab mq_X10_traces (945, 638, 946, 947) = true := by decide +kernel
set_option maxRecDepth 100000 in
theorem mq_ok_X10_tower : mz_okI mq_LK vwCl mq_tyf mq_tab mq_X10_tower (948, 638, 949, 950) = true := by decide +kernel
set_option maxRecDepth 100000 in
theorem mq_ok_X10_isUnder : mz_okI mq_LK vwCl mq_tyf mq_tab mq_X10_isUnder (951, 638, 952, 953) = true := by decide +kernel
set_option maxRecDepth 100000 in
theorem mq_ok_X10_fits : mz_okI mq_LK vwCl mq_tyf mq_tab mq_X10_fits (954, 638, 955, 956) = true := by decide +kernel
set_option maxRecDepth 100000 in
theorem mq_ok_X10_maps : mz_okI mq_LK vwCl mq_tyf mq_tab mq_X10_maps (957, 638, 958, 959) = true := by decide +kernel
set_option maxRecDepth 100000 in
theorem mq_ok_X10_isPrimitive : mz_okI mq_LK vwCl mq_tyf mq_tab mq_X10_isPrimitive (960, 638, 961, 0) = true := by decide +kernel
set_option maxRecDepth 100000 in
theorem mq_ok_X10_irreducibles : mz_okI mq_LK vwCl mq_tyf mq_tab mq_X10_irreducibles (962, 638, 963, 964) = true := by decide +kernel
set_option maxRecDepth 100000 in
theorem mq_ok_X10_undo : mz_okI mq_LK vwCl mq_tyf mq_tab mq_X10_undo (965, 638, 966, 967) = true := by decide +kernel
set_option maxRecDepth 100000 in
theorem mq_ok_X10_keeps : mz_okI mq_LK vwCl mq_tyf mq_tab mq_X10_keeps (968, 638, 969, 970) = true := by decide +kernel
set_option maxRecDepth 100000 in
theorem mq_ok_X10_back : mz_okI mq_LK vwCl mq_tyf mq_tab mq_X10_back (971, 638, 972, 973) = true := by decide +kernel
set_option maxRecDepth 100000 in
theorem mq_ok_X10_writes : mz_okI mq_LK vwCl mq_tyf mq_tab mq_X10_writes (974, 638, 975, 976) = true := by decide +kernel
set_option maxRecDepth 100000 in
theorem mq_ok_X10_written : mz_okI mq_LK vwCl mq_tyf mq_tab mq_X10_written (977, 638, 978, 979) = true := by decide +kernel
set_option maxRecDepth 100000 in
theorem mq_ok_X10_count : mz_okI mq_LK vwCl mq_tyf mq_tab mq_X10_count (980, 638, 981, 982) = true := by decide +kernel
set_option maxRecDepth 100000 in
theorem mq_ok_X10_row : mz_okI mq_LK vwCl mq_tyf mq_tab mq_X10_row (983, 638, 984, 985) = true := by decide +kernel
set_option maxRecDepth 100000 in
theorem mq_ok_J6_bitCount_0f7a4 : mz_okI mq_LK vwCl mq_tyf mq_tab mq_J6_bitCount_0f7a4 (986, 987, 988, 0) = true := by decide +kernel
