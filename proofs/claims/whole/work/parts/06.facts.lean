/-! FACTS OF THE TABLES, by program: the words that each instruction needs are there -/
def ab_tb : List Cond := lw_tbl.filter (fun w => k2_isCode w || goodWord w)
theorem ab_tbg : ∀ w ∈ ab_tb, (w.onTables && w.keeps) = true ∨ ∃ ty, w = .arrayClass ty := by
  intro w hw
  obtain ⟨h1, h2⟩ := List.mem_filter.mp hw
  by_cases hc : k2_isCode w = true
  · cases w <;> first | (simp [k2_isCode] at hc; done) | exact Or.inl rfl
  · refine good_of_word ?_
    simp only [Bool.or_eq_true] at h2
    exact h2.resolve_left hc
def ab_ix (i : Nat) (w : Cond) : Bool := decide (lw_tbl[i]? = some w) && (k2_isCode w || goodWord w)
theorem ab_ix_mem {i : Nat} {w : Cond} (h : ab_ix i w = true) : w ∈ ab_tb := by
  unfold ab_ix at h
  simp only [Bool.and_eq_true, decide_eq_true_eq] at h
  exact List.mem_filter.mpr ⟨List.mem_of_getElem? h.1, h.2⟩
theorem ab_good {y : MethodName} {b : ByteArray} {n : Nat} {r : Option FieldType} (h : Cond.code y b n r ∈ ab_tb) : GoodIn ab_tb (.code y b n r :: ab_tb) := by
  intro w hw
  rcases List.mem_cons.mp hw with rfl | hw
  · exact ⟨h, Or.inl rfl⟩
  · exact ⟨hw, ab_tbg w hw⟩
theorem ab_zip {l : List Cond} {js : List Nat} (h : decide (l.length ≤ js.length) = true) (hz : (l.zip js).all (fun q => ab_ix q.2 q.1) = true) : ∀ w ∈ l, w ∈ ab_tb := by
  intro w hw
  obtain ⟨i, hi⟩ := List.getElem?_of_mem hw
  have hlt : i < l.length := (List.getElem?_eq_some_iff.mp hi).1
  have hl2 : i < js.length := Nat.lt_of_lt_of_le hlt (of_decide_eq_true h)
  have hq : (l.zip js)[i]? = some (w, js[i]) := by
    rw [List.getElem?_zip_eq_some]
    exact ⟨hi, List.getElem?_eq_getElem hl2⟩
  exact ab_ix_mem (List.all_eq_true.mp hz _ (List.mem_of_getElem? hq))
def ab_tl : List (Nat → FieldType) := [tyX0, tyX1, tyX2, tyX3, tyX4, tyX5, tyX6, tyX8, tyX9, tyX10, tyX11]
def ab_ty (t f : Nat) : FieldType := (ab_tl.getD t (fun _ => .int)) f
def ab_tyc : Nat → FieldType → Bool
  | 0, .int => true
  | 1, .boolean => true
  | 2, .array _ => true
  | 2, .object _ => true
  | _, _ => false

set_option maxRecDepth 100000 in
theorem ab_clin_0 : ∀ w ∈ u_ws RX0 TX0 6, w ∈ ab_tb := ab_zip (js := [311, 313, 303, 305, 307, 309]) (by decide +kernel) (by decide +kernel)
set_option maxRecDepth 100000 in
theorem ab_clin_1 : ∀ w ∈ u_ws RX1 TX1 2, w ∈ ab_tb := ab_zip (js := [370, 372]) (by decide +kernel) (by decide +kernel)
set_option maxRecDepth 100000 in
theorem ab_clin_2 : ∀ w ∈ u_ws RX2 TX2 2, w ∈ ab_tb := ab_zip (js := [385, 387]) (by decide +kernel) (by decide +kernel)
set_option maxRecDepth 100000 in
theorem ab_clin_3 : ∀ w ∈ u_ws RX3 TX3 8, w ∈ ab_tb := ab_zip (js := [357, 358, 345, 347, 349, 351, 353, 355]) (by decide +kernel) (by decide +kernel)
set_option maxRecDepth 100000 in
theorem ab_clin_4 : ∀ w ∈ u_ws RX4 TX4 3, w ∈ ab_tb := ab_zip (js := [271, 273, 275]) (by decide +kernel) (by decide +kernel)
set_option maxRecDepth 100000 in
theorem ab_clin_5 : ∀ w ∈ u_ws RX5 TX5 3, w ∈ ab_tb := ab_zip (js := [326, 327, 324]) (by decide +kernel) (by decide +kernel)
set_option maxRecDepth 100000 in
theorem ab_clin_6 : ∀ w ∈ u_ws RX6 TX6 6, w ∈ ab_tb := ab_zip (js := [110, 112, 114, 116, 118, 120]) (by decide +kernel) (by decide +kernel)
set_option maxRecDepth 100000 in
theorem ab_clin_7 : ∀ w ∈ u_ws RX8 TX8 6, w ∈ ab_tb := ab_zip (js := [248, 250, 252, 254, 256, 258]) (by decide +kernel) (by decide +kernel)
set_option maxRecDepth 100000 in
theorem ab_clin_8 : ∀ w ∈ u_ws RX9 TX9 16, w ∈ ab_tb := ab_zip (js := [196, 198, 200, 202, 204, 206, 208, 210, 212, 214, 216, 218, 220, 222, 224, 226]) (by decide +kernel) (by decide +kernel)
set_option maxRecDepth 100000 in
theorem ab_clin_9 : ∀ w ∈ u_ws RX10 TX10 16, w ∈ ab_tb := ab_zip (js := [406, 408, 410, 412, 414, 416, 418, 420, 422, 424, 426, 428, 430, 432, 434, 436]) (by decide +kernel) (by decide +kernel)
set_option maxRecDepth 100000 in
theorem ab_clin_10 : ∀ w ∈ u_ws RX11 TX11 50, w ∈ ab_tb := ab_zip (js := [1005, 1007, 1009, 1011, 1013, 1015, 1017, 1019, 1021, 1023, 1025, 1027, 1029, 1031, 1033, 1035, 1037, 1039, 1041, 1043, 1045, 1047, 1049, 1051, 1053, 1055, 1057, 1059, 1061, 1063, 1065, 1067, 1069, 1071, 1073, 1075, 1077, 1079, 1081, 1083, 1085, 1087, 1089, 1091, 1093, 1095, 1097, 1099, 1101, 1103]) (by decide +kernel) (by decide +kernel)
theorem ab_clin : ∀ (t : Nat) (r : vw_C), vwCl[t]? = some r → ∀ w ∈ u_ws r.1 r.2.1 r.2.2, w ∈ ab_tb
  | 0, r, h => by cases h; exact ab_clin_0
  | 1, r, h => by cases h; exact ab_clin_1
  | 2, r, h => by cases h; exact ab_clin_2
  | 3, r, h => by cases h; exact ab_clin_3
  | 4, r, h => by cases h; exact ab_clin_4
  | 5, r, h => by cases h; exact ab_clin_5
  | 6, r, h => by cases h; exact ab_clin_6
  | 7, r, h => by cases h; exact ab_clin_7
  | 8, r, h => by cases h; exact ab_clin_8
  | 9, r, h => by cases h; exact ab_clin_9
  | 10, r, h => by cases h; exact ab_clin_10
  | n + 11, r, h => by simp [vwCl] at h
set_option maxRecDepth 100000 in
theorem ab_clty0 : (List.range 11).all (fun t => match vwCl[t]? with | some r => (List.range r.2.2).all (fun f => decide (parseFieldDescriptor (r.2.1 f).2.2.1 = some (ab_ty t f)) && ab_tyc (ab_fty t f) (ab_ty t f)) | none => true) = true := by decide +kernel
theorem ab_clnm : ∀ (t : Nat) (r : vw_C), vwCl[t]? = some r → ∀ a, a < r.2.2 → ∀ b, b < r.2.2 → a ≠ b → (r.2.1 a).2.1 ≠ (r.2.1 b).2.1
  | 0, r, h => by cases h; exact nmX0
  | 1, r, h => by cases h; exact nmX1
  | 2, r, h => by cases h; exact nmX2
  | 3, r, h => by cases h; exact nmX3
  | 4, r, h => by cases h; exact nmX4
  | 5, r, h => by cases h; exact nmX5
  | 6, r, h => by cases h; exact nmX6
  | 7, r, h => by cases h; exact nmX8
  | 8, r, h => by cases h; exact nmX9
  | 9, r, h => by cases h; exact nmX10
  | 10, r, h => by cases h; exact nmX11
  | n + 11, r, h => by simp [vwCl] at h
set_option maxRecDepth 100000 in
theorem ab_kd0 : (List.range 132).all (fun k => decide (11 ≤ (ab_kd k).1) || (match vwCl[(ab_kd k).1]? with | some r => decide (r.2.2 = (ab_kd k).2) | none => false)) = true := by decide +kernel
def ab_ows : List String := [RX0, RX1, RX2, RX3, RX4, RX5, RX6, RX8, RX9, RX10, RX11, RX7, RL, RJ9, RJ0, RJ1, RJ7]

/-- a field link: own, index, receiver, field, the name that the reference bears, its place in the table -/
abbrev ab_FL : Type := Nat × (Nat × (Int × (Nat × (Nat × Nat))))
def ab_sfl : List (Cond × Nat) := [(.sameField "LoneAdjective$BestRound" "LoneAdjective$Rounds" "row" "[I", 297), (.sameField "LoneAdjective$Days" "LoneAdjective$Rounds" "row" "[I", 299), (.sameField "LoneAdjective$Days" "LoneAdjective$Rounds" "endAt" "[I", 302)]
def ab_flc (q : ab_FL) : Bool := (List.range 11).all (fun t => !decide (ab_tg q.2.2.1 t) || (match vwCl[t]? with | some r => decide (q.2.2.2.1 < r.2.2) && ab_ix q.2.2.2.2.2 (.fieldLink (ab_ows.getD q.1 "") q.2.1 (ab_ows.getD q.2.2.2.2.1 "") (r.2.1 q.2.2.2.1).2.1 (r.2.1 q.2.2.2.1).2.2.1) && (decide (ab_ows.getD q.2.2.2.2.1 "" = (r.2.1 q.2.2.2.1).1) || ab_sfl.any (fun z => decide (z.1 = .sameField (ab_ows.getD q.2.2.2.2.1 "") (r.2.1 q.2.2.2.1).1 (r.2.1 q.2.2.2.1).2.1 (r.2.1 q.2.2.2.1).2.2.1))) | none => false))
set_option maxRecDepth 100000 in
theorem ab_sfl0 : ab_sfl.all (fun z => ab_ix z.2 z.1) = true := by decide +kernel
def ab_flt_0 : List ab_FL := [(0, 9, 0, 5, 0, 293), (0, 15, 0, 2, 0, 287), (0, 32, 0, 3, 0, 289), (0, 35, 0, 4, 0, 291), (0, 38, 0, 0, 0, 296), (1, 9, 1, 0, 1, 366), (1, 15, 1, 1, 1, 368), (1, 33, 8, 2, 8, 150), (1, 39, 8, 14, 8, 190), (2, 11, 2, 0, 2, 381), (2, 15, 2, 1, 2, 383), (2, 24, 8, 0, 8, 142), (2, 42, 8, 5, 8, 162), (3, 9, 3, 6, 3, 343), (3, 15, 3, 7, 3, 344)]
set_option maxRecDepth 100000 in
theorem ab_flt0_0 : ab_flt_0.all ab_flc = true := by decide +kernel
def ab_flt_1 : List ab_FL := [(3, 18, 3, 2, 3, 336), (3, 22, 3, 3, 3, 338), (3, 25, 3, 4, 3, 340), (3, 28, 3, 5, 3, 342), (3, 31, 8, 0, 8, 141), (3, 34, 8, 3, 8, 154), (3, 37, 8, 1, 8, 147), (3, 52, 3, 1, 3, 301), (3, 55, 3, 0, 3, 298), (4, 9, 4, 1, 4, 269), (4, 15, 4, 2, 4, 270), (4, 18, 4, 0, 4, 267), (4, 22, 7, 5, 7, 246), (5, 9, 5, 2, 5, 322), (6, 9, 6, 3, 6, 107)]
set_option maxRecDepth 100000 in
theorem ab_flt0_1 : ab_flt_1.all ab_flc = true := by decide +kernel
def ab_flt_2 : List ab_FL := [(6, 15, 6, 4, 6, 108), (6, 19, 6, 5, 6, 109), (6, 22, 6, 0, 6, 102), (6, 26, 6, 1, 6, 104), (6, 29, 6, 2, 6, 106), (6, 91, 8, 0, 8, 144), (6, 94, 8, 2, 8, 152), (6, 100, 8, 3, 8, 157), (6, 103, 8, 13, 8, 188), (6, 106, 8, 5, 8, 163), (6, 110, 8, 14, 8, 192), (6, 113, 8, 1, 8, 148), (6, 116, 8, 7, 8, 168), (6, 119, 8, 8, 8, 171), (6, 125, 8, 15, 8, 195)]
set_option maxRecDepth 100000 in
theorem ab_flt0_2 : ab_flt_2.all ab_flc = true := by decide +kernel
def ab_flt_3 : List ab_FL := [(6, 128, 8, 4, 8, 160), (6, 131, 8, 9, 8, 174), (6, 134, 8, 10, 8, 178), (6, 137, 8, 11, 8, 182), (6, 140, 8, 12, 8, 185), (11, 9, 50, 0, 11, 295), (11, 15, 50, 1, 11, 300), (11, 32, 8, 3, 8, 156), (7, 9, 7, 1, 7, 238), (7, 15, 7, 2, 7, 240), (7, 18, 7, 5, 7, 245), (7, 28, 7, 0, 7, 236), (7, 31, 8, 1, 8, 146), (7, 36, 7, 3, 7, 242), (7, 45, 8, 11, 8, 180)]
set_option maxRecDepth 100000 in
theorem ab_flt0_3 : ab_flt_3.all ab_flc = true := by decide +kernel
def ab_flt_4 : List ab_FL := [(7, 48, 8, 10, 8, 176), (7, 51, 8, 7, 8, 166), (8, 9, 8, 1, 8, 145), (8, 17, 8, 5, 8, 161), (8, 20, 8, 6, 8, 164), (8, 23, 8, 7, 8, 165), (8, 27, 8, 8, 8, 169), (8, 30, 8, 9, 8, 172), (8, 33, 8, 10, 8, 175), (8, 36, 8, 11, 8, 179), (8, 39, 8, 12, 8, 183), (8, 42, 8, 13, 8, 186), (8, 45, 8, 14, 8, 189), (8, 48, 8, 15, 8, 193), (8, 54, 8, 0, 8, 140)]
set_option maxRecDepth 100000 in
theorem ab_flt0_4 : ab_flt_4.all ab_flc = true := by decide +kernel
def ab_flt_5 : List ab_FL := [(8, 57, 8, 2, 8, 149), (8, 60, 8, 3, 8, 153), (8, 63, 8, 4, 8, 158), (9, 10, 9, 0, 9, 390), (9, 16, 9, 1, 9, 391), (9, 23, 9, 2, 9, 392), (9, 27, 9, 3, 9, 393), (9, 33, 9, 4, 9, 394), (9, 37, 9, 5, 9, 395), (9, 40, 9, 6, 9, 396), (9, 46, 9, 7, 9, 397), (9, 53, 9, 8, 9, 398), (9, 60, 9, 9, 9, 399), (9, 64, 9, 10, 9, 400), (9, 70, 9, 11, 9, 401)]
set_option maxRecDepth 100000 in
theorem ab_flt0_5 : ab_flt_5.all ab_flc = true := by decide +kernel
def ab_flt_6 : List ab_FL := [(9, 77, 9, 12, 9, 402), (9, 84, 9, 13, 9, 403), (9, 88, 9, 14, 9, 404), (9, 92, 9, 15, 9, 405), (9, 100, 6, 0, 6, 103), (9, 108, 6, 1, 6, 105), (9, 118, 7, 4, 7, 244), (9, 122, 3, 2, 3, 337), (9, 125, 4, 0, 4, 268), (9, 128, 8, 3, 8, 155), (9, 131, 8, 0, 8, 143), (9, 134, 8, 2, 8, 151), (9, 137, 8, 4, 8, 159), (9, 140, 7, 0, 7, 237), (9, 143, 7, 1, 7, 239)]
set_option maxRecDepth 100000 in
theorem ab_flt0_6 : ab_flt_6.all ab_flc = true := by decide +kernel
def ab_flt_7 : List ab_FL := [(9, 146, 7, 2, 7, 241), (9, 168, 8, 7, 8, 167), (9, 171, 8, 8, 8, 170), (9, 177, 8, 9, 8, 173), (9, 180, 8, 10, 8, 177), (9, 183, 8, 11, 8, 181), (9, 186, 8, 12, 8, 184), (9, 189, 8, 13, 8, 187), (9, 196, 7, 5, 7, 247), (9, 203, 8, 14, 8, 191), (9, 210, 8, 15, 8, 194), (9, 233, 0, 2, 0, 288), (9, 235, 0, 3, 0, 290), (9, 238, 0, 4, 0, 292), (9, 241, 0, 5, 0, 294)]
set_option maxRecDepth 100000 in
theorem ab_flt0_7 : ab_flt_7.all ab_flc = true := by decide +kernel
def ab_flt_8 : List ab_FL := [(9, 245, 5, 2, 5, 323), (9, 262, 1, 0, 1, 367), (9, 265, 1, 1, 1, 369), (9, 284, 2, 0, 2, 382), (9, 287, 2, 1, 2, 384), (9, 303, 3, 3, 3, 339), (9, 306, 3, 4, 3, 341), (9, 313, 7, 3, 7, 243), (10, 7, 10, 0, 10, 955), (10, 13, 10, 2, 10, 957), (10, 17, 10, 5, 10, 960), (10, 20, 10, 6, 10, 961), (10, 24, 10, 7, 10, 962), (10, 27, 10, 8, 10, 963), (10, 30, 10, 10, 10, 965)]
set_option maxRecDepth 100000 in
theorem ab_flt0_8 : ab_flt_8.all ab_flc = true := by decide +kernel
def ab_flt_9 : List ab_FL := [(10, 33, 10, 12, 10, 967), (10, 36, 10, 13, 10, 968), (10, 39, 10, 15, 10, 970), (10, 42, 10, 16, 10, 971), (10, 45, 10, 18, 10, 973), (10, 48, 10, 27, 10, 982), (10, 51, 10, 29, 10, 984), (10, 54, 10, 31, 10, 986), (10, 57, 10, 33, 10, 988), (10, 60, 10, 35, 10, 990), (10, 63, 10, 37, 10, 992), (10, 66, 10, 38, 10, 993), (10, 69, 10, 39, 10, 994), (10, 72, 10, 40, 10, 995), (10, 75, 10, 41, 10, 996)]
set_option maxRecDepth 100000 in
theorem ab_flt0_9 : ab_flt_9.all ab_flc = true := by decide +kernel
def ab_flt_10 : List ab_FL := [(10, 78, 10, 42, 10, 997), (10, 81, 10, 43, 10, 998), (10, 84, 10, 44, 10, 999), (10, 87, 10, 45, 10, 1000), (10, 90, 10, 46, 10, 1001), (10, 93, 10, 48, 10, 1003), (10, 96, 10, 49, 10, 1004), (10, 99, 10, 3, 10, 958), (10, 106, 10, 9, 10, 964), (10, 109, 10, 11, 10, 966), (10, 115, 10, 1, 10, 956), (10, 119, 10, 20, 10, 975), (10, 122, 10, 23, 10, 978), (10, 125, 10, 21, 10, 976), (10, 128, 10, 22, 10, 977)]
set_option maxRecDepth 100000 in
theorem ab_flt0_10 : ab_flt_10.all ab_flc = true := by decide +kernel
def ab_flt_11 : List ab_FL := [(10, 136, 10, 24, 10, 979), (10, 146, 10, 28, 10, 983), (10, 149, 10, 25, 10, 980), (10, 163, 10, 30, 10, 985), (10, 166, 10, 32, 10, 987), (10, 169, 10, 34, 10, 989), (10, 172, 10, 36, 10, 991), (10, 175, 10, 26, 10, 981), (10, 200, 10, 4, 10, 959), (10, 203, 10, 14, 10, 969), (10, 209, 10, 17, 10, 972), (10, 212, 10, 19, 10, 974), (10, 337, 10, 47, 10, 1002)]
set_option maxRecDepth 100000 in
theorem ab_flt0_11 : ab_flt_11.all ab_flc = true := by decide +kernel
def ab_flt : List ab_FL := List.append ab_flt_0 (List.append ab_flt_1 (List.append ab_flt_2 (List.append ab_flt_3 (List.append ab_flt_4 (List.append ab_flt_5 (List.append ab_flt_6 (List.append ab_flt_7 (List.append ab_flt_8 (List.append ab_flt_9 (List.append ab_flt_10 (ab_flt_11)))))))))))
theorem ab_all_app {α : Type} {f : α → Bool} {a b : List α} (ha : a.all f = true) (hb : b.all f = true) : (List.append a b).all f = true := by
  show (a ++ b).all f = true
  rw [List.all_append, ha, hb]; rfl
theorem ab_flt0 : ab_flt.all ab_flc = true := ab_all_app ab_flt0_0 (ab_all_app ab_flt0_1 (ab_all_app ab_flt0_2 (ab_all_app ab_flt0_3 (ab_all_app ab_flt0_4 (ab_all_app ab_flt0_5 (ab_all_app ab_flt0_6 (ab_all_app ab_flt0_7 (ab_all_app ab_flt0_8 (ab_all_app ab_flt0_9 (ab_all_app ab_flt0_10 (ab_flt0_11)))))))))))
